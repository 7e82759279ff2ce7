section
variable {p : Program} {l : Launch} {e : Env} {R : Room} {s : State} {m : MethodId} {args : Array Value} {below : List Frame} {meth : Method} {c : Code} {D : va_G} {dA : Nat → ClassId} {B n0 s0 : Nat}
theorem d_C_falseness_0 : decode prog_1_method_14_code 0 = .ok (.aload_n 0, 1) := by decide +kernel
theorem d_C_falseness_1 : decode prog_1_method_14_code 1 = .ok (.iload_n 1, 1) := by decide +kernel
theorem d_C_falseness_2 : decode prog_1_method_14_code 2 = .ok (.invokevirtual 85, 3) := by decide +kernel
theorem d_C_falseness_5 : decode prog_1_method_14_code 5 = .ok (.astore 4, 2) := by decide +kernel
theorem d_C_falseness_7 : decode prog_1_method_14_code 7 = .ok (.aload 4, 2) := by decide +kernel
theorem d_C_falseness_9 : decode prog_1_method_14_code 9 = .ok (.ifnonnull 10, 3) := by decide +kernel
theorem d_C_falseness_12 : decode prog_1_method_14_code 12 = .ok (.aload_n 0, 1) := by decide +kernel
theorem d_C_falseness_13 : decode prog_1_method_14_code 13 = .ok (.iconst 4, 1) := by decide +kernel
theorem d_C_falseness_14 : decode prog_1_method_14_code 14 = .ok (.iconst 0, 1) := by decide +kernel
theorem d_C_falseness_15 : decode prog_1_method_14_code 15 = .ok (.invokevirtual 88, 3) := by decide +kernel
theorem d_C_falseness_18 : decode prog_1_method_14_code 18 = .ok (.ireturn, 1) := by decide +kernel
theorem d_C_falseness_19 : decode prog_1_method_14_code 19 = .ok (.lload_n 2, 1) := by decide +kernel
theorem d_C_falseness_20 : decode prog_1_method_14_code 20 = .ok (.aload_n 0, 1) := by decide +kernel
theorem d_C_falseness_21 : decode prog_1_method_14_code 21 = .ok (.getfield 26, 3) := by decide +kernel
theorem d_C_falseness_24 : decode prog_1_method_14_code 24 = .ok (.invokestatic 157, 3) := by decide +kernel
theorem d_C_falseness_27 : decode prog_1_method_14_code 27 = .ok (.ifCond .ne 11, 3) := by decide +kernel
theorem d_C_falseness_30 : decode prog_1_method_14_code 30 = .ok (.aload_n 0, 1) := by decide +kernel
theorem d_C_falseness_31 : decode prog_1_method_14_code 31 = .ok (.bipush 8, 2) := by decide +kernel
theorem d_C_falseness_33 : decode prog_1_method_14_code 33 = .ok (.iconst 0, 1) := by decide +kernel
theorem d_C_falseness_34 : decode prog_1_method_14_code 34 = .ok (.invokevirtual 88, 3) := by decide +kernel
theorem d_C_falseness_37 : decode prog_1_method_14_code 37 = .ok (.ireturn, 1) := by decide +kernel
theorem d_C_falseness_38 : decode prog_1_method_14_code 38 = .ok (.aload 4, 2) := by decide +kernel
theorem d_C_falseness_40 : decode prog_1_method_14_code 40 = .ok (.iconst 0, 1) := by decide +kernel
theorem d_C_falseness_41 : decode prog_1_method_14_code 41 = .ok (.invokevirtual 149, 3) := by decide +kernel
theorem d_C_falseness_44 : decode prog_1_method_14_code 44 = .ok (.astore 5, 2) := by decide +kernel
theorem d_C_falseness_46 : decode prog_1_method_14_code 46 = .ok (.aload 5, 2) := by decide +kernel
theorem d_C_falseness_48 : decode prog_1_method_14_code 48 = .ok (.getfield 101, 3) := by decide +kernel
theorem d_C_falseness_51 : decode prog_1_method_14_code 51 = .ok (.ifCond .eq 14, 3) := by decide +kernel
theorem d_C_falseness_54 : decode prog_1_method_14_code 54 = .ok (.aload_n 0, 1) := by decide +kernel
theorem d_C_falseness_55 : decode prog_1_method_14_code 55 = .ok (.aload 5, 2) := by decide +kernel
theorem d_C_falseness_57 : decode prog_1_method_14_code 57 = .ok (.getfield 101, 3) := by decide +kernel
theorem d_C_falseness_60 : decode prog_1_method_14_code 60 = .ok (.iconst 0, 1) := by decide +kernel
theorem d_C_falseness_61 : decode prog_1_method_14_code 61 = .ok (.invokevirtual 88, 3) := by decide +kernel
theorem d_C_falseness_64 : decode prog_1_method_14_code 64 = .ok (.ireturn, 1) := by decide +kernel
theorem d_C_falseness_65 : decode prog_1_method_14_code 65 = .ok (.aload_n 0, 1) := by decide +kernel
theorem d_C_falseness_66 : decode prog_1_method_14_code 66 = .ok (.iconst 0, 1) := by decide +kernel
theorem d_C_falseness_67 : decode prog_1_method_14_code 67 = .ok (.aload_n 0, 1) := by decide +kernel
theorem d_C_falseness_68 : decode prog_1_method_14_code 68 = .ok (.aload 5, 2) := by decide +kernel
theorem d_C_falseness_70 : decode prog_1_method_14_code 70 = .ok (.lload_n 2, 1) := by decide +kernel
theorem d_C_falseness_71 : decode prog_1_method_14_code 71 = .ok (.invokevirtual 161, 3) := by decide +kernel
theorem d_C_falseness_74 : decode prog_1_method_14_code 74 = .ok (.invokevirtual 88, 3) := by decide +kernel
theorem d_C_falseness_77 : decode prog_1_method_14_code 77 = .ok (.ireturn, 1) := by decide +kernel
set_option maxRecDepth 20000 in
theorem jc_C_falseness (N : Nat) (l0 : Option Nat) (l1 : Int32) (l2 : Int64) (h : Hp) : J p l e R s m args below meth c prog_1_method_14_code 6 "RingingChamber" 3 72 (some .int) "falseness" D dA B n0 s0 (QM below args s D dA B n0 s0 vI) 0 [(0, vr l0), (1, vi l1), (2, vl l2)] [] h (C_falseness N l0 l1 l2 h) := by
  unfold C_falseness
  refine j_aload_n d_C_falseness_0 0 rfl rfl ?_
  refine j_iload_n d_C_falseness_1 1 rfl rfl ?_
  refine j_vR1 d_C_falseness_2 (allQ.cons (VD.mk vt_11_85_11 (ct_C_methodAt N l D dA B l0 l1 h) (by decide) (by decide)) allQ.nil) (Nat.le_of_ble_eq_true rfl) (fun x2 h1 => ?_)
  refine j_astore (lv' := [(4, vr x2), (0, vr l0), (1, vi l1), (2, vl l2)]) d_C_falseness_5 (by decide) rfl ?_
  refine j_aload d_C_falseness_7 0 rfl ?_
  refine j_ifnonnull (tgt := 19) d_C_falseness_9 (by decide) ?_ ?_
  · refine j_aload_n d_C_falseness_12 1 rfl rfl ?_
    refine j_iconst (v := 4) d_C_falseness_13 (by decide) ?_
    refine j_iconst (v := 0) d_C_falseness_14 (by decide) ?_
    refine j_vI2 d_C_falseness_15 (allQ.cons (VD.mk vt_11_88_11 (ct_C_finds N l D dA B l0 4 0 h1) (by decide) (by decide)) allQ.nil) (Nat.le_of_ble_eq_true rfl) (fun x19 h18 => ?_)
    exact j_retI d_C_falseness_18
  · refine j_lload_n d_C_falseness_19 3 rfl rfl ?_
    refine j_aload_n d_C_falseness_20 1 rfl rfl ?_
    refine j_getI d_C_falseness_21 fl_11_26.r (fun x3 => ?_)
    refine j_cSI2 d_C_falseness_24 sl_11_157 ks_Rows_isRow (ct_Rows_isRow N l D dA B l2 x3 h1) (by decide) (by decide) (Nat.le_of_ble_eq_true rfl) (fun x5 h4 => ?_)
    refine j_if_ne (tgt := 38) d_C_falseness_27 (by decide) ?_ ?_
    · refine j_aload_n d_C_falseness_30 1 rfl rfl ?_
      refine j_bipush (v := 8) d_C_falseness_31 (by decide) ?_
      refine j_iconst (v := 0) d_C_falseness_33 (by decide) ?_
      refine j_vI2 d_C_falseness_34 (allQ.cons (VD.mk vt_11_88_11 (ct_C_finds N l D dA B l0 8 0 h4) (by decide) (by decide)) allQ.nil) (Nat.le_of_ble_eq_true rfl) (fun x17 h16 => ?_)
      exact j_retI d_C_falseness_37
    · refine j_aload d_C_falseness_38 0 rfl ?_
      refine j_iconst (v := 0) d_C_falseness_40 (by decide) ?_
      refine j_vR1 d_C_falseness_41 (allQ.cons (VD.mk vt_11_149_1 (ct_Plain_leadOf N l D dA B x2 0 h4) (by decide) (by decide)) (allQ.cons (VD.mk vt_11_149_2 (ct_Plain_leadOf N l D dA B x2 0 h4) (by decide) (by decide)) (allQ.cons (VD.mk vt_11_149_3 (ct_Principle_leadOf N l D dA B x2 0 h4) (by decide) (by decide)) (allQ.cons (VD.mk vt_11_149_6 (ct_Spliced_leadOf N l D dA B x2 0 h4) (by decide) (by decide)) (allQ.cons (VD.mk vt_11_149_7 (ct_Plain_leadOf N l D dA B x2 0 h4) (by decide) (by decide)) (allQ.cons (VD.mk vt_11_149_10 (ct_Plain_leadOf N l D dA B x2 0 h4) (by decide) (by decide)) allQ.nil)))))) (Nat.le_of_ble_eq_true rfl) (fun x7 h6 => ?_)
      refine j_astore (lv' := [(5, vr x7), (4, vr x2), (0, vr l0), (1, vi l1), (2, vl l2)]) d_C_falseness_44 (by decide) rfl ?_
      refine j_aload d_C_falseness_46 0 rfl ?_
      refine j_getI d_C_falseness_48 fl_11_101.r (fun x8 => ?_)
      refine j_if_eq (tgt := 65) d_C_falseness_51 (by decide) ?_ ?_
      · refine j_aload_n d_C_falseness_65 2 rfl rfl ?_
        refine j_iconst (v := 0) d_C_falseness_66 (by decide) ?_
        refine j_aload_n d_C_falseness_67 2 rfl rfl ?_
        refine j_aload d_C_falseness_68 0 rfl ?_
        refine j_lload_n d_C_falseness_70 4 rfl rfl ?_
        refine j_vI2 d_C_falseness_71 (allQ.cons (VD.mk vt_11_161_11 (ct_C_sharedRows N l D dA B l0 x7 l2 h6) (by decide) (by decide)) allQ.nil) (Nat.le_of_ble_eq_true rfl) (fun x10 h9 => ?_)
        refine j_vI2 d_C_falseness_74 (allQ.cons (VD.mk vt_11_88_11 (ct_C_finds N l D dA B l0 0 x10 h9) (by decide) (by decide)) allQ.nil) (Nat.le_of_ble_eq_true rfl) (fun x12 h11 => ?_)
        exact j_retI d_C_falseness_77
      · refine j_aload_n d_C_falseness_54 2 rfl rfl ?_
        refine j_aload d_C_falseness_55 0 rfl ?_
        refine j_getI d_C_falseness_57 fl_11_101.r (fun x13 => ?_)
        refine j_iconst (v := 0) d_C_falseness_60 (by decide) ?_
        refine j_vI2 d_C_falseness_61 (allQ.cons (VD.mk vt_11_88_11 (ct_C_finds N l D dA B l0 x13 0 h6) (by decide) (by decide)) allQ.nil) (Nat.le_of_ble_eq_true rfl) (fun x15 h14 => ?_)
        exact j_retI d_C_falseness_64
set_option maxRecDepth 20000 in
theorem ct_C_falseness (N : Nat) (l : Launch) (D : va_G) (dA : Nat → ClassId) (B : Nat) (l0 : Option Nat) (l1 : Int32) (l2 : Int64) (h : Hp) : Ct l (⟨"RingingChamber", "falseness", "(IJ)I"⟩ : MethodName) prog_1_method_14_code 6 (some .int) 3 72 D dA B [vr l0, vi l1, vl l2] h vI (C_falseness N l0 l1 l2 h) :=
  Ct.of2 (own := "RingingChamber") (nme := "falseness") (lv := [(0, vr l0), (1, vi l1), (2, vl l2)]) rfl rfl (by decide) (Nat.le_of_ble_eq_true rfl) rfl (fun p e R s m args below meth c => jc_C_falseness N l0 l1 l2 h)
theorem d_C_hasOwnBody_0 : decode prog_1_method_48_code 0 = .ok (.iload_n 1, 1) := by decide +kernel
theorem d_C_hasOwnBody_1 : decode prog_1_method_48_code 1 = .ok (.iconst 2, 1) := by decide +kernel
theorem d_C_hasOwnBody_2 : decode prog_1_method_48_code 2 = .ok (.if_icmp .ne 5, 3) := by decide +kernel
theorem d_C_hasOwnBody_5 : decode prog_1_method_48_code 5 = .ok (.iconst 1, 1) := by decide +kernel
theorem d_C_hasOwnBody_6 : decode prog_1_method_48_code 6 = .ok (.ireturn, 1) := by decide +kernel
theorem d_C_hasOwnBody_7 : decode prog_1_method_48_code 7 = .ok (.iload_n 0, 1) := by decide +kernel
theorem d_C_hasOwnBody_8 : decode prog_1_method_48_code 8 = .ok (.iconst 1, 1) := by decide +kernel
theorem d_C_hasOwnBody_9 : decode prog_1_method_48_code 9 = .ok (.if_icmp .eq 13, 3) := by decide +kernel
theorem d_C_hasOwnBody_12 : decode prog_1_method_48_code 12 = .ok (.iload_n 0, 1) := by decide +kernel
theorem d_C_hasOwnBody_13 : decode prog_1_method_48_code 13 = .ok (.iconst 2, 1) := by decide +kernel
theorem d_C_hasOwnBody_14 : decode prog_1_method_48_code 14 = .ok (.if_icmp .eq 8, 3) := by decide +kernel
theorem d_C_hasOwnBody_17 : decode prog_1_method_48_code 17 = .ok (.iload_n 0, 1) := by decide +kernel
theorem d_C_hasOwnBody_18 : decode prog_1_method_48_code 18 = .ok (.iconst 3, 1) := by decide +kernel
theorem d_C_hasOwnBody_19 : decode prog_1_method_48_code 19 = .ok (.if_icmp .ne 7, 3) := by decide +kernel
theorem d_C_hasOwnBody_22 : decode prog_1_method_48_code 22 = .ok (.iconst 1, 1) := by decide +kernel
theorem d_C_hasOwnBody_23 : decode prog_1_method_48_code 23 = .ok (.goto 4, 3) := by decide +kernel
theorem d_C_hasOwnBody_26 : decode prog_1_method_48_code 26 = .ok (.iconst 0, 1) := by decide +kernel
theorem d_C_hasOwnBody_27 : decode prog_1_method_48_code 27 = .ok (.istore_n 2, 1) := by decide +kernel
theorem d_C_hasOwnBody_28 : decode prog_1_method_48_code 28 = .ok (.iload_n 1, 1) := by decide +kernel
theorem d_C_hasOwnBody_29 : decode prog_1_method_48_code 29 = .ok (.ifCond .ne 15, 3) := by decide +kernel
theorem d_C_hasOwnBody_32 : decode prog_1_method_48_code 32 = .ok (.iload_n 2, 1) := by decide +kernel
theorem d_C_hasOwnBody_33 : decode prog_1_method_48_code 33 = .ok (.ifCond .ne 7, 3) := by decide +kernel
theorem d_C_hasOwnBody_36 : decode prog_1_method_48_code 36 = .ok (.iconst 1, 1) := by decide +kernel
theorem d_C_hasOwnBody_37 : decode prog_1_method_48_code 37 = .ok (.goto 17, 3) := by decide +kernel
theorem d_C_hasOwnBody_40 : decode prog_1_method_48_code 40 = .ok (.iconst 0, 1) := by decide +kernel
theorem d_C_hasOwnBody_41 : decode prog_1_method_48_code 41 = .ok (.goto 13, 3) := by decide +kernel
theorem d_C_hasOwnBody_44 : decode prog_1_method_48_code 44 = .ok (.iload_n 0, 1) := by decide +kernel
theorem d_C_hasOwnBody_45 : decode prog_1_method_48_code 45 = .ok (.iconst 2, 1) := by decide +kernel
theorem d_C_hasOwnBody_46 : decode prog_1_method_48_code 46 = .ok (.if_icmp .eq 7, 3) := by decide +kernel
theorem d_C_hasOwnBody_49 : decode prog_1_method_48_code 49 = .ok (.iconst 1, 1) := by decide +kernel
theorem d_C_hasOwnBody_50 : decode prog_1_method_48_code 50 = .ok (.goto 4, 3) := by decide +kernel
theorem d_C_hasOwnBody_53 : decode prog_1_method_48_code 53 = .ok (.iconst 0, 1) := by decide +kernel
theorem d_C_hasOwnBody_54 : decode prog_1_method_48_code 54 = .ok (.ireturn, 1) := by decide +kernel
set_option maxRecDepth 20000 in
theorem jc_C_hasOwnBody_27 (N : Nat) (l0 : Int32) (l1 : Int32) (u0 : Int32) (h : Hp) : J p l e R s m args below meth c prog_1_method_48_code 3 "RingingChamber" 0 0 (some .boolean) "hasOwnBody" D dA B n0 s0 (QM below args s D dA B n0 s0 vI) 27 [(0, vi l0), (1, vi l1)] [vi u0] h (C_hasOwnBody_27 N l0 l1 u0 h) := by
  unfold C_hasOwnBody_27
  refine j_istore_n (lv' := [(2, vi u0), (0, vi l0), (1, vi l1)]) d_C_hasOwnBody_27 rfl (by decide) rfl ?_
  refine j_iload_n d_C_hasOwnBody_28 2 rfl rfl ?_
  refine j_if_ne (tgt := 44) d_C_hasOwnBody_29 (by decide) ?_ ?_
  · refine j_iload_n d_C_hasOwnBody_32 0 rfl rfl ?_
    refine j_if_ne (tgt := 40) d_C_hasOwnBody_33 (by decide) ?_ ?_
    · refine j_iconst (v := 1) d_C_hasOwnBody_36 (by decide) ?_
      refine j_goto (tgt := 54) d_C_hasOwnBody_37 (by decide) ?_
      exact j_retZ d_C_hasOwnBody_54
    · refine j_iconst (v := 0) d_C_hasOwnBody_40 (by decide) ?_
      refine j_goto (tgt := 54) d_C_hasOwnBody_41 (by decide) ?_
      exact j_retZ d_C_hasOwnBody_54
  · refine j_iload_n d_C_hasOwnBody_44 1 rfl rfl ?_
    refine j_iconst (v := 2) d_C_hasOwnBody_45 (by decide) ?_
    refine j_icmp_eq (tgt := 53) d_C_hasOwnBody_46 (by decide) ?_ ?_
    · refine j_iconst (v := 0) d_C_hasOwnBody_53 (by decide) ?_
      exact j_retZ d_C_hasOwnBody_54
    · refine j_iconst (v := 1) d_C_hasOwnBody_49 (by decide) ?_
      refine j_goto (tgt := 54) d_C_hasOwnBody_50 (by decide) ?_
      exact j_retZ d_C_hasOwnBody_54
set_option maxRecDepth 20000 in
theorem jc_C_hasOwnBody_22 (N : Nat) (l0 : Int32) (l1 : Int32) (h : Hp) : J p l e R s m args below meth c prog_1_method_48_code 3 "RingingChamber" 0 0 (some .boolean) "hasOwnBody" D dA B n0 s0 (QM below args s D dA B n0 s0 vI) 22 [(0, vi l0), (1, vi l1)] [] h (C_hasOwnBody_22 N l0 l1 h) := by
  unfold C_hasOwnBody_22
  refine j_iconst (v := 1) d_C_hasOwnBody_22 (by decide) ?_
  refine j_goto (tgt := 27) d_C_hasOwnBody_23 (by decide) ?_
  exact jc_C_hasOwnBody_27 N l0 l1 1 h
set_option maxRecDepth 20000 in
theorem jc_C_hasOwnBody (N : Nat) (l0 : Int32) (l1 : Int32) (h : Hp) : J p l e R s m args below meth c prog_1_method_48_code 3 "RingingChamber" 0 0 (some .boolean) "hasOwnBody" D dA B n0 s0 (QM below args s D dA B n0 s0 vI) 0 [(0, vi l0), (1, vi l1)] [] h (C_hasOwnBody N l0 l1 h) := by
  unfold C_hasOwnBody
  refine j_iload_n d_C_hasOwnBody_0 1 rfl rfl ?_
  refine j_iconst (v := 2) d_C_hasOwnBody_1 (by decide) ?_
  refine j_icmp_ne (tgt := 7) d_C_hasOwnBody_2 (by decide) ?_ ?_
  · refine j_iconst (v := 1) d_C_hasOwnBody_5 (by decide) ?_
    exact j_retZ d_C_hasOwnBody_6
  · refine j_iload_n d_C_hasOwnBody_7 0 rfl rfl ?_
    refine j_iconst (v := 1) d_C_hasOwnBody_8 (by decide) ?_
    refine j_icmp_eq (tgt := 22) d_C_hasOwnBody_9 (by decide) ?_ ?_
    · exact jc_C_hasOwnBody_22 N l0 l1 h
    · refine j_iload_n d_C_hasOwnBody_12 0 rfl rfl ?_
      refine j_iconst (v := 2) d_C_hasOwnBody_13 (by decide) ?_
      refine j_icmp_eq (tgt := 22) d_C_hasOwnBody_14 (by decide) ?_ ?_
      · exact jc_C_hasOwnBody_22 N l0 l1 h
      · refine j_iload_n d_C_hasOwnBody_17 0 rfl rfl ?_
        refine j_iconst (v := 3) d_C_hasOwnBody_18 (by decide) ?_
        refine j_icmp_ne (tgt := 26) d_C_hasOwnBody_19 (by decide) ?_ ?_
        · exact jc_C_hasOwnBody_22 N l0 l1 h
        · refine j_iconst (v := 0) d_C_hasOwnBody_26 (by decide) ?_
          exact jc_C_hasOwnBody_27 N l0 l1 0 h
set_option maxRecDepth 20000 in
theorem ct_C_hasOwnBody (N : Nat) (l : Launch) (D : va_G) (dA : Nat → ClassId) (B : Nat) (l0 : Int32) (l1 : Int32) (h : Hp) : Ct l (⟨"RingingChamber", "hasOwnBody", "(II)Z"⟩ : MethodName) prog_1_method_48_code 3 (some .boolean) 0 0 D dA B [vi l0, vi l1] h vI (C_hasOwnBody N l0 l1 h) :=
  Ct.of2 (own := "RingingChamber") (nme := "hasOwnBody") (lv := [(0, vi l0), (1, vi l1)]) rfl rfl (by decide) (Nat.le_of_ble_eq_true rfl) rfl (fun p e R s m args below meth c => jc_C_hasOwnBody N l0 l1 h)
theorem d_C_trace_0 : decode prog_1_method_15_code 0 = .ok (.iload_n 1, 1) := by decide +kernel
theorem d_C_trace_1 : decode prog_1_method_15_code 1 = .ok (.ifCond .lt 26, 3) := by decide +kernel
theorem d_C_trace_4 : decode prog_1_method_15_code 4 = .ok (.iload_n 1, 1) := by decide +kernel
theorem d_C_trace_5 : decode prog_1_method_15_code 5 = .ok (.bipush 6, 2) := by decide +kernel
theorem d_C_trace_7 : decode prog_1_method_15_code 7 = .ok (.if_icmp .ge 20, 3) := by decide +kernel
theorem d_C_trace_10 : decode prog_1_method_15_code 10 = .ok (.iload_n 2, 1) := by decide +kernel
theorem d_C_trace_11 : decode prog_1_method_15_code 11 = .ok (.ifCond .lt 16, 3) := by decide +kernel
theorem d_C_trace_14 : decode prog_1_method_15_code 14 = .ok (.iload_n 2, 1) := by decide +kernel
theorem d_C_trace_15 : decode prog_1_method_15_code 15 = .ok (.iconst 3, 1) := by decide +kernel
theorem d_C_trace_16 : decode prog_1_method_15_code 16 = .ok (.if_icmp .ge 11, 3) := by decide +kernel
theorem d_C_trace_19 : decode prog_1_method_15_code 19 = .ok (.iload_n 1, 1) := by decide +kernel
theorem d_C_trace_20 : decode prog_1_method_15_code 20 = .ok (.iload_n 2, 1) := by decide +kernel
theorem d_C_trace_21 : decode prog_1_method_15_code 21 = .ok (.invokestatic 165, 3) := by decide +kernel
theorem d_C_trace_24 : decode prog_1_method_15_code 24 = .ok (.ifCond .ne 5, 3) := by decide +kernel
theorem d_C_trace_27 : decode prog_1_method_15_code 27 = .ok (.iconst (-1), 1) := by decide +kernel
theorem d_C_trace_28 : decode prog_1_method_15_code 28 = .ok (.ireturn, 1) := by decide +kernel
theorem d_C_trace_29 : decode prog_1_method_15_code 29 = .ok (.aload_n 0, 1) := by decide +kernel
theorem d_C_trace_30 : decode prog_1_method_15_code 30 = .ok (.getfield 16, 3) := by decide +kernel
theorem d_C_trace_33 : decode prog_1_method_15_code 33 = .ok (.iload_n 1, 1) := by decide +kernel
theorem d_C_trace_34 : decode prog_1_method_15_code 34 = .ok (.iconst 3, 1) := by decide +kernel
theorem d_C_trace_35 : decode prog_1_method_15_code 35 = .ok (.imul, 1) := by decide +kernel
theorem d_C_trace_36 : decode prog_1_method_15_code 36 = .ok (.iload_n 2, 1) := by decide +kernel
theorem d_C_trace_37 : decode prog_1_method_15_code 37 = .ok (.iadd, 1) := by decide +kernel
theorem d_C_trace_38 : decode prog_1_method_15_code 38 = .ok (.iaload, 1) := by decide +kernel
theorem d_C_trace_39 : decode prog_1_method_15_code 39 = .ok (.ireturn, 1) := by decide +kernel
set_option maxRecDepth 20000 in
theorem jc_C_trace (N : Nat) (l0 : Option Nat) (l1 : Int32) (l2 : Int32) (h : Hp) : J p l e R s m args below meth c prog_1_method_15_code 3 "RingingChamber" 1 22 (some .int) "trace" D dA B n0 s0 (QM below args s D dA B n0 s0 vI) 0 [(0, vr l0), (1, vi l1), (2, vi l2)] [] h (C_trace N l0 l1 l2 h) := by
  unfold C_trace
  refine j_iload_n d_C_trace_0 1 rfl rfl ?_
  refine j_if_lt (tgt := 27) d_C_trace_1 (by decide) ?_ ?_
  · refine j_iconst (v := -1) d_C_trace_27 (by decide) ?_
    exact j_retI d_C_trace_28
  · refine j_iload_n d_C_trace_4 1 rfl rfl ?_
    refine j_bipush (v := 6) d_C_trace_5 (by decide) ?_
    refine j_icmp_ge (tgt := 27) d_C_trace_7 (by decide) ?_ ?_
    · refine j_iconst (v := -1) d_C_trace_27 (by decide) ?_
      exact j_retI d_C_trace_28
    · refine j_iload_n d_C_trace_10 2 rfl rfl ?_
      refine j_if_lt (tgt := 27) d_C_trace_11 (by decide) ?_ ?_
      · refine j_iconst (v := -1) d_C_trace_27 (by decide) ?_
        exact j_retI d_C_trace_28
      · refine j_iload_n d_C_trace_14 2 rfl rfl ?_
        refine j_iconst (v := 3) d_C_trace_15 (by decide) ?_
        refine j_icmp_ge (tgt := 27) d_C_trace_16 (by decide) ?_ ?_
        · refine j_iconst (v := -1) d_C_trace_27 (by decide) ?_
          exact j_retI d_C_trace_28
        · refine j_iload_n d_C_trace_19 1 rfl rfl ?_
          refine j_iload_n d_C_trace_20 2 rfl rfl ?_
          refine j_cSI2 d_C_trace_21 sl_11_165 ks_C_hasOwnBody (ct_C_hasOwnBody N l D dA B l1 l2 h) (by decide) (by decide) (Nat.le_of_ble_eq_true rfl) (fun x2 h1 => ?_)
          refine j_if_ne (tgt := 29) d_C_trace_24 (by decide) ?_ ?_
          · refine j_iconst (v := -1) d_C_trace_27 (by decide) ?_
            exact j_retI d_C_trace_28
          · refine j_aload_n d_C_trace_29 0 rfl rfl ?_
            refine j_getR d_C_trace_30 fl_11_16.r (fun x3 => ?_)
            refine j_iload_n d_C_trace_33 1 rfl rfl ?_
            refine j_iconst (v := 3) d_C_trace_34 (by decide) ?_
            refine j_imul d_C_trace_35 ?_
            refine j_iload_n d_C_trace_36 2 rfl rfl ?_
            refine j_iadd d_C_trace_37 ?_
            refine j_iald d_C_trace_38 (fun x4 => ?_)
            exact j_retI d_C_trace_39
set_option maxRecDepth 20000 in
theorem ct_C_trace (N : Nat) (l : Launch) (D : va_G) (dA : Nat → ClassId) (B : Nat) (l0 : Option Nat) (l1 : Int32) (l2 : Int32) (h : Hp) : Ct l (⟨"RingingChamber", "trace", "(II)I"⟩ : MethodName) prog_1_method_15_code 3 (some .int) 1 22 D dA B [vr l0, vi l1, vi l2] h vI (C_trace N l0 l1 l2 h) :=
  Ct.of2 (own := "RingingChamber") (nme := "trace") (lv := [(0, vr l0), (1, vi l1), (2, vi l2)]) rfl rfl (by decide) (Nat.le_of_ble_eq_true rfl) rfl (fun p e R s m args below meth c => jc_C_trace N l0 l1 l2 h)
theorem d_C_change_0 : decode prog_1_method_16_code 0 = .ok (.lload_n 1, 1) := by decide +kernel
theorem d_C_change_1 : decode prog_1_method_16_code 1 = .ok (.aload_n 0, 1) := by decide +kernel
theorem d_C_change_2 : decode prog_1_method_16_code 2 = .ok (.getfield 26, 3) := by decide +kernel
theorem d_C_change_5 : decode prog_1_method_16_code 5 = .ok (.invokestatic 157, 3) := by decide +kernel
theorem d_C_change_8 : decode prog_1_method_16_code 8 = .ok (.ifCond .eq 14, 3) := by decide +kernel
theorem d_C_change_11 : decode prog_1_method_16_code 11 = .ok (.iload_n 3, 1) := by decide +kernel
theorem d_C_change_12 : decode prog_1_method_16_code 12 = .ok (.aload_n 0, 1) := by decide +kernel
theorem d_C_change_13 : decode prog_1_method_16_code 13 = .ok (.getfield 26, 3) := by decide +kernel
theorem d_C_change_16 : decode prog_1_method_16_code 16 = .ok (.invokestatic 107, 3) := by decide +kernel
theorem d_C_change_19 : decode prog_1_method_16_code 19 = .ok (.ifCond .ne 12, 3) := by decide +kernel
theorem d_C_change_22 : decode prog_1_method_16_code 22 = .ok (.aload_n 0, 1) := by decide +kernel
theorem d_C_change_23 : decode prog_1_method_16_code 23 = .ok (.bipush 8, 2) := by decide +kernel
theorem d_C_change_25 : decode prog_1_method_16_code 25 = .ok (.iconst 0, 1) := by decide +kernel
theorem d_C_change_26 : decode prog_1_method_16_code 26 = .ok (.invokevirtual 88, 3) := by decide +kernel
theorem d_C_change_29 : decode prog_1_method_16_code 29 = .ok (.i2l, 1) := by decide +kernel
theorem d_C_change_30 : decode prog_1_method_16_code 30 = .ok (.lreturn, 1) := by decide +kernel
theorem d_C_change_31 : decode prog_1_method_16_code 31 = .ok (.aload_n 0, 1) := by decide +kernel
theorem d_C_change_32 : decode prog_1_method_16_code 32 = .ok (.lload_n 1, 1) := by decide +kernel
theorem d_C_change_33 : decode prog_1_method_16_code 33 = .ok (.iload_n 3, 1) := by decide +kernel
theorem d_C_change_34 : decode prog_1_method_16_code 34 = .ok (.invokestatic 168, 3) := by decide +kernel
theorem d_C_change_37 : decode prog_1_method_16_code 37 = .ok (.invokevirtual 146, 3) := by decide +kernel
theorem d_C_change_40 : decode prog_1_method_16_code 40 = .ok (.lreturn, 1) := by decide +kernel
set_option maxRecDepth 20000 in
theorem jc_C_change_22 (N : Nat) (l0 : Option Nat) (h : Hp) : J p l e R s m args below meth c prog_1_method_16_code 4 "RingingChamber" 3 69 (some .long) "change" D dA B n0 s0 (QM below args s D dA B n0 s0 vL) 22 [(0, vr l0)] [] h (C_change_22 N l0 h) := by
  unfold C_change_22
  refine j_aload_n d_C_change_22 0 rfl rfl ?_
  refine j_bipush (v := 8) d_C_change_23 (by decide) ?_
  refine j_iconst (v := 0) d_C_change_25 (by decide) ?_
  refine j_vI2 d_C_change_26 (allQ.cons (VD.mk vt_11_88_11 (ct_C_finds N l D dA B l0 8 0 h) (by decide) (by decide)) allQ.nil) (Nat.le_of_ble_eq_true rfl) (fun x2 h1 => ?_)
  refine j_i2l d_C_change_29 ?_
  exact j_retL d_C_change_30
set_option maxRecDepth 20000 in
theorem jc_C_change (N : Nat) (l0 : Option Nat) (l1 : Int64) (l3 : Int32) (h : Hp) : J p l e R s m args below meth c prog_1_method_16_code 4 "RingingChamber" 3 69 (some .long) "change" D dA B n0 s0 (QM below args s D dA B n0 s0 vL) 0 [(0, vr l0), (1, vl l1), (3, vi l3)] [] h (C_change N l0 l1 l3 h) := by
  unfold C_change
  refine j_lload_n d_C_change_0 1 rfl rfl ?_
  refine j_aload_n d_C_change_1 0 rfl rfl ?_
  refine j_getI d_C_change_2 fl_11_26.r (fun x1 => ?_)
  refine j_cSI2 d_C_change_5 sl_11_157 ks_Rows_isRow (ct_Rows_isRow N l D dA B l1 x1 h) (by decide) (by decide) (Nat.le_of_ble_eq_true rfl) (fun x3 h2 => ?_)
  refine j_if_eq (tgt := 22) d_C_change_8 (by decide) ?_ ?_
  · exact J.sub [0] rfl (jc_C_change_22 N l0 h2)
  · refine j_iload_n d_C_change_11 2 rfl rfl ?_
    refine j_aload_n d_C_change_12 0 rfl rfl ?_
    refine j_getI d_C_change_13 fl_11_26.r (fun x4 => ?_)
    refine j_cSI2 d_C_change_16 sl_11_107 ks_Rows_isChange (ct_Rows_isChange N l D dA B l3 x4 h2) (by decide) (by decide) (Nat.le_of_ble_eq_true rfl) (fun x6 h5 => ?_)
    refine j_if_ne (tgt := 31) d_C_change_19 (by decide) ?_ ?_
    · exact J.sub [0] rfl (jc_C_change_22 N l0 h5)
    · refine j_aload_n d_C_change_31 0 rfl rfl ?_
      refine j_lload_n d_C_change_32 1 rfl rfl ?_
      refine j_iload_n d_C_change_33 2 rfl rfl ?_
      refine j_cSL2 d_C_change_34 sl_11_168 ks_Rows_changed (ct_Rows_changed N l D dA B l1 l3 h5) (by decide) (by decide) (Nat.le_of_ble_eq_true rfl) (fun x8 h7 => ?_)
      refine j_vL1 d_C_change_37 (allQ.cons (VD.mk vt_11_146_11 (ct_C_findsRow N l D dA B l0 x8 h7) (by decide) (by decide)) allQ.nil) (Nat.le_of_ble_eq_true rfl) (fun x10 h9 => ?_)
      exact j_retL d_C_change_40
set_option maxRecDepth 20000 in
theorem ct_C_change (N : Nat) (l : Launch) (D : va_G) (dA : Nat → ClassId) (B : Nat) (l0 : Option Nat) (l1 : Int64) (l3 : Int32) (h : Hp) : Ct l (⟨"RingingChamber", "change", "(JI)J"⟩ : MethodName) prog_1_method_16_code 4 (some .long) 3 69 D dA B [vr l0, vl l1, vi l3] h vL (C_change N l0 l1 l3 h) :=
  Ct.of2 (own := "RingingChamber") (nme := "change") (lv := [(0, vr l0), (1, vl l1), (3, vi l3)]) rfl rfl (by decide) (Nat.le_of_ble_eq_true rfl) rfl (fun p e R s m args below meth c => jc_C_change N l0 l1 l3 h)
theorem d_C_number_0 : decode prog_1_method_17_code 0 = .ok (.lload_n 1, 1) := by decide +kernel
theorem d_C_number_1 : decode prog_1_method_17_code 1 = .ok (.aload_n 0, 1) := by decide +kernel
theorem d_C_number_2 : decode prog_1_method_17_code 2 = .ok (.getfield 26, 3) := by decide +kernel
theorem d_C_number_5 : decode prog_1_method_17_code 5 = .ok (.invokestatic 157, 3) := by decide +kernel
theorem d_C_number_8 : decode prog_1_method_17_code 8 = .ok (.ifCond .ne 11, 3) := by decide +kernel
theorem d_C_number_11 : decode prog_1_method_17_code 11 = .ok (.aload_n 0, 1) := by decide +kernel
theorem d_C_number_12 : decode prog_1_method_17_code 12 = .ok (.bipush 8, 2) := by decide +kernel
theorem d_C_number_14 : decode prog_1_method_17_code 14 = .ok (.iconst (-1), 1) := by decide +kernel
theorem d_C_number_15 : decode prog_1_method_17_code 15 = .ok (.invokevirtual 88, 3) := by decide +kernel
theorem d_C_number_18 : decode prog_1_method_17_code 18 = .ok (.ireturn, 1) := by decide +kernel
theorem d_C_number_19 : decode prog_1_method_17_code 19 = .ok (.aload_n 0, 1) := by decide +kernel
theorem d_C_number_20 : decode prog_1_method_17_code 20 = .ok (.iconst 0, 1) := by decide +kernel
theorem d_C_number_21 : decode prog_1_method_17_code 21 = .ok (.lload_n 1, 1) := by decide +kernel
theorem d_C_number_22 : decode prog_1_method_17_code 22 = .ok (.aload_n 0, 1) := by decide +kernel
theorem d_C_number_23 : decode prog_1_method_17_code 23 = .ok (.getfield 26, 3) := by decide +kernel
theorem d_C_number_26 : decode prog_1_method_17_code 26 = .ok (.invokestatic 172, 3) := by decide +kernel
theorem d_C_number_29 : decode prog_1_method_17_code 29 = .ok (.invokevirtual 88, 3) := by decide +kernel
theorem d_C_number_32 : decode prog_1_method_17_code 32 = .ok (.ireturn, 1) := by decide +kernel
set_option maxRecDepth 20000 in
theorem jc_C_number (N : Nat) (l0 : Option Nat) (l1 : Int64) (h : Hp) : J p l e R s m args below meth c prog_1_method_17_code 3 "RingingChamber" 3 69 (some .int) "number" D dA B n0 s0 (QM below args s D dA B n0 s0 vI) 0 [(0, vr l0), (1, vl l1)] [] h (C_number N l0 l1 h) := by
  unfold C_number
  refine j_lload_n d_C_number_0 1 rfl rfl ?_
  refine j_aload_n d_C_number_1 0 rfl rfl ?_
  refine j_getI d_C_number_2 fl_11_26.r (fun x1 => ?_)
  refine j_cSI2 d_C_number_5 sl_11_157 ks_Rows_isRow (ct_Rows_isRow N l D dA B l1 x1 h) (by decide) (by decide) (Nat.le_of_ble_eq_true rfl) (fun x3 h2 => ?_)
  refine j_if_ne (tgt := 19) d_C_number_8 (by decide) ?_ ?_
  · refine j_aload_n d_C_number_11 0 rfl rfl ?_
    refine j_bipush (v := 8) d_C_number_12 (by decide) ?_
    refine j_iconst (v := -1) d_C_number_14 (by decide) ?_
    refine j_vI2 d_C_number_15 (allQ.cons (VD.mk vt_11_88_11 (ct_C_finds N l D dA B l0 8 (-1) h2) (by decide) (by decide)) allQ.nil) (Nat.le_of_ble_eq_true rfl) (fun x10 h9 => ?_)
    exact j_retI d_C_number_18
  · refine j_aload_n d_C_number_19 0 rfl rfl ?_
    refine j_iconst (v := 0) d_C_number_20 (by decide) ?_
    refine j_lload_n d_C_number_21 1 rfl rfl ?_
    refine j_aload_n d_C_number_22 0 rfl rfl ?_
    refine j_getI d_C_number_23 fl_11_26.r (fun x4 => ?_)
    refine j_cSI2 d_C_number_26 sl_11_172 ks_Rows_numberOf (ct_Rows_numberOf N l D dA B l1 x4 h2) (by decide) (by decide) (Nat.le_of_ble_eq_true rfl) (fun x6 h5 => ?_)
    refine j_vI2 d_C_number_29 (allQ.cons (VD.mk vt_11_88_11 (ct_C_finds N l D dA B l0 0 x6 h5) (by decide) (by decide)) allQ.nil) (Nat.le_of_ble_eq_true rfl) (fun x8 h7 => ?_)
    exact j_retI d_C_number_32
set_option maxRecDepth 20000 in
theorem ct_C_number (N : Nat) (l : Launch) (D : va_G) (dA : Nat → ClassId) (B : Nat) (l0 : Option Nat) (l1 : Int64) (h : Hp) : Ct l (⟨"RingingChamber", "number", "(J)I"⟩ : MethodName) prog_1_method_17_code 3 (some .int) 3 69 D dA B [vr l0, vl l1] h vI (C_number N l0 l1 h) :=
  Ct.of2 (own := "RingingChamber") (nme := "number") (lv := [(0, vr l0), (1, vl l1)]) rfl rfl (by decide) (Nat.le_of_ble_eq_true rfl) rfl (fun p e R s m args below meth c => jc_C_number N l0 l1 h)
theorem d_C_ofNumber_0 : decode prog_1_method_18_code 0 = .ok (.iload_n 1, 1) := by decide +kernel
theorem d_C_ofNumber_1 : decode prog_1_method_18_code 1 = .ok (.aload_n 0, 1) := by decide +kernel
theorem d_C_ofNumber_2 : decode prog_1_method_18_code 2 = .ok (.getfield 26, 3) := by decide +kernel
theorem d_C_ofNumber_5 : decode prog_1_method_18_code 5 = .ok (.invokestatic 175, 3) := by decide +kernel
theorem d_C_ofNumber_8 : decode prog_1_method_18_code 8 = .ok (.lstore_n 2, 1) := by decide +kernel
theorem d_C_ofNumber_9 : decode prog_1_method_18_code 9 = .ok (.lload_n 2, 1) := by decide +kernel
theorem d_C_ofNumber_10 : decode prog_1_method_18_code 10 = .ok (.lconst 0, 1) := by decide +kernel
theorem d_C_ofNumber_11 : decode prog_1_method_18_code 11 = .ok (.lcmp, 1) := by decide +kernel
theorem d_C_ofNumber_12 : decode prog_1_method_18_code 12 = .ok (.ifCond .ne 11, 3) := by decide +kernel
theorem d_C_ofNumber_15 : decode prog_1_method_18_code 15 = .ok (.aload_n 0, 1) := by decide +kernel
theorem d_C_ofNumber_16 : decode prog_1_method_18_code 16 = .ok (.iconst 2, 1) := by decide +kernel
theorem d_C_ofNumber_17 : decode prog_1_method_18_code 17 = .ok (.iconst 0, 1) := by decide +kernel
theorem d_C_ofNumber_18 : decode prog_1_method_18_code 18 = .ok (.invokevirtual 88, 3) := by decide +kernel
theorem d_C_ofNumber_21 : decode prog_1_method_18_code 21 = .ok (.i2l, 1) := by decide +kernel
theorem d_C_ofNumber_22 : decode prog_1_method_18_code 22 = .ok (.lreturn, 1) := by decide +kernel
theorem d_C_ofNumber_23 : decode prog_1_method_18_code 23 = .ok (.aload_n 0, 1) := by decide +kernel
theorem d_C_ofNumber_24 : decode prog_1_method_18_code 24 = .ok (.lload_n 2, 1) := by decide +kernel
theorem d_C_ofNumber_25 : decode prog_1_method_18_code 25 = .ok (.invokevirtual 146, 3) := by decide +kernel
theorem d_C_ofNumber_28 : decode prog_1_method_18_code 28 = .ok (.lreturn, 1) := by decide +kernel
set_option maxRecDepth 20000 in
theorem jc_C_ofNumber (N : Nat) (l0 : Option Nat) (l1 : Int32) (h : Hp) : J p l e R s m args below meth c prog_1_method_18_code 4 "RingingChamber" 3 75 (some .long) "ofNumber" D dA B n0 s0 (QM below args s D dA B n0 s0 vL) 0 [(0, vr l0), (1, vi l1)] [] h (C_ofNumber N l0 l1 h) := by
  unfold C_ofNumber
  refine j_iload_n d_C_ofNumber_0 1 rfl rfl ?_
  refine j_aload_n d_C_ofNumber_1 0 rfl rfl ?_
  refine j_getI d_C_ofNumber_2 fl_11_26.r (fun x1 => ?_)
  refine j_cSL2 d_C_ofNumber_5 sl_11_175 ks_Rows_rowOf (ct_Rows_rowOf N l D dA B l1 x1 h) (by decide) (by decide) (Nat.le_of_ble_eq_true rfl) (fun x3 h2 => ?_)
  refine j_lstore_n (lv' := [(2, vl x3), (0, vr l0), (1, vi l1)]) d_C_ofNumber_8 rfl (by decide) rfl ?_
  refine j_lload_n d_C_ofNumber_9 0 rfl rfl ?_
  refine j_lconst (v := 0) d_C_ofNumber_10 (by decide) ?_
  refine j_lcmp d_C_ofNumber_11 ?_
  refine j_if_ne (tgt := 23) d_C_ofNumber_12 (by decide) ?_ ?_
  · refine j_aload_n d_C_ofNumber_15 1 rfl rfl ?_
    refine j_iconst (v := 2) d_C_ofNumber_16 (by decide) ?_
    refine j_iconst (v := 0) d_C_ofNumber_17 (by decide) ?_
    refine j_vI2 d_C_ofNumber_18 (allQ.cons (VD.mk vt_11_88_11 (ct_C_finds N l D dA B l0 2 0 h2) (by decide) (by decide)) allQ.nil) (Nat.le_of_ble_eq_true rfl) (fun x7 h6 => ?_)
    refine j_i2l d_C_ofNumber_21 ?_
    exact j_retL d_C_ofNumber_22
  · refine j_aload_n d_C_ofNumber_23 1 rfl rfl ?_
    refine j_lload_n d_C_ofNumber_24 0 rfl rfl ?_
    refine j_vL1 d_C_ofNumber_25 (allQ.cons (VD.mk vt_11_146_11 (ct_C_findsRow N l D dA B l0 x3 h2) (by decide) (by decide)) allQ.nil) (Nat.le_of_ble_eq_true rfl) (fun x5 h4 => ?_)
    exact j_retL d_C_ofNumber_28
set_option maxRecDepth 20000 in
theorem ct_C_ofNumber (N : Nat) (l : Launch) (D : va_G) (dA : Nat → ClassId) (B : Nat) (l0 : Option Nat) (l1 : Int32) (h : Hp) : Ct l (⟨"RingingChamber", "ofNumber", "(I)J"⟩ : MethodName) prog_1_method_18_code 4 (some .long) 3 75 D dA B [vr l0, vi l1] h vL (C_ofNumber N l0 l1 h) :=
  Ct.of2 (own := "RingingChamber") (nme := "ofNumber") (lv := [(0, vr l0), (1, vi l1)]) rfl rfl (by decide) (Nat.le_of_ble_eq_true rfl) rfl (fun p e R s m args below meth c => jc_C_ofNumber N l0 l1 h)
theorem d_C_product_0 : decode prog_1_method_19_code 0 = .ok (.lload_n 1, 1) := by decide +kernel
theorem d_C_product_1 : decode prog_1_method_19_code 1 = .ok (.aload_n 0, 1) := by decide +kernel
theorem d_C_product_2 : decode prog_1_method_19_code 2 = .ok (.getfield 26, 3) := by decide +kernel
theorem d_C_product_5 : decode prog_1_method_19_code 5 = .ok (.invokestatic 157, 3) := by decide +kernel
theorem d_C_product_8 : decode prog_1_method_19_code 8 = .ok (.ifCond .eq 14, 3) := by decide +kernel
theorem d_C_product_11 : decode prog_1_method_19_code 11 = .ok (.lload_n 3, 1) := by decide +kernel
theorem d_C_product_12 : decode prog_1_method_19_code 12 = .ok (.aload_n 0, 1) := by decide +kernel
theorem d_C_product_13 : decode prog_1_method_19_code 13 = .ok (.getfield 26, 3) := by decide +kernel
theorem d_C_product_16 : decode prog_1_method_19_code 16 = .ok (.invokestatic 157, 3) := by decide +kernel
theorem d_C_product_19 : decode prog_1_method_19_code 19 = .ok (.ifCond .ne 12, 3) := by decide +kernel
theorem d_C_product_22 : decode prog_1_method_19_code 22 = .ok (.aload_n 0, 1) := by decide +kernel
theorem d_C_product_23 : decode prog_1_method_19_code 23 = .ok (.bipush 8, 2) := by decide +kernel
theorem d_C_product_25 : decode prog_1_method_19_code 25 = .ok (.iconst 0, 1) := by decide +kernel
theorem d_C_product_26 : decode prog_1_method_19_code 26 = .ok (.invokevirtual 88, 3) := by decide +kernel
theorem d_C_product_29 : decode prog_1_method_19_code 29 = .ok (.i2l, 1) := by decide +kernel
theorem d_C_product_30 : decode prog_1_method_19_code 30 = .ok (.lreturn, 1) := by decide +kernel
theorem d_C_product_31 : decode prog_1_method_19_code 31 = .ok (.aload_n 0, 1) := by decide +kernel
theorem d_C_product_32 : decode prog_1_method_19_code 32 = .ok (.lload_n 1, 1) := by decide +kernel
theorem d_C_product_33 : decode prog_1_method_19_code 33 = .ok (.lload_n 3, 1) := by decide +kernel
theorem d_C_product_34 : decode prog_1_method_19_code 34 = .ok (.aload_n 0, 1) := by decide +kernel
theorem d_C_product_35 : decode prog_1_method_19_code 35 = .ok (.getfield 26, 3) := by decide +kernel
theorem d_C_product_38 : decode prog_1_method_19_code 38 = .ok (.invokestatic 179, 3) := by decide +kernel
theorem d_C_product_41 : decode prog_1_method_19_code 41 = .ok (.invokevirtual 146, 3) := by decide +kernel
theorem d_C_product_44 : decode prog_1_method_19_code 44 = .ok (.lreturn, 1) := by decide +kernel
set_option maxRecDepth 20000 in
theorem jc_C_product_22 (N : Nat) (l0 : Option Nat) (h : Hp) : J p l e R s m args below meth c prog_1_method_19_code 5 "RingingChamber" 3 69 (some .long) "product" D dA B n0 s0 (QM below args s D dA B n0 s0 vL) 22 [(0, vr l0)] [] h (C_product_22 N l0 h) := by
  unfold C_product_22
  refine j_aload_n d_C_product_22 0 rfl rfl ?_
  refine j_bipush (v := 8) d_C_product_23 (by decide) ?_
  refine j_iconst (v := 0) d_C_product_25 (by decide) ?_
  refine j_vI2 d_C_product_26 (allQ.cons (VD.mk vt_11_88_11 (ct_C_finds N l D dA B l0 8 0 h) (by decide) (by decide)) allQ.nil) (Nat.le_of_ble_eq_true rfl) (fun x2 h1 => ?_)
  refine j_i2l d_C_product_29 ?_
  exact j_retL d_C_product_30
set_option maxRecDepth 20000 in
theorem jc_C_product (N : Nat) (l0 : Option Nat) (l1 : Int64) (l3 : Int64) (h : Hp) : J p l e R s m args below meth c prog_1_method_19_code 5 "RingingChamber" 3 69 (some .long) "product" D dA B n0 s0 (QM below args s D dA B n0 s0 vL) 0 [(0, vr l0), (1, vl l1), (3, vl l3)] [] h (C_product N l0 l1 l3 h) := by
  unfold C_product
  refine j_lload_n d_C_product_0 1 rfl rfl ?_
  refine j_aload_n d_C_product_1 0 rfl rfl ?_
  refine j_getI d_C_product_2 fl_11_26.r (fun x1 => ?_)
  refine j_cSI2 d_C_product_5 sl_11_157 ks_Rows_isRow (ct_Rows_isRow N l D dA B l1 x1 h) (by decide) (by decide) (Nat.le_of_ble_eq_true rfl) (fun x3 h2 => ?_)
  refine j_if_eq (tgt := 22) d_C_product_8 (by decide) ?_ ?_
  · exact J.sub [0] rfl (jc_C_product_22 N l0 h2)
  · refine j_lload_n d_C_product_11 2 rfl rfl ?_
    refine j_aload_n d_C_product_12 0 rfl rfl ?_
    refine j_getI d_C_product_13 fl_11_26.r (fun x4 => ?_)
    refine j_cSI2 d_C_product_16 sl_11_157 ks_Rows_isRow (ct_Rows_isRow N l D dA B l3 x4 h2) (by decide) (by decide) (Nat.le_of_ble_eq_true rfl) (fun x6 h5 => ?_)
    refine j_if_ne (tgt := 31) d_C_product_19 (by decide) ?_ ?_
    · exact J.sub [0] rfl (jc_C_product_22 N l0 h5)
    · refine j_aload_n d_C_product_31 0 rfl rfl ?_
      refine j_lload_n d_C_product_32 1 rfl rfl ?_
      refine j_lload_n d_C_product_33 2 rfl rfl ?_
      refine j_aload_n d_C_product_34 0 rfl rfl ?_
      refine j_getI d_C_product_35 fl_11_26.r (fun x7 => ?_)
      refine j_cSL3 d_C_product_38 sl_11_179 ks_Rows_times (ct_Rows_times N l D dA B l1 l3 x7 h5) (by decide) (by decide) (Nat.le_of_ble_eq_true rfl) (fun x9 h8 => ?_)
      refine j_vL1 d_C_product_41 (allQ.cons (VD.mk vt_11_146_11 (ct_C_findsRow N l D dA B l0 x9 h8) (by decide) (by decide)) allQ.nil) (Nat.le_of_ble_eq_true rfl) (fun x11 h10 => ?_)
      exact j_retL d_C_product_44
set_option maxRecDepth 20000 in
theorem ct_C_product (N : Nat) (l : Launch) (D : va_G) (dA : Nat → ClassId) (B : Nat) (l0 : Option Nat) (l1 : Int64) (l3 : Int64) (h : Hp) : Ct l (⟨"RingingChamber", "product", "(JJ)J"⟩ : MethodName) prog_1_method_19_code 5 (some .long) 3 69 D dA B [vr l0, vl l1, vl l3] h vL (C_product N l0 l1 l3 h) :=
  Ct.of2 (own := "RingingChamber") (nme := "product") (lv := [(0, vr l0), (1, vl l1), (3, vl l3)]) rfl rfl (by decide) (Nat.le_of_ble_eq_true rfl) rfl (fun p e R s m args below meth c => jc_C_product N l0 l1 l3 h)
theorem d_C_inverse_0 : decode prog_1_method_20_code 0 = .ok (.lload_n 1, 1) := by decide +kernel
theorem d_C_inverse_1 : decode prog_1_method_20_code 1 = .ok (.aload_n 0, 1) := by decide +kernel
theorem d_C_inverse_2 : decode prog_1_method_20_code 2 = .ok (.getfield 26, 3) := by decide +kernel
theorem d_C_inverse_5 : decode prog_1_method_20_code 5 = .ok (.invokestatic 157, 3) := by decide +kernel
theorem d_C_inverse_8 : decode prog_1_method_20_code 8 = .ok (.ifCond .ne 12, 3) := by decide +kernel
theorem d_C_inverse_11 : decode prog_1_method_20_code 11 = .ok (.aload_n 0, 1) := by decide +kernel
theorem d_C_inverse_12 : decode prog_1_method_20_code 12 = .ok (.bipush 8, 2) := by decide +kernel
theorem d_C_inverse_14 : decode prog_1_method_20_code 14 = .ok (.iconst 0, 1) := by decide +kernel
theorem d_C_inverse_15 : decode prog_1_method_20_code 15 = .ok (.invokevirtual 88, 3) := by decide +kernel
theorem d_C_inverse_18 : decode prog_1_method_20_code 18 = .ok (.i2l, 1) := by decide +kernel
theorem d_C_inverse_19 : decode prog_1_method_20_code 19 = .ok (.lreturn, 1) := by decide +kernel
theorem d_C_inverse_20 : decode prog_1_method_20_code 20 = .ok (.aload_n 0, 1) := by decide +kernel
theorem d_C_inverse_21 : decode prog_1_method_20_code 21 = .ok (.lload_n 1, 1) := by decide +kernel
theorem d_C_inverse_22 : decode prog_1_method_20_code 22 = .ok (.aload_n 0, 1) := by decide +kernel
theorem d_C_inverse_23 : decode prog_1_method_20_code 23 = .ok (.getfield 26, 3) := by decide +kernel
theorem d_C_inverse_26 : decode prog_1_method_20_code 26 = .ok (.invokestatic 183, 3) := by decide +kernel
theorem d_C_inverse_29 : decode prog_1_method_20_code 29 = .ok (.invokevirtual 146, 3) := by decide +kernel
theorem d_C_inverse_32 : decode prog_1_method_20_code 32 = .ok (.lreturn, 1) := by decide +kernel
set_option maxRecDepth 20000 in
theorem jc_C_inverse (N : Nat) (l0 : Option Nat) (l1 : Int64) (h : Hp) : J p l e R s m args below meth c prog_1_method_20_code 3 "RingingChamber" 3 69 (some .long) "inverse" D dA B n0 s0 (QM below args s D dA B n0 s0 vL) 0 [(0, vr l0), (1, vl l1)] [] h (C_inverse N l0 l1 h) := by
  unfold C_inverse
  refine j_lload_n d_C_inverse_0 1 rfl rfl ?_
  refine j_aload_n d_C_inverse_1 0 rfl rfl ?_
  refine j_getI d_C_inverse_2 fl_11_26.r (fun x1 => ?_)
  refine j_cSI2 d_C_inverse_5 sl_11_157 ks_Rows_isRow (ct_Rows_isRow N l D dA B l1 x1 h) (by decide) (by decide) (Nat.le_of_ble_eq_true rfl) (fun x3 h2 => ?_)
  refine j_if_ne (tgt := 20) d_C_inverse_8 (by decide) ?_ ?_
  · refine j_aload_n d_C_inverse_11 0 rfl rfl ?_
    refine j_bipush (v := 8) d_C_inverse_12 (by decide) ?_
    refine j_iconst (v := 0) d_C_inverse_14 (by decide) ?_
    refine j_vI2 d_C_inverse_15 (allQ.cons (VD.mk vt_11_88_11 (ct_C_finds N l D dA B l0 8 0 h2) (by decide) (by decide)) allQ.nil) (Nat.le_of_ble_eq_true rfl) (fun x10 h9 => ?_)
    refine j_i2l d_C_inverse_18 ?_
    exact j_retL d_C_inverse_19
  · refine j_aload_n d_C_inverse_20 0 rfl rfl ?_
    refine j_lload_n d_C_inverse_21 1 rfl rfl ?_
    refine j_aload_n d_C_inverse_22 0 rfl rfl ?_
    refine j_getI d_C_inverse_23 fl_11_26.r (fun x4 => ?_)
    refine j_cSL2 d_C_inverse_26 sl_11_183 ks_Rows_inverseOf (ct_Rows_inverseOf N l D dA B l1 x4 h2) (by decide) (by decide) (Nat.le_of_ble_eq_true rfl) (fun x6 h5 => ?_)
    refine j_vL1 d_C_inverse_29 (allQ.cons (VD.mk vt_11_146_11 (ct_C_findsRow N l D dA B l0 x6 h5) (by decide) (by decide)) allQ.nil) (Nat.le_of_ble_eq_true rfl) (fun x8 h7 => ?_)
    exact j_retL d_C_inverse_32
set_option maxRecDepth 20000 in
theorem ct_C_inverse (N : Nat) (l : Launch) (D : va_G) (dA : Nat → ClassId) (B : Nat) (l0 : Option Nat) (l1 : Int64) (h : Hp) : Ct l (⟨"RingingChamber", "inverse", "(J)J"⟩ : MethodName) prog_1_method_20_code 3 (some .long) 3 69 D dA B [vr l0, vl l1] h vL (C_inverse N l0 l1 h) :=
  Ct.of2 (own := "RingingChamber") (nme := "inverse") (lv := [(0, vr l0), (1, vl l1)]) rfl rfl (by decide) (Nat.le_of_ble_eq_true rfl) rfl (fun p e R s m args below meth c => jc_C_inverse N l0 l1 h)
theorem d_C_order_0 : decode prog_1_method_21_code 0 = .ok (.lload_n 1, 1) := by decide +kernel
theorem d_C_order_1 : decode prog_1_method_21_code 1 = .ok (.aload_n 0, 1) := by decide +kernel
theorem d_C_order_2 : decode prog_1_method_21_code 2 = .ok (.getfield 26, 3) := by decide +kernel
theorem d_C_order_5 : decode prog_1_method_21_code 5 = .ok (.invokestatic 157, 3) := by decide +kernel
theorem d_C_order_8 : decode prog_1_method_21_code 8 = .ok (.ifCond .ne 11, 3) := by decide +kernel
theorem d_C_order_11 : decode prog_1_method_21_code 11 = .ok (.aload_n 0, 1) := by decide +kernel
theorem d_C_order_12 : decode prog_1_method_21_code 12 = .ok (.bipush 8, 2) := by decide +kernel
theorem d_C_order_14 : decode prog_1_method_21_code 14 = .ok (.iconst 0, 1) := by decide +kernel
theorem d_C_order_15 : decode prog_1_method_21_code 15 = .ok (.invokevirtual 88, 3) := by decide +kernel
theorem d_C_order_18 : decode prog_1_method_21_code 18 = .ok (.ireturn, 1) := by decide +kernel
theorem d_C_order_19 : decode prog_1_method_21_code 19 = .ok (.aload_n 0, 1) := by decide +kernel
theorem d_C_order_20 : decode prog_1_method_21_code 20 = .ok (.iconst 0, 1) := by decide +kernel
theorem d_C_order_21 : decode prog_1_method_21_code 21 = .ok (.lload_n 1, 1) := by decide +kernel
theorem d_C_order_22 : decode prog_1_method_21_code 22 = .ok (.aload_n 0, 1) := by decide +kernel
theorem d_C_order_23 : decode prog_1_method_21_code 23 = .ok (.getfield 26, 3) := by decide +kernel
theorem d_C_order_26 : decode prog_1_method_21_code 26 = .ok (.invokestatic 153, 3) := by decide +kernel
theorem d_C_order_29 : decode prog_1_method_21_code 29 = .ok (.invokevirtual 88, 3) := by decide +kernel
theorem d_C_order_32 : decode prog_1_method_21_code 32 = .ok (.ireturn, 1) := by decide +kernel
set_option maxRecDepth 20000 in
theorem jc_C_order (N : Nat) (l0 : Option Nat) (l1 : Int64) (h : Hp) : J p l e R s m args below meth c prog_1_method_21_code 3 "RingingChamber" 3 78 (some .int) "order" D dA B n0 s0 (QM below args s D dA B n0 s0 vI) 0 [(0, vr l0), (1, vl l1)] [] h (C_order N l0 l1 h) := by
  unfold C_order
  refine j_lload_n d_C_order_0 1 rfl rfl ?_
  refine j_aload_n d_C_order_1 0 rfl rfl ?_
  refine j_getI d_C_order_2 fl_11_26.r (fun x1 => ?_)
  refine j_cSI2 d_C_order_5 sl_11_157 ks_Rows_isRow (ct_Rows_isRow N l D dA B l1 x1 h) (by decide) (by decide) (Nat.le_of_ble_eq_true rfl) (fun x3 h2 => ?_)
  refine j_if_ne (tgt := 19) d_C_order_8 (by decide) ?_ ?_
  · refine j_aload_n d_C_order_11 0 rfl rfl ?_
    refine j_bipush (v := 8) d_C_order_12 (by decide) ?_
    refine j_iconst (v := 0) d_C_order_14 (by decide) ?_
    refine j_vI2 d_C_order_15 (allQ.cons (VD.mk vt_11_88_11 (ct_C_finds N l D dA B l0 8 0 h2) (by decide) (by decide)) allQ.nil) (Nat.le_of_ble_eq_true rfl) (fun x10 h9 => ?_)
    exact j_retI d_C_order_18
  · refine j_aload_n d_C_order_19 0 rfl rfl ?_
    refine j_iconst (v := 0) d_C_order_20 (by decide) ?_
    refine j_lload_n d_C_order_21 1 rfl rfl ?_
    refine j_aload_n d_C_order_22 0 rfl rfl ?_
    refine j_getI d_C_order_23 fl_11_26.r (fun x4 => ?_)
    refine j_cSI2 d_C_order_26 sl_11_153 ks_Rows_orderOf (ct_Rows_orderOf N l D dA B l1 x4 h2) (by decide) (by decide) (Nat.le_of_ble_eq_true rfl) (fun x6 h5 => ?_)
    refine j_vI2 d_C_order_29 (allQ.cons (VD.mk vt_11_88_11 (ct_C_finds N l D dA B l0 0 x6 h5) (by decide) (by decide)) allQ.nil) (Nat.le_of_ble_eq_true rfl) (fun x8 h7 => ?_)
    exact j_retI d_C_order_32
set_option maxRecDepth 20000 in
theorem ct_C_order (N : Nat) (l : Launch) (D : va_G) (dA : Nat → ClassId) (B : Nat) (l0 : Option Nat) (l1 : Int64) (h : Hp) : Ct l (⟨"RingingChamber", "order", "(J)I"⟩ : MethodName) prog_1_method_21_code 3 (some .int) 3 78 D dA B [vr l0, vl l1] h vI (C_order N l0 l1 h) :=
  Ct.of2 (own := "RingingChamber") (nme := "order") (lv := [(0, vr l0), (1, vl l1)]) rfl rfl (by decide) (Nat.le_of_ble_eq_true rfl) rfl (fun p e R s m args below meth c => jc_C_order N l0 l1 h)
theorem d_C_touch_0 : decode prog_1_method_22_code 0 = .ok (.aload_n 0, 1) := by decide +kernel
theorem d_C_touch_1 : decode prog_1_method_22_code 1 = .ok (.iload_n 1, 1) := by decide +kernel
theorem d_C_touch_2 : decode prog_1_method_22_code 2 = .ok (.invokevirtual 85, 3) := by decide +kernel
theorem d_C_touch_5 : decode prog_1_method_22_code 5 = .ok (.astore_n 3, 1) := by decide +kernel
theorem d_C_touch_6 : decode prog_1_method_22_code 6 = .ok (.aload_n 3, 1) := by decide +kernel
theorem d_C_touch_7 : decode prog_1_method_22_code 7 = .ok (.ifnonnull 10, 3) := by decide +kernel
theorem d_C_touch_10 : decode prog_1_method_22_code 10 = .ok (.aload_n 0, 1) := by decide +kernel
theorem d_C_touch_11 : decode prog_1_method_22_code 11 = .ok (.iconst 4, 1) := by decide +kernel
theorem d_C_touch_12 : decode prog_1_method_22_code 12 = .ok (.iconst 0, 1) := by decide +kernel
theorem d_C_touch_13 : decode prog_1_method_22_code 13 = .ok (.invokevirtual 88, 3) := by decide +kernel
theorem d_C_touch_16 : decode prog_1_method_22_code 16 = .ok (.ireturn, 1) := by decide +kernel
theorem d_C_touch_17 : decode prog_1_method_22_code 17 = .ok (.iload_n 2, 1) := by decide +kernel
theorem d_C_touch_18 : decode prog_1_method_22_code 18 = .ok (.invokestatic 123, 3) := by decide +kernel
theorem d_C_touch_21 : decode prog_1_method_22_code 21 = .ok (.ifCond .eq 15, 3) := by decide +kernel
theorem d_C_touch_24 : decode prog_1_method_22_code 24 = .ok (.aload_n 0, 1) := by decide +kernel
theorem d_C_touch_25 : decode prog_1_method_22_code 25 = .ok (.getfield 36, 3) := by decide +kernel
theorem d_C_touch_28 : decode prog_1_method_22_code 28 = .ok (.getfield 186, 3) := by decide +kernel
theorem d_C_touch_31 : decode prog_1_method_22_code 31 = .ok (.bipush 100, 2) := by decide +kernel
theorem d_C_touch_33 : decode prog_1_method_22_code 33 = .ok (.if_icmp .lt 10, 3) := by decide +kernel
theorem d_C_touch_36 : decode prog_1_method_22_code 36 = .ok (.aload_n 0, 1) := by decide +kernel
theorem d_C_touch_37 : decode prog_1_method_22_code 37 = .ok (.iconst 2, 1) := by decide +kernel
theorem d_C_touch_38 : decode prog_1_method_22_code 38 = .ok (.iconst 0, 1) := by decide +kernel
theorem d_C_touch_39 : decode prog_1_method_22_code 39 = .ok (.invokevirtual 88, 3) := by decide +kernel
theorem d_C_touch_42 : decode prog_1_method_22_code 42 = .ok (.ireturn, 1) := by decide +kernel
theorem d_C_touch_43 : decode prog_1_method_22_code 43 = .ok (.aload_n 0, 1) := by decide +kernel
theorem d_C_touch_44 : decode prog_1_method_22_code 44 = .ok (.getfield 36, 3) := by decide +kernel
theorem d_C_touch_47 : decode prog_1_method_22_code 47 = .ok (.aload_n 3, 1) := by decide +kernel
theorem d_C_touch_48 : decode prog_1_method_22_code 48 = .ok (.iload_n 2, 1) := by decide +kernel
theorem d_C_touch_49 : decode prog_1_method_22_code 49 = .ok (.invokevirtual 189, 3) := by decide +kernel
theorem d_C_touch_52 : decode prog_1_method_22_code 52 = .ok (.aload_n 0, 1) := by decide +kernel
theorem d_C_touch_53 : decode prog_1_method_22_code 53 = .ok (.iconst 0, 1) := by decide +kernel
theorem d_C_touch_54 : decode prog_1_method_22_code 54 = .ok (.aload_n 0, 1) := by decide +kernel
theorem d_C_touch_55 : decode prog_1_method_22_code 55 = .ok (.getfield 36, 3) := by decide +kernel
theorem d_C_touch_58 : decode prog_1_method_22_code 58 = .ok (.getfield 186, 3) := by decide +kernel
theorem d_C_touch_61 : decode prog_1_method_22_code 61 = .ok (.invokevirtual 88, 3) := by decide +kernel
theorem d_C_touch_64 : decode prog_1_method_22_code 64 = .ok (.ireturn, 1) := by decide +kernel
set_option maxRecDepth 20000 in
theorem jc_C_touch_36 (N : Nat) (l0 : Option Nat) (h : Hp) : J p l e R s m args below meth c prog_1_method_22_code 4 "RingingChamber" 1 22 (some .int) "touch" D dA B n0 s0 (QM below args s D dA B n0 s0 vI) 36 [(0, vr l0)] [] h (C_touch_36 N l0 h) := by
  unfold C_touch_36
  refine j_aload_n d_C_touch_36 0 rfl rfl ?_
  refine j_iconst (v := 2) d_C_touch_37 (by decide) ?_
  refine j_iconst (v := 0) d_C_touch_38 (by decide) ?_
  refine j_vI2 d_C_touch_39 (allQ.cons (VD.mk vt_11_88_11 (ct_C_finds N l D dA B l0 2 0 h) (by decide) (by decide)) allQ.nil) (Nat.le_of_ble_eq_true rfl) (fun x2 h1 => ?_)
  exact j_retI d_C_touch_42
set_option maxRecDepth 20000 in
theorem jc_C_touch (N : Nat) (l0 : Option Nat) (l1 : Int32) (l2 : Int32) (h : Hp) : J p l e R s m args below meth c prog_1_method_22_code 4 "RingingChamber" 1 22 (some .int) "touch" D dA B n0 s0 (QM below args s D dA B n0 s0 vI) 0 [(0, vr l0), (1, vi l1), (2, vi l2)] [] h (C_touch N l0 l1 l2 h) := by
  unfold C_touch
  refine j_aload_n d_C_touch_0 0 rfl rfl ?_
  refine j_iload_n d_C_touch_1 1 rfl rfl ?_
  refine j_vR1 d_C_touch_2 (allQ.cons (VD.mk vt_11_85_11 (ct_C_methodAt N l D dA B l0 l1 h) (by decide) (by decide)) allQ.nil) (Nat.le_of_ble_eq_true rfl) (fun x2 h1 => ?_)
  refine j_astore_n (lv' := [(3, vr x2), (0, vr l0), (1, vi l1), (2, vi l2)]) d_C_touch_5 rfl (by decide) rfl ?_
  refine j_aload_n d_C_touch_6 0 rfl rfl ?_
  refine j_ifnonnull (tgt := 17) d_C_touch_7 (by decide) ?_ ?_
  · refine j_aload_n d_C_touch_10 1 rfl rfl ?_
    refine j_iconst (v := 4) d_C_touch_11 (by decide) ?_
    refine j_iconst (v := 0) d_C_touch_12 (by decide) ?_
    refine j_vI2 d_C_touch_13 (allQ.cons (VD.mk vt_11_88_11 (ct_C_finds N l D dA B l0 4 0 h1) (by decide) (by decide)) allQ.nil) (Nat.le_of_ble_eq_true rfl) (fun x14 h13 => ?_)
    exact j_retI d_C_touch_16
  · refine j_iload_n d_C_touch_17 3 rfl rfl ?_
    refine j_cSI1 d_C_touch_18 sl_11_123 ks_C_isCall (ct_C_isCall N l D dA B l2 h1) (by decide) (by decide) (Nat.le_of_ble_eq_true rfl) (fun x4 h3 => ?_)
    refine j_if_eq (tgt := 36) d_C_touch_21 (by decide) ?_ ?_
    · exact J.sub [1] rfl (jc_C_touch_36 N l0 h3)
    · refine j_aload_n d_C_touch_24 1 rfl rfl ?_
      refine j_getR d_C_touch_25 fl_11_36.r (fun x5 => ?_)
      refine j_getI d_C_touch_28 fl_11_186.r (fun x6 => ?_)
      refine j_bipush (v := 100) d_C_touch_31 (by decide) ?_
      refine j_icmp_lt (tgt := 43) d_C_touch_33 (by decide) ?_ ?_
      · refine j_aload_n d_C_touch_43 1 rfl rfl ?_
        refine j_getR d_C_touch_44 fl_11_36.r (fun x7 => ?_)
        refine j_aload_n d_C_touch_47 0 rfl rfl ?_
        refine j_iload_n d_C_touch_48 3 rfl rfl ?_
        refine j_vU2 d_C_touch_49 (allQ.cons (VD.mk vt_11_189_9 (ct_Touch_addItem N l D dA B x7 x2 l2 h3) (by decide) (by decide)) allQ.nil) (Nat.le_of_ble_eq_true rfl) (fun _ h8 => ?_)
        refine j_aload_n d_C_touch_52 1 rfl rfl ?_
        refine j_iconst (v := 0) d_C_touch_53 (by decide) ?_
        refine j_aload_n d_C_touch_54 1 rfl rfl ?_
        refine j_getR d_C_touch_55 fl_11_36.r (fun x9 => ?_)
        refine j_getI d_C_touch_58 fl_11_186.r (fun x10 => ?_)
        refine j_vI2 d_C_touch_61 (allQ.cons (VD.mk vt_11_88_11 (ct_C_finds N l D dA B l0 0 x10 h8) (by decide) (by decide)) allQ.nil) (Nat.le_of_ble_eq_true rfl) (fun x12 h11 => ?_)
        exact j_retI d_C_touch_64
      · exact J.sub [1] rfl (jc_C_touch_36 N l0 h3)
set_option maxRecDepth 20000 in
theorem ct_C_touch (N : Nat) (l : Launch) (D : va_G) (dA : Nat → ClassId) (B : Nat) (l0 : Option Nat) (l1 : Int32) (l2 : Int32) (h : Hp) : Ct l (⟨"RingingChamber", "touch", "(II)I"⟩ : MethodName) prog_1_method_22_code 4 (some .int) 1 22 D dA B [vr l0, vi l1, vi l2] h vI (C_touch N l0 l1 l2 h) :=
  Ct.of2 (own := "RingingChamber") (nme := "touch") (lv := [(0, vr l0), (1, vi l1), (2, vi l2)]) rfl rfl (by decide) (Nat.le_of_ble_eq_true rfl) rfl (fun p e R s m args below meth c => jc_C_touch N l0 l1 l2 h)
theorem d_C_clear_0 : decode prog_1_method_23_code 0 = .ok (.aload_n 0, 1) := by decide +kernel
theorem d_C_clear_1 : decode prog_1_method_23_code 1 = .ok (.getfield 36, 3) := by decide +kernel
theorem d_C_clear_4 : decode prog_1_method_23_code 4 = .ok (.iconst 0, 1) := by decide +kernel
theorem d_C_clear_5 : decode prog_1_method_23_code 5 = .ok (.putfield 186, 3) := by decide +kernel
theorem d_C_clear_8 : decode prog_1_method_23_code 8 = .ok (.aload_n 0, 1) := by decide +kernel
theorem d_C_clear_9 : decode prog_1_method_23_code 9 = .ok (.getfield 36, 3) := by decide +kernel
theorem d_C_clear_12 : decode prog_1_method_23_code 12 = .ok (.invokevirtual 193, 3) := by decide +kernel
theorem d_C_clear_15 : decode prog_1_method_23_code 15 = .ok (.iconst 1, 1) := by decide +kernel
theorem d_C_clear_16 : decode prog_1_method_23_code 16 = .ok (.ireturn, 1) := by decide +kernel
set_option maxRecDepth 20000 in
theorem jc_C_clear (N : Nat) (l0 : Option Nat) (h : Hp) : J p l e R s m args below meth c prog_1_method_23_code 1 "RingingChamber" 3 64 (some .int) "clear" D dA B n0 s0 (QM below args s D dA B n0 s0 vI) 0 [(0, vr l0)] [] h (C_clear N l0 h) := by
  unfold C_clear
  refine j_aload_n d_C_clear_0 0 rfl rfl ?_
  refine j_getR d_C_clear_1 fl_11_36.r (fun x1 => ?_)
  refine j_iconst (v := 0) d_C_clear_4 (by decide) ?_
  refine j_putI d_C_clear_5 fl_11_186 (Or.inl rfl) (fun h2 => ?_)
  refine j_aload_n d_C_clear_8 0 rfl rfl ?_
  refine j_getR d_C_clear_9 fl_11_36.r (fun x3 => ?_)
  refine j_vU0 d_C_clear_12 (allQ.cons (VD.mk vt_11_193_9 (ct_Touch_beginAnew N l D dA B x3 h2) (by decide) (by decide)) allQ.nil) (Nat.le_of_ble_eq_true rfl) (fun _ h4 => ?_)
  refine j_iconst (v := 1) d_C_clear_15 (by decide) ?_
  exact j_retI d_C_clear_16
set_option maxRecDepth 20000 in
theorem ct_C_clear (N : Nat) (l : Launch) (D : va_G) (dA : Nat → ClassId) (B : Nat) (l0 : Option Nat) (h : Hp) : Ct l (⟨"RingingChamber", "clear", "()I"⟩ : MethodName) prog_1_method_23_code 1 (some .int) 3 64 D dA B [vr l0] h vI (C_clear N l0 h) :=
  Ct.of2 (own := "RingingChamber") (nme := "clear") (lv := [(0, vr l0)]) rfl rfl (by decide) (Nat.le_of_ble_eq_true rfl) rfl (fun p e R s m args below meth c => jc_C_clear N l0 h)
theorem d_C_ring_0 : decode prog_1_method_24_code 0 = .ok (.aload_n 0, 1) := by decide +kernel
theorem d_C_ring_1 : decode prog_1_method_24_code 1 = .ok (.getfield 36, 3) := by decide +kernel
theorem d_C_ring_4 : decode prog_1_method_24_code 4 = .ok (.invokevirtual 193, 3) := by decide +kernel
theorem d_C_ring_7 : decode prog_1_method_24_code 7 = .ok (.iconst 1, 1) := by decide +kernel
theorem d_C_ring_8 : decode prog_1_method_24_code 8 = .ok (.ireturn, 1) := by decide +kernel
set_option maxRecDepth 20000 in
theorem jc_C_ring (N : Nat) (l0 : Option Nat) (h : Hp) : J p l e R s m args below meth c prog_1_method_24_code 1 "RingingChamber" 3 64 (some .int) "ring" D dA B n0 s0 (QM below args s D dA B n0 s0 vI) 0 [(0, vr l0)] [] h (C_ring N l0 h) := by
  unfold C_ring
  refine j_aload_n d_C_ring_0 0 rfl rfl ?_
  refine j_getR d_C_ring_1 fl_11_36.r (fun x1 => ?_)
  refine j_vU0 d_C_ring_4 (allQ.cons (VD.mk vt_11_193_9 (ct_Touch_beginAnew N l D dA B x1 h) (by decide) (by decide)) allQ.nil) (Nat.le_of_ble_eq_true rfl) (fun _ h2 => ?_)
  refine j_iconst (v := 1) d_C_ring_7 (by decide) ?_
  exact j_retI d_C_ring_8
set_option maxRecDepth 20000 in
theorem ct_C_ring (N : Nat) (l : Launch) (D : va_G) (dA : Nat → ClassId) (B : Nat) (l0 : Option Nat) (h : Hp) : Ct l (⟨"RingingChamber", "ring", "()I"⟩ : MethodName) prog_1_method_24_code 1 (some .int) 3 64 D dA B [vr l0] h vI (C_ring N l0 h) :=
  Ct.of2 (own := "RingingChamber") (nme := "ring") (lv := [(0, vr l0)]) rfl rfl (by decide) (Nat.le_of_ble_eq_true rfl) rfl (fun p e R s m args below meth c => jc_C_ring N l0 h)
theorem d_C_on_0 : decode prog_1_method_25_code 0 = .ok (.iload_n 1, 1) := by decide +kernel
theorem d_C_on_1 : decode prog_1_method_25_code 1 = .ok (.ifCond .lt 10, 3) := by decide +kernel
theorem d_C_on_4 : decode prog_1_method_25_code 4 = .ok (.iload_n 1, 1) := by decide +kernel
theorem d_C_on_5 : decode prog_1_method_25_code 5 = .ok (.sipush 1000, 3) := by decide +kernel
theorem d_C_on_8 : decode prog_1_method_25_code 8 = .ok (.if_icmp .le 21, 3) := by decide +kernel
theorem d_C_on_11 : decode prog_1_method_25_code 11 = .ok (.aload_n 0, 1) := by decide +kernel
theorem d_C_on_12 : decode prog_1_method_25_code 12 = .ok (.iconst 2, 1) := by decide +kernel
theorem d_C_on_13 : decode prog_1_method_25_code 13 = .ok (.aload_n 0, 1) := by decide +kernel
theorem d_C_on_14 : decode prog_1_method_25_code 14 = .ok (.getfield 36, 3) := by decide +kernel
theorem d_C_on_17 : decode prog_1_method_25_code 17 = .ok (.getfield 196, 3) := by decide +kernel
theorem d_C_on_20 : decode prog_1_method_25_code 20 = .ok (.getfield 199, 3) := by decide +kernel
theorem d_C_on_23 : decode prog_1_method_25_code 23 = .ok (.iconst 1, 1) := by decide +kernel
theorem d_C_on_24 : decode prog_1_method_25_code 24 = .ok (.isub, 1) := by decide +kernel
theorem d_C_on_25 : decode prog_1_method_25_code 25 = .ok (.invokevirtual 88, 3) := by decide +kernel
theorem d_C_on_28 : decode prog_1_method_25_code 28 = .ok (.ireturn, 1) := by decide +kernel
theorem d_C_on_29 : decode prog_1_method_25_code 29 = .ok (.aload_n 0, 1) := by decide +kernel
theorem d_C_on_30 : decode prog_1_method_25_code 30 = .ok (.getfield 36, 3) := by decide +kernel
theorem d_C_on_33 : decode prog_1_method_25_code 33 = .ok (.iload_n 1, 1) := by decide +kernel
theorem d_C_on_34 : decode prog_1_method_25_code 34 = .ok (.invokevirtual 200, 3) := by decide +kernel
theorem d_C_on_37 : decode prog_1_method_25_code 37 = .ok (.istore_n 2, 1) := by decide +kernel
theorem d_C_on_38 : decode prog_1_method_25_code 38 = .ok (.aload_n 0, 1) := by decide +kernel
theorem d_C_on_39 : decode prog_1_method_25_code 39 = .ok (.iload_n 2, 1) := by decide +kernel
theorem d_C_on_40 : decode prog_1_method_25_code 40 = .ok (.aload_n 0, 1) := by decide +kernel
theorem d_C_on_41 : decode prog_1_method_25_code 41 = .ok (.getfield 36, 3) := by decide +kernel
theorem d_C_on_44 : decode prog_1_method_25_code 44 = .ok (.getfield 196, 3) := by decide +kernel
theorem d_C_on_47 : decode prog_1_method_25_code 47 = .ok (.getfield 199, 3) := by decide +kernel
theorem d_C_on_50 : decode prog_1_method_25_code 50 = .ok (.iconst 1, 1) := by decide +kernel
theorem d_C_on_51 : decode prog_1_method_25_code 51 = .ok (.isub, 1) := by decide +kernel
theorem d_C_on_52 : decode prog_1_method_25_code 52 = .ok (.invokevirtual 88, 3) := by decide +kernel
theorem d_C_on_55 : decode prog_1_method_25_code 55 = .ok (.ireturn, 1) := by decide +kernel
set_option maxRecDepth 20000 in
theorem jc_C_on_11 (N : Nat) (l0 : Option Nat) (h : Hp) : J p l e R s m args below meth c prog_1_method_25_code 3 "RingingChamber" 7 173 (some .int) "on" D dA B n0 s0 (QM below args s D dA B n0 s0 vI) 11 [(0, vr l0)] [] h (C_on_11 N l0 h) := by
  unfold C_on_11
  refine j_aload_n d_C_on_11 0 rfl rfl ?_
  refine j_iconst (v := 2) d_C_on_12 (by decide) ?_
  refine j_aload_n d_C_on_13 0 rfl rfl ?_
  refine j_getR d_C_on_14 fl_11_36.r (fun x1 => ?_)
  refine j_getR d_C_on_17 fl_11_196 (fun x2 => ?_)
  refine j_getI d_C_on_20 fl_11_199.r (fun x3 => ?_)
  refine j_iconst (v := 1) d_C_on_23 (by decide) ?_
  refine j_isub d_C_on_24 ?_
  refine j_vI2 d_C_on_25 (allQ.cons (VD.mk vt_11_88_11 (ct_C_finds N l D dA B l0 2 (x3 - (1 : Int32)) h) (by decide) (by decide)) allQ.nil) (Nat.le_of_ble_eq_true rfl) (fun x5 h4 => ?_)
  exact j_retI d_C_on_28
set_option maxRecDepth 20000 in
theorem jc_C_on (N : Nat) (l0 : Option Nat) (l1 : Int32) (h : Hp) : J p l e R s m args below meth c prog_1_method_25_code 3 "RingingChamber" 7 173 (some .int) "on" D dA B n0 s0 (QM below args s D dA B n0 s0 vI) 0 [(0, vr l0), (1, vi l1)] [] h (C_on N l0 l1 h) := by
  unfold C_on
  refine j_iload_n d_C_on_0 1 rfl rfl ?_
  refine j_if_lt (tgt := 11) d_C_on_1 (by decide) ?_ ?_
  · exact J.sub [0] rfl (jc_C_on_11 N l0 h)
  · refine j_iload_n d_C_on_4 1 rfl rfl ?_
    refine j_sipush (v := 1000) d_C_on_5 (by decide) ?_
    refine j_icmp_le (tgt := 29) d_C_on_8 (by decide) ?_ ?_
    · refine j_aload_n d_C_on_29 0 rfl rfl ?_
      refine j_getR d_C_on_30 fl_11_36.r (fun x1 => ?_)
      refine j_iload_n d_C_on_33 1 rfl rfl ?_
      refine j_vI1 d_C_on_34 (allQ.cons (VD.mk vt_11_200_9 (ct_Touch_ringOn N l D dA B x1 l1 h) (by decide) (by decide)) allQ.nil) (Nat.le_of_ble_eq_true rfl) (fun x3 h2 => ?_)
      refine j_istore_n (lv' := [(2, vi x3), (0, vr l0), (1, vi l1)]) d_C_on_37 rfl (by decide) rfl ?_
      refine j_aload_n d_C_on_38 1 rfl rfl ?_
      refine j_iload_n d_C_on_39 0 rfl rfl ?_
      refine j_aload_n d_C_on_40 1 rfl rfl ?_
      refine j_getR d_C_on_41 fl_11_36.r (fun x4 => ?_)
      refine j_getR d_C_on_44 fl_11_196 (fun x5 => ?_)
      refine j_getI d_C_on_47 fl_11_199.r (fun x6 => ?_)
      refine j_iconst (v := 1) d_C_on_50 (by decide) ?_
      refine j_isub d_C_on_51 ?_
      refine j_vI2 d_C_on_52 (allQ.cons (VD.mk vt_11_88_11 (ct_C_finds N l D dA B l0 x3 (x6 - (1 : Int32)) h2) (by decide) (by decide)) allQ.nil) (Nat.le_of_ble_eq_true rfl) (fun x8 h7 => ?_)
      exact j_retI d_C_on_55
    · exact J.sub [0] rfl (jc_C_on_11 N l0 h)
set_option maxRecDepth 20000 in
theorem ct_C_on (N : Nat) (l : Launch) (D : va_G) (dA : Nat → ClassId) (B : Nat) (l0 : Option Nat) (l1 : Int32) (h : Hp) : Ct l (⟨"RingingChamber", "on", "(I)I"⟩ : MethodName) prog_1_method_25_code 3 (some .int) 7 173 D dA B [vr l0, vi l1] h vI (C_on N l0 l1 h) :=
  Ct.of2 (own := "RingingChamber") (nme := "on") (lv := [(0, vr l0), (1, vi l1)]) rfl rfl (by decide) (Nat.le_of_ble_eq_true rfl) rfl (fun p e R s m args below meth c => jc_C_on N l0 l1 h)
theorem d_C_at_0 : decode prog_1_method_26_code 0 = .ok (.aload_n 0, 1) := by decide +kernel
theorem d_C_at_1 : decode prog_1_method_26_code 1 = .ok (.getfield 36, 3) := by decide +kernel
theorem d_C_at_4 : decode prog_1_method_26_code 4 = .ok (.getfield 196, 3) := by decide +kernel
theorem d_C_at_7 : decode prog_1_method_26_code 7 = .ok (.iload_n 1, 1) := by decide +kernel
theorem d_C_at_8 : decode prog_1_method_26_code 8 = .ok (.invokevirtual 204, 3) := by decide +kernel
theorem d_C_at_11 : decode prog_1_method_26_code 11 = .ok (.lreturn, 1) := by decide +kernel
set_option maxRecDepth 20000 in
theorem jc_C_at (N : Nat) (l0 : Option Nat) (l1 : Int32) (h : Hp) : J p l e R s m args below meth c prog_1_method_26_code 2 "RingingChamber" 1 21 (some .long) "at" D dA B n0 s0 (QM below args s D dA B n0 s0 vL) 0 [(0, vr l0), (1, vi l1)] [] h (C_at N l0 l1 h) := by
  unfold C_at
  refine j_aload_n d_C_at_0 0 rfl rfl ?_
  refine j_getR d_C_at_1 fl_11_36.r (fun x1 => ?_)
  refine j_getR d_C_at_4 fl_11_196 (fun x2 => ?_)
  refine j_iload_n d_C_at_7 1 rfl rfl ?_
  refine j_vL1 d_C_at_8 (allQ.cons (VD.mk vt_11_204_4 (ct_Rows_codeAt N l D dA B x2 l1 h) (by decide) (by decide)) allQ.nil) (Nat.le_of_ble_eq_true rfl) (fun x4 h3 => ?_)
  exact j_retL d_C_at_11
set_option maxRecDepth 20000 in
theorem ct_C_at (N : Nat) (l : Launch) (D : va_G) (dA : Nat → ClassId) (B : Nat) (l0 : Option Nat) (l1 : Int32) (h : Hp) : Ct l (⟨"RingingChamber", "at", "(I)J"⟩ : MethodName) prog_1_method_26_code 2 (some .long) 1 21 D dA B [vr l0, vi l1] h vL (C_at N l0 l1 h) :=
  Ct.of2 (own := "RingingChamber") (nme := "at") (lv := [(0, vr l0), (1, vi l1)]) rfl rfl (by decide) (Nat.le_of_ble_eq_true rfl) rfl (fun p e R s m args below meth c => jc_C_at N l0 l1 h)
theorem d_C_round_0 : decode prog_1_method_27_code 0 = .ok (.aload_n 0, 1) := by decide +kernel
theorem d_C_round_1 : decode prog_1_method_27_code 1 = .ok (.getfield 36, 3) := by decide +kernel
theorem d_C_round_4 : decode prog_1_method_27_code 4 = .ok (.getfield 207, 3) := by decide +kernel
theorem d_C_round_7 : decode prog_1_method_27_code 7 = .ok (.ireturn, 1) := by decide +kernel
set_option maxRecDepth 20000 in
theorem jc_C_round (N : Nat) (l0 : Option Nat) (h : Hp) : J p l e R s m args below meth c prog_1_method_27_code 1 "RingingChamber" 0 0 (some .int) "round" D dA B n0 s0 (QM below args s D dA B n0 s0 vI) 0 [(0, vr l0)] [] h (C_round N l0 h) := by
  unfold C_round
  refine j_aload_n d_C_round_0 0 rfl rfl ?_
  refine j_getR d_C_round_1 fl_11_36.r (fun x1 => ?_)
  refine j_getI d_C_round_4 fl_11_207.r (fun x2 => ?_)
  exact j_retI d_C_round_7
set_option maxRecDepth 20000 in
theorem ct_C_round (N : Nat) (l : Launch) (D : va_G) (dA : Nat → ClassId) (B : Nat) (l0 : Option Nat) (h : Hp) : Ct l (⟨"RingingChamber", "round", "()I"⟩ : MethodName) prog_1_method_27_code 1 (some .int) 0 0 D dA B [vr l0] h vI (C_round N l0 h) :=
  Ct.of2 (own := "RingingChamber") (nme := "round") (lv := [(0, vr l0)]) rfl rfl (by decide) (Nat.le_of_ble_eq_true rfl) rfl (fun p e R s m args below meth c => jc_C_round N l0 h)
theorem d_C_falseAt_0 : decode prog_1_method_28_code 0 = .ok (.aload_n 0, 1) := by decide +kernel
theorem d_C_falseAt_1 : decode prog_1_method_28_code 1 = .ok (.getfield 36, 3) := by decide +kernel
theorem d_C_falseAt_4 : decode prog_1_method_28_code 4 = .ok (.getfield 210, 3) := by decide +kernel
theorem d_C_falseAt_7 : decode prog_1_method_28_code 7 = .ok (.ireturn, 1) := by decide +kernel
set_option maxRecDepth 20000 in
theorem jc_C_falseAt (N : Nat) (l0 : Option Nat) (h : Hp) : J p l e R s m args below meth c prog_1_method_28_code 1 "RingingChamber" 0 0 (some .int) "falseAt" D dA B n0 s0 (QM below args s D dA B n0 s0 vI) 0 [(0, vr l0)] [] h (C_falseAt N l0 h) := by
  unfold C_falseAt
  refine j_aload_n d_C_falseAt_0 0 rfl rfl ?_
  refine j_getR d_C_falseAt_1 fl_11_36.r (fun x1 => ?_)
  refine j_getI d_C_falseAt_4 fl_11_210.r (fun x2 => ?_)
  exact j_retI d_C_falseAt_7
set_option maxRecDepth 20000 in
theorem ct_C_falseAt (N : Nat) (l : Launch) (D : va_G) (dA : Nat → ClassId) (B : Nat) (l0 : Option Nat) (h : Hp) : Ct l (⟨"RingingChamber", "falseAt", "()I"⟩ : MethodName) prog_1_method_28_code 1 (some .int) 0 0 D dA B [vr l0] h vI (C_falseAt N l0 h) :=
  Ct.of2 (own := "RingingChamber") (nme := "falseAt") (lv := [(0, vr l0)]) rfl rfl (by decide) (Nat.le_of_ble_eq_true rfl) rfl (fun p e R s m args below meth c => jc_C_falseAt N l0 h)
theorem d_C_proof_0 : decode prog_1_method_29_code 0 = .ok (.aload_n 0, 1) := by decide +kernel
theorem d_C_proof_1 : decode prog_1_method_29_code 1 = .ok (.getfield 36, 3) := by decide +kernel
theorem d_C_proof_4 : decode prog_1_method_29_code 4 = .ok (.invokevirtual 213, 3) := by decide +kernel
theorem d_C_proof_7 : decode prog_1_method_29_code 7 = .ok (.ireturn, 1) := by decide +kernel
set_option maxRecDepth 20000 in
theorem jc_C_proof (N : Nat) (l0 : Option Nat) (h : Hp) : J p l e R s m args below meth c prog_1_method_29_code 1 "RingingChamber" 4 90 (some .int) "proof" D dA B n0 s0 (QM below args s D dA B n0 s0 vI) 0 [(0, vr l0)] [] h (C_proof N l0 h) := by
  unfold C_proof
  refine j_aload_n d_C_proof_0 0 rfl rfl ?_
  refine j_getR d_C_proof_1 fl_11_36.r (fun x1 => ?_)
  refine j_vI0 d_C_proof_4 (allQ.cons (VD.mk vt_11_213_9 (ct_Touch_makeProof N l D dA B x1 h) (by decide) (by decide)) allQ.nil) (Nat.le_of_ble_eq_true rfl) (fun x3 h2 => ?_)
  exact j_retI d_C_proof_7
set_option maxRecDepth 20000 in
theorem ct_C_proof (N : Nat) (l : Launch) (D : va_G) (dA : Nat → ClassId) (B : Nat) (l0 : Option Nat) (h : Hp) : Ct l (⟨"RingingChamber", "proof", "()I"⟩ : MethodName) prog_1_method_29_code 1 (some .int) 4 90 D dA B [vr l0] h vI (C_proof N l0 h) :=
  Ct.of2 (own := "RingingChamber") (nme := "proof") (lv := [(0, vr l0)]) rfl rfl (by decide) (Nat.le_of_ble_eq_true rfl) rfl (fun p e R s m args below meth c => jc_C_proof N l0 h)
theorem d_C_proofAt_0 : decode prog_1_method_30_code 0 = .ok (.iload_n 1, 1) := by decide +kernel
theorem d_C_proofAt_1 : decode prog_1_method_30_code 1 = .ok (.ifCond .lt 14, 3) := by decide +kernel
theorem d_C_proofAt_4 : decode prog_1_method_30_code 4 = .ok (.iload_n 1, 1) := by decide +kernel
theorem d_C_proofAt_5 : decode prog_1_method_30_code 5 = .ok (.aload_n 0, 1) := by decide +kernel
theorem d_C_proofAt_6 : decode prog_1_method_30_code 6 = .ok (.getfield 36, 3) := by decide +kernel
theorem d_C_proofAt_9 : decode prog_1_method_30_code 9 = .ok (.getfield 216, 3) := by decide +kernel
theorem d_C_proofAt_12 : decode prog_1_method_30_code 12 = .ok (.if_icmp .lt 5, 3) := by decide +kernel
theorem d_C_proofAt_15 : decode prog_1_method_30_code 15 = .ok (.iconst (-1), 1) := by decide +kernel
theorem d_C_proofAt_16 : decode prog_1_method_30_code 16 = .ok (.ireturn, 1) := by decide +kernel
theorem d_C_proofAt_17 : decode prog_1_method_30_code 17 = .ok (.aload_n 0, 1) := by decide +kernel
theorem d_C_proofAt_18 : decode prog_1_method_30_code 18 = .ok (.getfield 36, 3) := by decide +kernel
theorem d_C_proofAt_21 : decode prog_1_method_30_code 21 = .ok (.getfield 219, 3) := by decide +kernel
theorem d_C_proofAt_24 : decode prog_1_method_30_code 24 = .ok (.iload_n 1, 1) := by decide +kernel
theorem d_C_proofAt_25 : decode prog_1_method_30_code 25 = .ok (.iaload, 1) := by decide +kernel
theorem d_C_proofAt_26 : decode prog_1_method_30_code 26 = .ok (.ireturn, 1) := by decide +kernel
set_option maxRecDepth 20000 in
theorem jc_C_proofAt (N : Nat) (l0 : Option Nat) (l1 : Int32) (h : Hp) : J p l e R s m args below meth c prog_1_method_30_code 2 "RingingChamber" 0 0 (some .int) "proofAt" D dA B n0 s0 (QM below args s D dA B n0 s0 vI) 0 [(0, vr l0), (1, vi l1)] [] h (C_proofAt N l0 l1 h) := by
  unfold C_proofAt
  refine j_iload_n d_C_proofAt_0 1 rfl rfl ?_
  refine j_if_lt (tgt := 15) d_C_proofAt_1 (by decide) ?_ ?_
  · refine j_iconst (v := -1) d_C_proofAt_15 (by decide) ?_
    exact j_retI d_C_proofAt_16
  · refine j_iload_n d_C_proofAt_4 1 rfl rfl ?_
    refine j_aload_n d_C_proofAt_5 0 rfl rfl ?_
    refine j_getR d_C_proofAt_6 fl_11_36.r (fun x1 => ?_)
    refine j_getI d_C_proofAt_9 fl_11_216.r (fun x2 => ?_)
    refine j_icmp_lt (tgt := 17) d_C_proofAt_12 (by decide) ?_ ?_
    · refine j_aload_n d_C_proofAt_17 0 rfl rfl ?_
      refine j_getR d_C_proofAt_18 fl_11_36.r (fun x3 => ?_)
      refine j_getR d_C_proofAt_21 fl_11_219 (fun x4 => ?_)
      refine j_iload_n d_C_proofAt_24 1 rfl rfl ?_
      refine j_iald d_C_proofAt_25 (fun x5 => ?_)
      exact j_retI d_C_proofAt_26
    · refine j_iconst (v := -1) d_C_proofAt_15 (by decide) ?_
      exact j_retI d_C_proofAt_16
set_option maxRecDepth 20000 in
theorem ct_C_proofAt (N : Nat) (l : Launch) (D : va_G) (dA : Nat → ClassId) (B : Nat) (l0 : Option Nat) (l1 : Int32) (h : Hp) : Ct l (⟨"RingingChamber", "proofAt", "(I)I"⟩ : MethodName) prog_1_method_30_code 2 (some .int) 0 0 D dA B [vr l0, vi l1] h vI (C_proofAt N l0 l1 h) :=
  Ct.of2 (own := "RingingChamber") (nme := "proofAt") (lv := [(0, vr l0), (1, vi l1)]) rfl rfl (by decide) (Nat.le_of_ble_eq_true rfl) rfl (fun p e R s m args below meth c => jc_C_proofAt N l0 l1 h)
theorem d_C_forge_0 : decode prog_1_method_31_code 0 = .ok (.iload_n 1, 1) := by decide +kernel
theorem d_C_forge_1 : decode prog_1_method_31_code 1 = .ok (.ifCond .lt 14, 3) := by decide +kernel
theorem d_C_forge_4 : decode prog_1_method_31_code 4 = .ok (.iload_n 1, 1) := by decide +kernel
theorem d_C_forge_5 : decode prog_1_method_31_code 5 = .ok (.aload_n 0, 1) := by decide +kernel
theorem d_C_forge_6 : decode prog_1_method_31_code 6 = .ok (.getfield 36, 3) := by decide +kernel
theorem d_C_forge_9 : decode prog_1_method_31_code 9 = .ok (.getfield 216, 3) := by decide +kernel
theorem d_C_forge_12 : decode prog_1_method_31_code 12 = .ok (.if_icmp .lt 5, 3) := by decide +kernel
theorem d_C_forge_15 : decode prog_1_method_31_code 15 = .ok (.iconst (-1), 1) := by decide +kernel
theorem d_C_forge_16 : decode prog_1_method_31_code 16 = .ok (.ireturn, 1) := by decide +kernel
theorem d_C_forge_17 : decode prog_1_method_31_code 17 = .ok (.aload_n 0, 1) := by decide +kernel
theorem d_C_forge_18 : decode prog_1_method_31_code 18 = .ok (.getfield 36, 3) := by decide +kernel
theorem d_C_forge_21 : decode prog_1_method_31_code 21 = .ok (.getfield 219, 3) := by decide +kernel
theorem d_C_forge_24 : decode prog_1_method_31_code 24 = .ok (.iload_n 1, 1) := by decide +kernel
theorem d_C_forge_25 : decode prog_1_method_31_code 25 = .ok (.iaload, 1) := by decide +kernel
theorem d_C_forge_26 : decode prog_1_method_31_code 26 = .ok (.istore_n 3, 1) := by decide +kernel
theorem d_C_forge_27 : decode prog_1_method_31_code 27 = .ok (.aload_n 0, 1) := by decide +kernel
theorem d_C_forge_28 : decode prog_1_method_31_code 28 = .ok (.getfield 36, 3) := by decide +kernel
theorem d_C_forge_31 : decode prog_1_method_31_code 31 = .ok (.getfield 219, 3) := by decide +kernel
theorem d_C_forge_34 : decode prog_1_method_31_code 34 = .ok (.iload_n 1, 1) := by decide +kernel
theorem d_C_forge_35 : decode prog_1_method_31_code 35 = .ok (.iload_n 2, 1) := by decide +kernel
theorem d_C_forge_36 : decode prog_1_method_31_code 36 = .ok (.iastore, 1) := by decide +kernel
theorem d_C_forge_37 : decode prog_1_method_31_code 37 = .ok (.iload_n 3, 1) := by decide +kernel
theorem d_C_forge_38 : decode prog_1_method_31_code 38 = .ok (.ireturn, 1) := by decide +kernel
set_option maxRecDepth 20000 in
theorem jc_C_forge (N : Nat) (l0 : Option Nat) (l1 : Int32) (l2 : Int32) (h : Hp) : J p l e R s m args below meth c prog_1_method_31_code 4 "RingingChamber" 0 0 (some .int) "forge" D dA B n0 s0 (QM below args s D dA B n0 s0 vI) 0 [(0, vr l0), (1, vi l1), (2, vi l2)] [] h (C_forge N l0 l1 l2 h) := by
  unfold C_forge
  refine j_iload_n d_C_forge_0 1 rfl rfl ?_
  refine j_if_lt (tgt := 15) d_C_forge_1 (by decide) ?_ ?_
  · refine j_iconst (v := -1) d_C_forge_15 (by decide) ?_
    exact j_retI d_C_forge_16
  · refine j_iload_n d_C_forge_4 1 rfl rfl ?_
    refine j_aload_n d_C_forge_5 0 rfl rfl ?_
    refine j_getR d_C_forge_6 fl_11_36.r (fun x1 => ?_)
    refine j_getI d_C_forge_9 fl_11_216.r (fun x2 => ?_)
    refine j_icmp_lt (tgt := 17) d_C_forge_12 (by decide) ?_ ?_
    · refine j_aload_n d_C_forge_17 0 rfl rfl ?_
      refine j_getR d_C_forge_18 fl_11_36.r (fun x3 => ?_)
      refine j_getR d_C_forge_21 fl_11_219 (fun x4 => ?_)
      refine j_iload_n d_C_forge_24 1 rfl rfl ?_
      refine j_iald d_C_forge_25 (fun x5 => ?_)
      refine j_istore_n (lv' := [(3, vi x5), (0, vr l0), (1, vi l1), (2, vi l2)]) d_C_forge_26 rfl (by decide) rfl ?_
      refine j_aload_n d_C_forge_27 1 rfl rfl ?_
      refine j_getR d_C_forge_28 fl_11_36.r (fun x6 => ?_)
      refine j_getR d_C_forge_31 fl_11_219 (fun x7 => ?_)
      refine j_iload_n d_C_forge_34 2 rfl rfl ?_
      refine j_iload_n d_C_forge_35 3 rfl rfl ?_
      refine j_iast d_C_forge_36 (fun h8 => ?_)
      refine j_iload_n d_C_forge_37 0 rfl rfl ?_
      exact j_retI d_C_forge_38
    · refine j_iconst (v := -1) d_C_forge_15 (by decide) ?_
      exact j_retI d_C_forge_16
set_option maxRecDepth 20000 in
theorem ct_C_forge (N : Nat) (l : Launch) (D : va_G) (dA : Nat → ClassId) (B : Nat) (l0 : Option Nat) (l1 : Int32) (l2 : Int32) (h : Hp) : Ct l (⟨"RingingChamber", "forge", "(II)I"⟩ : MethodName) prog_1_method_31_code 4 (some .int) 0 0 D dA B [vr l0, vi l1, vi l2] h vI (C_forge N l0 l1 l2 h) :=
  Ct.of2 (own := "RingingChamber") (nme := "forge") (lv := [(0, vr l0), (1, vi l1), (2, vi l2)]) rfl rfl (by decide) (Nat.le_of_ble_eq_true rfl) rfl (fun p e R s m args below meth c => jc_C_forge N l0 l1 l2 h)
theorem d_C_check_0 : decode prog_1_method_32_code 0 = .ok (.aload_n 0, 1) := by decide +kernel
theorem d_C_check_1 : decode prog_1_method_32_code 1 = .ok (.getfield 36, 3) := by decide +kernel
theorem d_C_check_4 : decode prog_1_method_32_code 4 = .ok (.invokevirtual 222, 3) := by decide +kernel
theorem d_C_check_7 : decode prog_1_method_32_code 7 = .ok (.ireturn, 1) := by decide +kernel
set_option maxRecDepth 20000 in
theorem jc_C_check (N : Nat) (l0 : Option Nat) (h : Hp) : J p l e R s m args below meth c prog_1_method_32_code 1 "RingingChamber" 4 91 (some .boolean) "check" D dA B n0 s0 (QM below args s D dA B n0 s0 vI) 0 [(0, vr l0)] [] h (C_check N l0 h) := by
  unfold C_check
  refine j_aload_n d_C_check_0 0 rfl rfl ?_
  refine j_getR d_C_check_1 fl_11_36.r (fun x1 => ?_)
  refine j_vI0 d_C_check_4 (allQ.cons (VD.mk vt_11_222_9 (ct_Touch_isProven N l D dA B x1 h) (by decide) (by decide)) allQ.nil) (Nat.le_of_ble_eq_true rfl) (fun x3 h2 => ?_)
  exact j_retZ d_C_check_7
set_option maxRecDepth 20000 in
theorem ct_C_check (N : Nat) (l : Launch) (D : va_G) (dA : Nat → ClassId) (B : Nat) (l0 : Option Nat) (h : Hp) : Ct l (⟨"RingingChamber", "check", "()Z"⟩ : MethodName) prog_1_method_32_code 1 (some .boolean) 4 91 D dA B [vr l0] h vI (C_check N l0 h) :=
  Ct.of2 (own := "RingingChamber") (nme := "check") (lv := [(0, vr l0)]) rfl rfl (by decide) (Nat.le_of_ble_eq_true rfl) rfl (fun p e R s m args below meth c => jc_C_check N l0 h)
theorem d_C_ringer_0 : decode prog_1_method_33_code 0 = .ok (.iload_n 1, 1) := by decide +kernel
theorem d_C_ringer_1 : decode prog_1_method_33_code 1 = .ok (.iconst 1, 1) := by decide +kernel
theorem d_C_ringer_2 : decode prog_1_method_33_code 2 = .ok (.if_icmp .lt 11, 3) := by decide +kernel
theorem d_C_ringer_5 : decode prog_1_method_33_code 5 = .ok (.iload_n 1, 1) := by decide +kernel
theorem d_C_ringer_6 : decode prog_1_method_33_code 6 = .ok (.aload_n 0, 1) := by decide +kernel
theorem d_C_ringer_7 : decode prog_1_method_33_code 7 = .ok (.getfield 26, 3) := by decide +kernel
theorem d_C_ringer_10 : decode prog_1_method_33_code 10 = .ok (.if_icmp .le 5, 3) := by decide +kernel
theorem d_C_ringer_13 : decode prog_1_method_33_code 13 = .ok (.iconst (-1), 1) := by decide +kernel
theorem d_C_ringer_14 : decode prog_1_method_33_code 14 = .ok (.ireturn, 1) := by decide +kernel
theorem d_C_ringer_15 : decode prog_1_method_33_code 15 = .ok (.iconst 1, 1) := by decide +kernel
theorem d_C_ringer_16 : decode prog_1_method_33_code 16 = .ok (.iload_n 1, 1) := by decide +kernel
theorem d_C_ringer_17 : decode prog_1_method_33_code 17 = .ok (.iconst 1, 1) := by decide +kernel
theorem d_C_ringer_18 : decode prog_1_method_33_code 18 = .ok (.isub, 1) := by decide +kernel
theorem d_C_ringer_19 : decode prog_1_method_33_code 19 = .ok (.ishl, 1) := by decide +kernel
theorem d_C_ringer_20 : decode prog_1_method_33_code 20 = .ok (.istore_n 3, 1) := by decide +kernel
theorem d_C_ringer_21 : decode prog_1_method_33_code 21 = .ok (.aload_n 0, 1) := by decide +kernel
theorem d_C_ringer_22 : decode prog_1_method_33_code 22 = .ok (.iload_n 2, 1) := by decide +kernel
theorem d_C_ringer_23 : decode prog_1_method_33_code 23 = .ok (.ifCond .eq 12, 3) := by decide +kernel
theorem d_C_ringer_26 : decode prog_1_method_33_code 26 = .ok (.aload_n 0, 1) := by decide +kernel
theorem d_C_ringer_27 : decode prog_1_method_33_code 27 = .ok (.getfield 30, 3) := by decide +kernel
theorem d_C_ringer_30 : decode prog_1_method_33_code 30 = .ok (.iload_n 3, 1) := by decide +kernel
theorem d_C_ringer_31 : decode prog_1_method_33_code 31 = .ok (.ior, 1) := by decide +kernel
theorem d_C_ringer_32 : decode prog_1_method_33_code 32 = .ok (.goto 11, 3) := by decide +kernel
theorem d_C_ringer_35 : decode prog_1_method_33_code 35 = .ok (.aload_n 0, 1) := by decide +kernel
theorem d_C_ringer_36 : decode prog_1_method_33_code 36 = .ok (.getfield 30, 3) := by decide +kernel
theorem d_C_ringer_39 : decode prog_1_method_33_code 39 = .ok (.iload_n 3, 1) := by decide +kernel
theorem d_C_ringer_40 : decode prog_1_method_33_code 40 = .ok (.iconst (-1), 1) := by decide +kernel
theorem d_C_ringer_41 : decode prog_1_method_33_code 41 = .ok (.ixor, 1) := by decide +kernel
theorem d_C_ringer_42 : decode prog_1_method_33_code 42 = .ok (.iand, 1) := by decide +kernel
theorem d_C_ringer_43 : decode prog_1_method_33_code 43 = .ok (.putfield 30, 3) := by decide +kernel
theorem d_C_ringer_46 : decode prog_1_method_33_code 46 = .ok (.aload_n 0, 1) := by decide +kernel
theorem d_C_ringer_47 : decode prog_1_method_33_code 47 = .ok (.getfield 30, 3) := by decide +kernel
theorem d_C_ringer_50 : decode prog_1_method_33_code 50 = .ok (.invokestatic 226, 3) := by decide +kernel
theorem d_C_ringer_53 : decode prog_1_method_33_code 53 = .ok (.ireturn, 1) := by decide +kernel
set_option maxRecDepth 20000 in
theorem jc_C_ringer_43 (N : Nat) (l0 : Option Nat) (u0 : Option Nat) (u1 : Int32) (h : Hp) : J p l e R s m args below meth c prog_1_method_33_code 4 "RingingChamber" 1 20 (some .int) "ringer" D dA B n0 s0 (QM below args s D dA B n0 s0 vI) 43 [(0, vr l0)] [vi u1, vr u0] h (C_ringer_43 N l0 u0 u1 h) := by
  unfold C_ringer_43
  refine j_putI d_C_ringer_43 fl_11_30 (Or.inl rfl) (fun h1 => ?_)
  refine j_aload_n d_C_ringer_46 0 rfl rfl ?_
  refine j_getI d_C_ringer_47 fl_11_30.r (fun x2 => ?_)
  refine j_cSI1 d_C_ringer_50 sl_11_226 ks_Jk_bitCount (ct_Jk_bitCount N l D dA B x2 h1) (by decide) (by decide) (Nat.le_of_ble_eq_true rfl) (fun x4 h3 => ?_)
  exact j_retI d_C_ringer_53
set_option maxRecDepth 20000 in
theorem jc_C_ringer (N : Nat) (l0 : Option Nat) (l1 : Int32) (l2 : Int32) (h : Hp) : J p l e R s m args below meth c prog_1_method_33_code 4 "RingingChamber" 1 20 (some .int) "ringer" D dA B n0 s0 (QM below args s D dA B n0 s0 vI) 0 [(0, vr l0), (1, vi l1), (2, vi l2)] [] h (C_ringer N l0 l1 l2 h) := by
  unfold C_ringer
  refine j_iload_n d_C_ringer_0 1 rfl rfl ?_
  refine j_iconst (v := 1) d_C_ringer_1 (by decide) ?_
  refine j_icmp_lt (tgt := 13) d_C_ringer_2 (by decide) ?_ ?_
  · refine j_iconst (v := -1) d_C_ringer_13 (by decide) ?_
    exact j_retI d_C_ringer_14
  · refine j_iload_n d_C_ringer_5 1 rfl rfl ?_
    refine j_aload_n d_C_ringer_6 0 rfl rfl ?_
    refine j_getI d_C_ringer_7 fl_11_26.r (fun x1 => ?_)
    refine j_icmp_le (tgt := 15) d_C_ringer_10 (by decide) ?_ ?_
    · refine j_iconst (v := 1) d_C_ringer_15 (by decide) ?_
      refine j_iload_n d_C_ringer_16 1 rfl rfl ?_
      refine j_iconst (v := 1) d_C_ringer_17 (by decide) ?_
      refine j_isub d_C_ringer_18 ?_
      refine j_ishl d_C_ringer_19 ?_
      refine j_nmi (fun x2 => ?_)
      refine j_istore_n (lv' := [(3, vi x2), (0, vr l0), (1, vi l1), (2, vi l2)]) d_C_ringer_20 rfl (by decide) rfl ?_
      refine j_aload_n d_C_ringer_21 1 rfl rfl ?_
      refine j_iload_n d_C_ringer_22 3 rfl rfl ?_
      refine j_if_eq (tgt := 35) d_C_ringer_23 (by decide) ?_ ?_
      · refine j_aload_n d_C_ringer_35 1 rfl rfl ?_
        refine j_getI d_C_ringer_36 fl_11_30.r (fun x3 => ?_)
        refine j_iload_n d_C_ringer_39 0 rfl rfl ?_
        refine j_iconst (v := -1) d_C_ringer_40 (by decide) ?_
        refine j_ixor d_C_ringer_41 ?_
        refine j_iand d_C_ringer_42 ?_
        exact J.sub [1] rfl (jc_C_ringer_43 N l0 l0 (x3 &&& (x2 ^^^ (-1 : Int32))) h)
      · refine j_aload_n d_C_ringer_26 1 rfl rfl ?_
        refine j_getI d_C_ringer_27 fl_11_30.r (fun x4 => ?_)
        refine j_iload_n d_C_ringer_30 0 rfl rfl ?_
        refine j_ior d_C_ringer_31 ?_
        refine j_goto (tgt := 43) d_C_ringer_32 (by decide) ?_
        exact J.sub [1] rfl (jc_C_ringer_43 N l0 l0 (x4 ||| x2) h)
    · refine j_iconst (v := -1) d_C_ringer_13 (by decide) ?_
      exact j_retI d_C_ringer_14
set_option maxRecDepth 20000 in
theorem ct_C_ringer (N : Nat) (l : Launch) (D : va_G) (dA : Nat → ClassId) (B : Nat) (l0 : Option Nat) (l1 : Int32) (l2 : Int32) (h : Hp) : Ct l (⟨"RingingChamber", "ringer", "(IZ)I"⟩ : MethodName) prog_1_method_33_code 4 (some .int) 1 20 D dA B [vr l0, vi l1, vi l2] h vI (C_ringer N l0 l1 l2 h) :=
  Ct.of2 (own := "RingingChamber") (nme := "ringer") (lv := [(0, vr l0), (1, vi l1), (2, vi l2)]) rfl rfl (by decide) (Nat.le_of_ble_eq_true rfl) rfl (fun p e R s m args below meth c => jc_C_ringer N l0 l1 l2 h)
theorem d_C_heard_0 : decode prog_1_method_34_code 0 = .ok (.aload_n 0, 1) := by decide +kernel
theorem d_C_heard_1 : decode prog_1_method_34_code 1 = .ok (.getfield 36, 3) := by decide +kernel
theorem d_C_heard_4 : decode prog_1_method_34_code 4 = .ok (.getfield 196, 3) := by decide +kernel
theorem d_C_heard_7 : decode prog_1_method_34_code 7 = .ok (.iload_n 1, 1) := by decide +kernel
theorem d_C_heard_8 : decode prog_1_method_34_code 8 = .ok (.invokevirtual 204, 3) := by decide +kernel
theorem d_C_heard_11 : decode prog_1_method_34_code 11 = .ok (.aload_n 0, 1) := by decide +kernel
theorem d_C_heard_12 : decode prog_1_method_34_code 12 = .ok (.getfield 30, 3) := by decide +kernel
theorem d_C_heard_15 : decode prog_1_method_34_code 15 = .ok (.invokestatic 231, 3) := by decide +kernel
theorem d_C_heard_18 : decode prog_1_method_34_code 18 = .ok (.lreturn, 1) := by decide +kernel
set_option maxRecDepth 20000 in
theorem jc_C_heard (N : Nat) (l0 : Option Nat) (l1 : Int32) (h : Hp) : J p l e R s m args below meth c prog_1_method_34_code 2 "RingingChamber" 2 50 (some .long) "heard" D dA B n0 s0 (QM below args s D dA B n0 s0 vL) 0 [(0, vr l0), (1, vi l1)] [] h (C_heard N l0 l1 h) := by
  unfold C_heard
  refine j_aload_n d_C_heard_0 0 rfl rfl ?_
  refine j_getR d_C_heard_1 fl_11_36.r (fun x1 => ?_)
  refine j_getR d_C_heard_4 fl_11_196 (fun x2 => ?_)
  refine j_iload_n d_C_heard_7 1 rfl rfl ?_
  refine j_vL1 d_C_heard_8 (allQ.cons (VD.mk vt_11_204_4 (ct_Rows_codeAt N l D dA B x2 l1 h) (by decide) (by decide)) allQ.nil) (Nat.le_of_ble_eq_true rfl) (fun x4 h3 => ?_)
  refine j_aload_n d_C_heard_11 0 rfl rfl ?_
  refine j_getI d_C_heard_12 fl_11_30.r (fun x5 => ?_)
  refine j_cSL2 d_C_heard_15 sl_11_231 ks_Rows_closedUp (ct_Rows_closedUp N l D dA B x4 x5 h3) (by decide) (by decide) (Nat.le_of_ble_eq_true rfl) (fun x7 h6 => ?_)
  exact j_retL d_C_heard_18
set_option maxRecDepth 20000 in
theorem ct_C_heard (N : Nat) (l : Launch) (D : va_G) (dA : Nat → ClassId) (B : Nat) (l0 : Option Nat) (l1 : Int32) (h : Hp) : Ct l (⟨"RingingChamber", "heard", "(I)J"⟩ : MethodName) prog_1_method_34_code 2 (some .long) 2 50 D dA B [vr l0, vi l1] h vL (C_heard N l0 l1 h) :=
  Ct.of2 (own := "RingingChamber") (nme := "heard") (lv := [(0, vr l0), (1, vi l1)]) rfl rfl (by decide) (Nat.le_of_ble_eq_true rfl) rfl (fun p e R s m args below meth c => jc_C_heard N l0 l1 h)
theorem d_C_fits_0 : decode prog_1_method_35_code 0 = .ok (.lload_n 1, 1) := by decide +kernel
theorem d_C_fits_1 : decode prog_1_method_35_code 1 = .ok (.aload_n 0, 1) := by decide +kernel
theorem d_C_fits_2 : decode prog_1_method_35_code 2 = .ok (.getfield 26, 3) := by decide +kernel
theorem d_C_fits_5 : decode prog_1_method_35_code 5 = .ok (.invokestatic 157, 3) := by decide +kernel
theorem d_C_fits_8 : decode prog_1_method_35_code 8 = .ok (.ifCond .eq 29, 3) := by decide +kernel
theorem d_C_fits_11 : decode prog_1_method_35_code 11 = .ok (.lload_n 3, 1) := by decide +kernel
theorem d_C_fits_12 : decode prog_1_method_35_code 12 = .ok (.aload_n 0, 1) := by decide +kernel
theorem d_C_fits_13 : decode prog_1_method_35_code 13 = .ok (.getfield 26, 3) := by decide +kernel
theorem d_C_fits_16 : decode prog_1_method_35_code 16 = .ok (.invokestatic 234, 3) := by decide +kernel
theorem d_C_fits_19 : decode prog_1_method_35_code 19 = .ok (.ifCond .eq 18, 3) := by decide +kernel
theorem d_C_fits_22 : decode prog_1_method_35_code 22 = .ok (.lload_n 1, 1) := by decide +kernel
theorem d_C_fits_23 : decode prog_1_method_35_code 23 = .ok (.lload_n 3, 1) := by decide +kernel
theorem d_C_fits_24 : decode prog_1_method_35_code 24 = .ok (.invokestatic 237, 3) := by decide +kernel
theorem d_C_fits_27 : decode prog_1_method_35_code 27 = .ok (.land, 1) := by decide +kernel
theorem d_C_fits_28 : decode prog_1_method_35_code 28 = .ok (.lload_n 3, 1) := by decide +kernel
theorem d_C_fits_29 : decode prog_1_method_35_code 29 = .ok (.lcmp, 1) := by decide +kernel
theorem d_C_fits_30 : decode prog_1_method_35_code 30 = .ok (.ifCond .ne 7, 3) := by decide +kernel
theorem d_C_fits_33 : decode prog_1_method_35_code 33 = .ok (.iconst 1, 1) := by decide +kernel
theorem d_C_fits_34 : decode prog_1_method_35_code 34 = .ok (.goto 4, 3) := by decide +kernel
theorem d_C_fits_37 : decode prog_1_method_35_code 37 = .ok (.iconst 0, 1) := by decide +kernel
theorem d_C_fits_38 : decode prog_1_method_35_code 38 = .ok (.ireturn, 1) := by decide +kernel
set_option maxRecDepth 20000 in
theorem jc_C_fits (N : Nat) (l0 : Option Nat) (l1 : Int64) (l3 : Int64) (h : Hp) : J p l e R s m args below meth c prog_1_method_35_code 5 "RingingChamber" 3 69 (some .boolean) "fits" D dA B n0 s0 (QM below args s D dA B n0 s0 vI) 0 [(0, vr l0), (1, vl l1), (3, vl l3)] [] h (C_fits N l0 l1 l3 h) := by
  unfold C_fits
  refine j_lload_n d_C_fits_0 1 rfl rfl ?_
  refine j_aload_n d_C_fits_1 0 rfl rfl ?_
  refine j_getI d_C_fits_2 fl_11_26.r (fun x1 => ?_)
  refine j_cSI2 d_C_fits_5 sl_11_157 ks_Rows_isRow (ct_Rows_isRow N l D dA B l1 x1 h) (by decide) (by decide) (Nat.le_of_ble_eq_true rfl) (fun x3 h2 => ?_)
  refine j_if_eq (tgt := 37) d_C_fits_8 (by decide) ?_ ?_
  · refine j_iconst (v := 0) d_C_fits_37 (by decide) ?_
    exact j_retZ d_C_fits_38
  · refine j_lload_n d_C_fits_11 2 rfl rfl ?_
    refine j_aload_n d_C_fits_12 0 rfl rfl ?_
    refine j_getI d_C_fits_13 fl_11_26.r (fun x4 => ?_)
    refine j_cSI2 d_C_fits_16 sl_11_234 ks_Rows_isPattern (ct_Rows_isPattern N l D dA B l3 x4 h2) (by decide) (by decide) (Nat.le_of_ble_eq_true rfl) (fun x6 h5 => ?_)
    refine j_if_eq (tgt := 37) d_C_fits_19 (by decide) ?_ ?_
    · refine j_iconst (v := 0) d_C_fits_37 (by decide) ?_
      exact j_retZ d_C_fits_38
    · refine j_lload_n d_C_fits_22 1 rfl rfl ?_
      refine j_lload_n d_C_fits_23 2 rfl rfl ?_
      refine j_cSL1 d_C_fits_24 sl_11_237 ks_Rows_toldDigits (ct_Rows_toldDigits N l D dA B l3 h5) (by decide) (by decide) (Nat.le_of_ble_eq_true rfl) (fun x8 h7 => ?_)
      refine j_land d_C_fits_27 ?_
      refine j_lload_n d_C_fits_28 2 rfl rfl ?_
      refine j_lcmp d_C_fits_29 ?_
      refine j_if_ne (tgt := 37) d_C_fits_30 (by decide) ?_ ?_
      · refine j_iconst (v := 1) d_C_fits_33 (by decide) ?_
        refine j_goto (tgt := 38) d_C_fits_34 (by decide) ?_
        exact j_retZ d_C_fits_38
      · refine j_iconst (v := 0) d_C_fits_37 (by decide) ?_
        exact j_retZ d_C_fits_38
set_option maxRecDepth 20000 in
theorem ct_C_fits (N : Nat) (l : Launch) (D : va_G) (dA : Nat → ClassId) (B : Nat) (l0 : Option Nat) (l1 : Int64) (l3 : Int64) (h : Hp) : Ct l (⟨"RingingChamber", "fits", "(JJ)Z"⟩ : MethodName) prog_1_method_35_code 5 (some .boolean) 3 69 D dA B [vr l0, vl l1, vl l3] h vI (C_fits N l0 l1 l3 h) :=
  Ct.of2 (own := "RingingChamber") (nme := "fits") (lv := [(0, vr l0), (1, vl l1), (3, vl l3)]) rfl rfl (by decide) (Nat.le_of_ble_eq_true rfl) rfl (fun p e R s m args below meth c => jc_C_fits N l0 l1 l3 h)
theorem d_C_music_0 : decode prog_1_method_36_code 0 = .ok (.lload_n 1, 1) := by decide +kernel
theorem d_C_music_1 : decode prog_1_method_36_code 1 = .ok (.aload_n 0, 1) := by decide +kernel
theorem d_C_music_2 : decode prog_1_method_36_code 2 = .ok (.getfield 26, 3) := by decide +kernel
theorem d_C_music_5 : decode prog_1_method_36_code 5 = .ok (.invokestatic 234, 3) := by decide +kernel
theorem d_C_music_8 : decode prog_1_method_36_code 8 = .ok (.ifCond .ne 5, 3) := by decide +kernel
theorem d_C_music_11 : decode prog_1_method_36_code 11 = .ok (.iconst (-1), 1) := by decide +kernel
theorem d_C_music_12 : decode prog_1_method_36_code 12 = .ok (.ireturn, 1) := by decide +kernel
theorem d_C_music_13 : decode prog_1_method_36_code 13 = .ok (.aload_n 0, 1) := by decide +kernel
theorem d_C_music_14 : decode prog_1_method_36_code 14 = .ok (.getfield 36, 3) := by decide +kernel
theorem d_C_music_17 : decode prog_1_method_36_code 17 = .ok (.getfield 196, 3) := by decide +kernel
theorem d_C_music_20 : decode prog_1_method_36_code 20 = .ok (.lload_n 1, 1) := by decide +kernel
theorem d_C_music_21 : decode prog_1_method_36_code 21 = .ok (.invokevirtual 240, 3) := by decide +kernel
theorem d_C_music_24 : decode prog_1_method_36_code 24 = .ok (.ireturn, 1) := by decide +kernel
set_option maxRecDepth 20000 in
theorem jc_C_music (N : Nat) (l0 : Option Nat) (l1 : Int64) (h : Hp) : J p l e R s m args below meth c prog_1_method_36_code 3 "RingingChamber" 3 72 (some .int) "music" D dA B n0 s0 (QM below args s D dA B n0 s0 vI) 0 [(0, vr l0), (1, vl l1)] [] h (C_music N l0 l1 h) := by
  unfold C_music
  refine j_lload_n d_C_music_0 1 rfl rfl ?_
  refine j_aload_n d_C_music_1 0 rfl rfl ?_
  refine j_getI d_C_music_2 fl_11_26.r (fun x1 => ?_)
  refine j_cSI2 d_C_music_5 sl_11_234 ks_Rows_isPattern (ct_Rows_isPattern N l D dA B l1 x1 h) (by decide) (by decide) (Nat.le_of_ble_eq_true rfl) (fun x3 h2 => ?_)
  refine j_if_ne (tgt := 13) d_C_music_8 (by decide) ?_ ?_
  · refine j_iconst (v := -1) d_C_music_11 (by decide) ?_
    exact j_retI d_C_music_12
  · refine j_aload_n d_C_music_13 0 rfl rfl ?_
    refine j_getR d_C_music_14 fl_11_36.r (fun x4 => ?_)
    refine j_getR d_C_music_17 fl_11_196 (fun x5 => ?_)
    refine j_lload_n d_C_music_20 1 rfl rfl ?_
    refine j_vI1 d_C_music_21 (allQ.cons (VD.mk vt_11_240_4 (ct_Rows_countFitting N l D dA B x5 l1 h2) (by decide) (by decide)) allQ.nil) (Nat.le_of_ble_eq_true rfl) (fun x7 h6 => ?_)
    exact j_retI d_C_music_24
set_option maxRecDepth 20000 in
theorem ct_C_music (N : Nat) (l : Launch) (D : va_G) (dA : Nat → ClassId) (B : Nat) (l0 : Option Nat) (l1 : Int64) (h : Hp) : Ct l (⟨"RingingChamber", "music", "(J)I"⟩ : MethodName) prog_1_method_36_code 3 (some .int) 3 72 D dA B [vr l0, vl l1] h vI (C_music N l0 l1 h) :=
  Ct.of2 (own := "RingingChamber") (nme := "music") (lv := [(0, vr l0), (1, vl l1)]) rfl rfl (by decide) (Nat.le_of_ble_eq_true rfl) rfl (fun p e R s m args below meth c => jc_C_music N l0 l1 h)
theorem d_C_allow_0 : decode prog_1_method_37_code 0 = .ok (.aload_n 0, 1) := by decide +kernel
theorem d_C_allow_1 : decode prog_1_method_37_code 1 = .ok (.iload_n 1, 1) := by decide +kernel
theorem d_C_allow_2 : decode prog_1_method_37_code 2 = .ok (.invokevirtual 85, 3) := by decide +kernel
theorem d_C_allow_5 : decode prog_1_method_37_code 5 = .ok (.astore_n 3, 1) := by decide +kernel
theorem d_C_allow_6 : decode prog_1_method_37_code 6 = .ok (.aload_n 3, 1) := by decide +kernel
theorem d_C_allow_7 : decode prog_1_method_37_code 7 = .ok (.ifnull 13, 3) := by decide +kernel
theorem d_C_allow_10 : decode prog_1_method_37_code 10 = .ok (.iload_n 2, 1) := by decide +kernel
theorem d_C_allow_11 : decode prog_1_method_37_code 11 = .ok (.ifCond .lt 9, 3) := by decide +kernel
theorem d_C_allow_14 : decode prog_1_method_37_code 14 = .ok (.iload_n 2, 1) := by decide +kernel
theorem d_C_allow_15 : decode prog_1_method_37_code 15 = .ok (.bipush 8, 2) := by decide +kernel
theorem d_C_allow_17 : decode prog_1_method_37_code 17 = .ok (.if_icmp .lt 5, 3) := by decide +kernel
theorem d_C_allow_20 : decode prog_1_method_37_code 20 = .ok (.iconst (-1), 1) := by decide +kernel
theorem d_C_allow_21 : decode prog_1_method_37_code 21 = .ok (.ireturn, 1) := by decide +kernel
theorem d_C_allow_22 : decode prog_1_method_37_code 22 = .ok (.aload_n 3, 1) := by decide +kernel
theorem d_C_allow_23 : decode prog_1_method_37_code 23 = .ok (.iload_n 2, 1) := by decide +kernel
theorem d_C_allow_24 : decode prog_1_method_37_code 24 = .ok (.putfield 244, 3) := by decide +kernel
theorem d_C_allow_27 : decode prog_1_method_37_code 27 = .ok (.aload_n 0, 1) := by decide +kernel
theorem d_C_allow_28 : decode prog_1_method_37_code 28 = .ok (.getfield 43, 3) := by decide +kernel
theorem d_C_allow_31 : decode prog_1_method_37_code 31 = .ok (.iconst 1, 1) := by decide +kernel
theorem d_C_allow_32 : decode prog_1_method_37_code 32 = .ok (.putfield 81, 3) := by decide +kernel
theorem d_C_allow_35 : decode prog_1_method_37_code 35 = .ok (.iconst 0, 1) := by decide +kernel
theorem d_C_allow_36 : decode prog_1_method_37_code 36 = .ok (.istore 4, 2) := by decide +kernel
theorem d_C_allow_38 : decode prog_1_method_37_code 38 = .ok (.iconst 0, 1) := by decide +kernel
theorem d_C_allow_39 : decode prog_1_method_37_code 39 = .ok (.istore 5, 2) := by decide +kernel
theorem d_C_allow_41 : decode prog_1_method_37_code 41 = .ok (.iload 5, 2) := by decide +kernel
theorem d_C_allow_43 : decode prog_1_method_37_code 43 = .ok (.aload_n 0, 1) := by decide +kernel
theorem d_C_allow_44 : decode prog_1_method_37_code 44 = .ok (.getfield 72, 3) := by decide +kernel
theorem d_C_allow_47 : decode prog_1_method_37_code 47 = .ok (.if_icmp .ge 40, 3) := by decide +kernel
theorem d_C_allow_50 : decode prog_1_method_37_code 50 = .ok (.aload_n 0, 1) := by decide +kernel
theorem d_C_allow_51 : decode prog_1_method_37_code 51 = .ok (.getfield 22, 3) := by decide +kernel
theorem d_C_allow_54 : decode prog_1_method_37_code 54 = .ok (.iload 5, 2) := by decide +kernel
theorem d_C_allow_56 : decode prog_1_method_37_code 56 = .ok (.aaload, 1) := by decide +kernel
theorem d_C_allow_57 : decode prog_1_method_37_code 57 = .ok (.astore 6, 2) := by decide +kernel
theorem d_C_allow_59 : decode prog_1_method_37_code 59 = .ok (.iload 4, 2) := by decide +kernel
theorem d_C_allow_61 : decode prog_1_method_37_code 61 = .ok (.aload 6, 2) := by decide +kernel
theorem d_C_allow_63 : decode prog_1_method_37_code 63 = .ok (.ifnonnull 7, 3) := by decide +kernel
theorem d_C_allow_66 : decode prog_1_method_37_code 66 = .ok (.iconst 0, 1) := by decide +kernel
theorem d_C_allow_67 : decode prog_1_method_37_code 67 = .ok (.goto 11, 3) := by decide +kernel
theorem d_C_allow_70 : decode prog_1_method_37_code 70 = .ok (.aload 6, 2) := by decide +kernel
theorem d_C_allow_72 : decode prog_1_method_37_code 72 = .ok (.getfield 244, 3) := by decide +kernel
theorem d_C_allow_75 : decode prog_1_method_37_code 75 = .ok (.invokestatic 226, 3) := by decide +kernel
theorem d_C_allow_78 : decode prog_1_method_37_code 78 = .ok (.iadd, 1) := by decide +kernel
theorem d_C_allow_79 : decode prog_1_method_37_code 79 = .ok (.istore 4, 2) := by decide +kernel
theorem d_C_allow_81 : decode prog_1_method_37_code 81 = .ok (.iinc 5 1, 3) := by decide +kernel
theorem d_C_allow_84 : decode prog_1_method_37_code 84 = .ok (.goto (-43), 3) := by decide +kernel
theorem d_C_allow_87 : decode prog_1_method_37_code 87 = .ok (.iload 4, 2) := by decide +kernel
theorem d_C_allow_89 : decode prog_1_method_37_code 89 = .ok (.ireturn, 1) := by decide +kernel
set_option maxRecDepth 20000 in
theorem jc_C_allow_78 (N : Nat) (re41 : Option Nat → Int32 → Int32 → Hp → Option (Int32 × Hp)) (hre41 : ∀ y0 y1 y2 h, J p l e R s m args below meth c prog_1_method_37_code 7 "RingingChamber" 1 21 (some .int) "allow" D dA B n0 s0 (QM below args s D dA B n0 s0 vI) 41 [(0, vr y0), (4, vi y1), (5, vi y2)] [] h (re41 y0 y1 y2 h)) (l0 : Option Nat) (l5 : Int32) (u0 : Int32) (u1 : Int32) (h : Hp) : J p l e R s m args below meth c prog_1_method_37_code 7 "RingingChamber" 1 21 (some .int) "allow" D dA B n0 s0 (QM below args s D dA B n0 s0 vI) 78 [(0, vr l0), (5, vi l5)] [vi u1, vi u0] h (C_allow_78 N re41 l0 l5 u0 u1 h) := by
  unfold C_allow_78
  refine j_iadd d_C_allow_78 ?_
  refine j_nmi (fun x1 => ?_)
  refine j_istore (lv' := [(4, vi x1), (0, vr l0), (5, vi l5)]) d_C_allow_79 (by decide) rfl ?_
  refine j_iinc (lvv := fun x2 => [(5, vi x2), (4, vi x1), (0, vr l0)]) d_C_allow_81 2 rfl rfl (by decide) (fun _ => rfl) (fun x2 => ?_)
  refine j_goto (tgt := 41) d_C_allow_84 (by decide) ?_
  exact J.sub [2, 1, 0] rfl (hre41 l0 x1 x2 h)
set_option maxRecDepth 20000 in
theorem jc_C_allow_41 (N : Nat) : ∀ (n : Nat) (l0 : Option Nat) (l4 : Int32) (l5 : Int32) (h : Hp), J p l e R s m args below meth c prog_1_method_37_code 7 "RingingChamber" 1 21 (some .int) "allow" D dA B n0 s0 (QM below args s D dA B n0 s0 vI) 41 [(0, vr l0), (4, vi l4), (5, vi l5)] [] h (C_allow_41 N n l0 l4 l5 h) := by
  intro n
  induction n with
  | zero => intros; exact J.none
  | succ n ih =>
    intro l0 l4 l5 h
    rw [C_allow_41]
    refine j_iload d_C_allow_41 2 rfl ?_
    refine j_aload_n d_C_allow_43 0 rfl rfl ?_
    refine j_getI d_C_allow_44 fl_11_72.r (fun x1 => ?_)
    refine j_icmp_ge (tgt := 87) d_C_allow_47 (by decide) ?_ ?_
    · refine j_iload d_C_allow_87 1 rfl ?_
      exact j_retI d_C_allow_89
    · refine j_aload_n d_C_allow_50 0 rfl rfl ?_
      refine j_getR d_C_allow_51 fl_11_22.r (fun x2 => ?_)
      refine j_iload d_C_allow_54 2 rfl ?_
      refine j_ald18 d_C_allow_56 (fun x3 => ?_)
      refine j_astore (lv' := [(6, vr x3), (0, vr l0), (4, vi l4), (5, vi l5)]) d_C_allow_57 (by decide) rfl ?_
      refine j_iload d_C_allow_59 2 rfl ?_
      refine j_aload d_C_allow_61 0 rfl ?_
      refine j_ifnonnull (tgt := 70) d_C_allow_63 (by decide) ?_ ?_
      · refine j_iconst (v := 0) d_C_allow_66 (by decide) ?_
        refine j_goto (tgt := 78) d_C_allow_67 (by decide) ?_
        exact J.sub [1, 3] rfl (jc_C_allow_78 N (C_allow_41 N n) ih l0 l5 l4 0 h)
      · refine j_aload d_C_allow_70 0 rfl ?_
        refine j_getI d_C_allow_72 fl_11_244.r (fun x4 => ?_)
        refine j_cSI1 d_C_allow_75 sl_11_226 ks_Jk_bitCount (ct_Jk_bitCount N l D dA B x4 h) (by decide) (by decide) (Nat.le_of_ble_eq_true rfl) (fun x6 h5 => ?_)
        exact J.sub [1, 3] rfl (jc_C_allow_78 N (C_allow_41 N n) ih l0 l5 l4 x6 h5)
set_option maxRecDepth 20000 in
theorem jc_C_allow (N : Nat) (l0 : Option Nat) (l1 : Int32) (l2 : Int32) (h : Hp) : J p l e R s m args below meth c prog_1_method_37_code 7 "RingingChamber" 1 21 (some .int) "allow" D dA B n0 s0 (QM below args s D dA B n0 s0 vI) 0 [(0, vr l0), (1, vi l1), (2, vi l2)] [] h (C_allow N l0 l1 l2 h) := by
  unfold C_allow
  refine j_aload_n d_C_allow_0 0 rfl rfl ?_
  refine j_iload_n d_C_allow_1 1 rfl rfl ?_
  refine j_vR1 d_C_allow_2 (allQ.cons (VD.mk vt_11_85_11 (ct_C_methodAt N l D dA B l0 l1 h) (by decide) (by decide)) allQ.nil) (Nat.le_of_ble_eq_true rfl) (fun x2 h1 => ?_)
  refine j_astore_n (lv' := [(3, vr x2), (0, vr l0), (1, vi l1), (2, vi l2)]) d_C_allow_5 rfl (by decide) rfl ?_
  refine j_aload_n d_C_allow_6 0 rfl rfl ?_
  refine j_ifnull (tgt := 20) d_C_allow_7 (by decide) ?_ ?_
  · refine j_iconst (v := -1) d_C_allow_20 (by decide) ?_
    exact j_retI d_C_allow_21
  · refine j_iload_n d_C_allow_10 3 rfl rfl ?_
    refine j_if_lt (tgt := 20) d_C_allow_11 (by decide) ?_ ?_
    · refine j_iconst (v := -1) d_C_allow_20 (by decide) ?_
      exact j_retI d_C_allow_21
    · refine j_iload_n d_C_allow_14 3 rfl rfl ?_
      refine j_bipush (v := 8) d_C_allow_15 (by decide) ?_
      refine j_icmp_lt (tgt := 22) d_C_allow_17 (by decide) ?_ ?_
      · refine j_aload_n d_C_allow_22 0 rfl rfl ?_
        refine j_iload_n d_C_allow_23 3 rfl rfl ?_
        refine j_putI d_C_allow_24 fl_11_244 (Or.inl rfl) (fun h3 => ?_)
        refine j_aload_n d_C_allow_27 1 rfl rfl ?_
        refine j_getR d_C_allow_28 fl_11_43.r (fun x4 => ?_)
        refine j_iconst (v := 1) d_C_allow_31 (by decide) ?_
        refine j_putZ d_C_allow_32 fl_11_81 (Or.inl rfl) (fun h5 => ?_)
        refine j_iconst (v := 0) d_C_allow_35 (by decide) ?_
        refine j_istore (lv' := [(4, vi 0), (3, vr x2), (0, vr l0), (1, vi l1), (2, vi l2)]) d_C_allow_36 (by decide) rfl ?_
        refine j_iconst (v := 0) d_C_allow_38 (by decide) ?_
        refine j_istore (lv' := [(5, vi 0), (4, vi 0), (3, vr x2), (0, vr l0), (1, vi l1), (2, vi l2)]) d_C_allow_39 (by decide) rfl ?_
        exact J.sub [3, 1, 0] rfl (jc_C_allow_41 N N l0 0 0 h5)
      · refine j_iconst (v := -1) d_C_allow_20 (by decide) ?_
        exact j_retI d_C_allow_21
set_option maxRecDepth 20000 in
theorem ct_C_allow (N : Nat) (l : Launch) (D : va_G) (dA : Nat → ClassId) (B : Nat) (l0 : Option Nat) (l1 : Int32) (l2 : Int32) (h : Hp) : Ct l (⟨"RingingChamber", "allow", "(II)I"⟩ : MethodName) prog_1_method_37_code 7 (some .int) 1 21 D dA B [vr l0, vi l1, vi l2] h vI (C_allow N l0 l1 l2 h) :=
  Ct.of2 (own := "RingingChamber") (nme := "allow") (lv := [(0, vr l0), (1, vi l1), (2, vi l2)]) rfl rfl (by decide) (Nat.le_of_ble_eq_true rfl) rfl (fun p e R s m args below meth c => jc_C_allow N l0 l1 l2 h)
theorem d_C_search_0 : decode prog_1_method_38_code 0 = .ok (.iload_n 1, 1) := by decide +kernel
theorem d_C_search_1 : decode prog_1_method_38_code 1 = .ok (.iconst 1, 1) := by decide +kernel
theorem d_C_search_2 : decode prog_1_method_38_code 2 = .ok (.if_icmp .lt 13, 3) := by decide +kernel
theorem d_C_search_5 : decode prog_1_method_38_code 5 = .ok (.iload_n 1, 1) := by decide +kernel
theorem d_C_search_6 : decode prog_1_method_38_code 6 = .ok (.bipush 12, 2) := by decide +kernel
theorem d_C_search_8 : decode prog_1_method_38_code 8 = .ok (.if_icmp .gt 7, 3) := by decide +kernel
theorem d_C_search_11 : decode prog_1_method_38_code 11 = .ok (.iload_n 2, 1) := by decide +kernel
theorem d_C_search_12 : decode prog_1_method_38_code 12 = .ok (.ifCond .ge 5, 3) := by decide +kernel
theorem d_C_search_15 : decode prog_1_method_38_code 15 = .ok (.iconst (-1), 1) := by decide +kernel
theorem d_C_search_16 : decode prog_1_method_38_code 16 = .ok (.ireturn, 1) := by decide +kernel
theorem d_C_search_17 : decode prog_1_method_38_code 17 = .ok (.lload_n 3, 1) := by decide +kernel
theorem d_C_search_18 : decode prog_1_method_38_code 18 = .ok (.aload_n 0, 1) := by decide +kernel
theorem d_C_search_19 : decode prog_1_method_38_code 19 = .ok (.getfield 26, 3) := by decide +kernel
theorem d_C_search_22 : decode prog_1_method_38_code 22 = .ok (.invokestatic 234, 3) := by decide +kernel
theorem d_C_search_25 : decode prog_1_method_38_code 25 = .ok (.ifCond .eq 16, 3) := by decide +kernel
theorem d_C_search_28 : decode prog_1_method_38_code 28 = .ok (.iload 5, 2) := by decide +kernel
theorem d_C_search_30 : decode prog_1_method_38_code 30 = .ok (.ifCond .lt 11, 3) := by decide +kernel
theorem d_C_search_33 : decode prog_1_method_38_code 33 = .ok (.iload 5, 2) := by decide +kernel
theorem d_C_search_35 : decode prog_1_method_38_code 35 = .ok (.sipush 1000, 3) := by decide +kernel
theorem d_C_search_38 : decode prog_1_method_38_code 38 = .ok (.if_icmp .le 5, 3) := by decide +kernel
theorem d_C_search_41 : decode prog_1_method_38_code 41 = .ok (.iconst (-1), 1) := by decide +kernel
theorem d_C_search_42 : decode prog_1_method_38_code 42 = .ok (.ireturn, 1) := by decide +kernel
theorem d_C_search_43 : decode prog_1_method_38_code 43 = .ok (.aload_n 0, 1) := by decide +kernel
theorem d_C_search_44 : decode prog_1_method_38_code 44 = .ok (.getfield 43, 3) := by decide +kernel
theorem d_C_search_47 : decode prog_1_method_38_code 47 = .ok (.aload_n 0, 1) := by decide +kernel
theorem d_C_search_48 : decode prog_1_method_38_code 48 = .ok (.getfield 26, 3) := by decide +kernel
theorem d_C_search_51 : decode prog_1_method_38_code 51 = .ok (.iload_n 1, 1) := by decide +kernel
theorem d_C_search_52 : decode prog_1_method_38_code 52 = .ok (.iload_n 2, 1) := by decide +kernel
theorem d_C_search_53 : decode prog_1_method_38_code 53 = .ok (.lload_n 3, 1) := by decide +kernel
theorem d_C_search_54 : decode prog_1_method_38_code 54 = .ok (.invokevirtual 247, 3) := by decide +kernel
theorem d_C_search_57 : decode prog_1_method_38_code 57 = .ok (.iconst 0, 1) := by decide +kernel
theorem d_C_search_58 : decode prog_1_method_38_code 58 = .ok (.istore 6, 2) := by decide +kernel
theorem d_C_search_60 : decode prog_1_method_38_code 60 = .ok (.iload 6, 2) := by decide +kernel
theorem d_C_search_62 : decode prog_1_method_38_code 62 = .ok (.aload_n 0, 1) := by decide +kernel
theorem d_C_search_63 : decode prog_1_method_38_code 63 = .ok (.getfield 72, 3) := by decide +kernel
theorem d_C_search_66 : decode prog_1_method_38_code 66 = .ok (.iconst 3, 1) := by decide +kernel
theorem d_C_search_67 : decode prog_1_method_38_code 67 = .ok (.imul, 1) := by decide +kernel
theorem d_C_search_68 : decode prog_1_method_38_code 68 = .ok (.if_icmp .ge 50, 3) := by decide +kernel
theorem d_C_search_71 : decode prog_1_method_38_code 71 = .ok (.aload_n 0, 1) := by decide +kernel
theorem d_C_search_72 : decode prog_1_method_38_code 72 = .ok (.iload 6, 2) := by decide +kernel
theorem d_C_search_74 : decode prog_1_method_38_code 74 = .ok (.iconst 3, 1) := by decide +kernel
theorem d_C_search_75 : decode prog_1_method_38_code 75 = .ok (.idiv, 1) := by decide +kernel
theorem d_C_search_76 : decode prog_1_method_38_code 76 = .ok (.invokevirtual 85, 3) := by decide +kernel
theorem d_C_search_79 : decode prog_1_method_38_code 79 = .ok (.astore 7, 2) := by decide +kernel
theorem d_C_search_81 : decode prog_1_method_38_code 81 = .ok (.aload 7, 2) := by decide +kernel
theorem d_C_search_83 : decode prog_1_method_38_code 83 = .ok (.ifnull 29, 3) := by decide +kernel
theorem d_C_search_86 : decode prog_1_method_38_code 86 = .ok (.aload 7, 2) := by decide +kernel
theorem d_C_search_88 : decode prog_1_method_38_code 88 = .ok (.getfield 244, 3) := by decide +kernel
theorem d_C_search_91 : decode prog_1_method_38_code 91 = .ok (.iload 6, 2) := by decide +kernel
theorem d_C_search_93 : decode prog_1_method_38_code 93 = .ok (.iconst 3, 1) := by decide +kernel
theorem d_C_search_94 : decode prog_1_method_38_code 94 = .ok (.irem, 1) := by decide +kernel
theorem d_C_search_95 : decode prog_1_method_38_code 95 = .ok (.ishr, 1) := by decide +kernel
theorem d_C_search_96 : decode prog_1_method_38_code 96 = .ok (.iconst 1, 1) := by decide +kernel
theorem d_C_search_97 : decode prog_1_method_38_code 97 = .ok (.iand, 1) := by decide +kernel
theorem d_C_search_98 : decode prog_1_method_38_code 98 = .ok (.ifCond .eq 14, 3) := by decide +kernel
theorem d_C_search_101 : decode prog_1_method_38_code 101 = .ok (.aload_n 0, 1) := by decide +kernel
theorem d_C_search_102 : decode prog_1_method_38_code 102 = .ok (.getfield 43, 3) := by decide +kernel
theorem d_C_search_105 : decode prog_1_method_38_code 105 = .ok (.aload 7, 2) := by decide +kernel
theorem d_C_search_107 : decode prog_1_method_38_code 107 = .ok (.iload 6, 2) := by decide +kernel
theorem d_C_search_109 : decode prog_1_method_38_code 109 = .ok (.invokevirtual 251, 3) := by decide +kernel
theorem d_C_search_112 : decode prog_1_method_38_code 112 = .ok (.iinc 6 1, 3) := by decide +kernel
theorem d_C_search_115 : decode prog_1_method_38_code 115 = .ok (.goto (-55), 3) := by decide +kernel
theorem d_C_search_118 : decode prog_1_method_38_code 118 = .ok (.aload_n 0, 1) := by decide +kernel
theorem d_C_search_119 : decode prog_1_method_38_code 119 = .ok (.getfield 43, 3) := by decide +kernel
theorem d_C_search_122 : decode prog_1_method_38_code 122 = .ok (.iload 5, 2) := by decide +kernel
theorem d_C_search_124 : decode prog_1_method_38_code 124 = .ok (.invokevirtual 254, 3) := by decide +kernel
theorem d_C_search_127 : decode prog_1_method_38_code 127 = .ok (.ireturn, 1) := by decide +kernel
set_option maxRecDepth 20000 in
theorem jc_C_search_112 (N : Nat) (re60 : Option Nat → Int32 → Int32 → Hp → Option (Int32 × Hp)) (hre60 : ∀ y0 y1 y2 h, J p l e R s m args below meth c prog_1_method_38_code 8 "RingingChamber" 7 175 (some .int) "search" D dA B n0 s0 (QM below args s D dA B n0 s0 vI) 60 [(0, vr y0), (5, vi y1), (6, vi y2)] [] h (re60 y0 y1 y2 h)) (l0 : Option Nat) (l5 : Int32) (l6 : Int32) (h : Hp) : J p l e R s m args below meth c prog_1_method_38_code 8 "RingingChamber" 7 175 (some .int) "search" D dA B n0 s0 (QM below args s D dA B n0 s0 vI) 112 [(0, vr l0), (5, vi l5), (6, vi l6)] [] h (C_search_112 N re60 l0 l5 l6 h) := by
  unfold C_search_112
  refine j_iinc (lvv := fun x1 => [(6, vi x1), (0, vr l0), (5, vi l5)]) d_C_search_112 2 rfl rfl (by decide) (fun _ => rfl) (fun x1 => ?_)
  refine j_goto (tgt := 60) d_C_search_115 (by decide) ?_
  exact J.sub [1, 2, 0] rfl (hre60 l0 l5 x1 h)
set_option maxRecDepth 20000 in
theorem jc_C_search_60 (N : Nat) : ∀ (n : Nat) (l0 : Option Nat) (l5 : Int32) (l6 : Int32) (h : Hp), J p l e R s m args below meth c prog_1_method_38_code 8 "RingingChamber" 7 175 (some .int) "search" D dA B n0 s0 (QM below args s D dA B n0 s0 vI) 60 [(0, vr l0), (5, vi l5), (6, vi l6)] [] h (C_search_60 N n l0 l5 l6 h) := by
  intro n
  induction n with
  | zero => intros; exact J.none
  | succ n ih =>
    intro l0 l5 l6 h
    rw [C_search_60]
    refine j_iload d_C_search_60 2 rfl ?_
    refine j_aload_n d_C_search_62 0 rfl rfl ?_
    refine j_getI d_C_search_63 fl_11_72.r (fun x1 => ?_)
    refine j_iconst (v := 3) d_C_search_66 (by decide) ?_
    refine j_imul d_C_search_67 ?_
    refine j_icmp_ge (tgt := 118) d_C_search_68 (by decide) ?_ ?_
    · refine j_aload_n d_C_search_118 0 rfl rfl ?_
      refine j_getR d_C_search_119 fl_11_43.r (fun x2 => ?_)
      refine j_iload d_C_search_122 1 rfl ?_
      refine j_vI1 d_C_search_124 (allQ.cons (VD.mk vt_11_254_5 (ct_Search_seek N l D dA B x2 l5 h) (by decide) (by decide)) allQ.nil) (Nat.le_of_ble_eq_true rfl) (fun x4 h3 => ?_)
      exact j_retI d_C_search_127
    · refine j_aload_n d_C_search_71 0 rfl rfl ?_
      refine j_iload d_C_search_72 2 rfl ?_
      refine j_iconst (v := 3) d_C_search_74 (by decide) ?_
      refine j_idiv d_C_search_75 ?_
      refine j_vR1 d_C_search_76 (allQ.cons (VD.mk vt_11_85_11 (ct_C_methodAt N l D dA B l0 (l6 / 3) h) (by decide) (by decide)) allQ.nil) (Nat.le_of_ble_eq_true rfl) (fun x6 h5 => ?_)
      refine j_astore (lv' := [(7, vr x6), (0, vr l0), (5, vi l5), (6, vi l6)]) d_C_search_79 (by decide) rfl ?_
      refine j_aload d_C_search_81 0 rfl ?_
      refine j_ifnull (tgt := 112) d_C_search_83 (by decide) ?_ ?_
      · exact J.sub [1, 2, 3] rfl (jc_C_search_112 N (C_search_60 N n) ih l0 l5 l6 h5)
      · refine j_aload d_C_search_86 0 rfl ?_
        refine j_getI d_C_search_88 fl_11_244.r (fun x7 => ?_)
        refine j_iload d_C_search_91 3 rfl ?_
        refine j_iconst (v := 3) d_C_search_93 (by decide) ?_
        refine j_irem d_C_search_94 ?_
        refine j_ishr d_C_search_95 ?_
        refine j_iconst (v := 1) d_C_search_96 (by decide) ?_
        refine j_iand d_C_search_97 ?_
        refine j_if_eq (tgt := 112) d_C_search_98 (by decide) ?_ ?_
        · exact J.sub [1, 2, 3] rfl (jc_C_search_112 N (C_search_60 N n) ih l0 l5 l6 h5)
        · refine j_aload_n d_C_search_101 1 rfl rfl ?_
          refine j_getR d_C_search_102 fl_11_43.r (fun x8 => ?_)
          refine j_aload d_C_search_105 0 rfl ?_
          refine j_iload d_C_search_107 3 rfl ?_
          refine j_vU2 d_C_search_109 (allQ.cons (VD.mk vt_11_251_5 (ct_Search_offer N l D dA B x8 x6 l6 h5) (by decide) (by decide)) allQ.nil) (Nat.le_of_ble_eq_true rfl) (fun _ h9 => ?_)
          exact J.sub [1, 2, 3] rfl (jc_C_search_112 N (C_search_60 N n) ih l0 l5 l6 h9)
set_option maxRecDepth 20000 in
theorem jc_C_search (N : Nat) (l0 : Option Nat) (l1 : Int32) (l2 : Int32) (l3 : Int64) (l5 : Int32) (h : Hp) : J p l e R s m args below meth c prog_1_method_38_code 8 "RingingChamber" 7 175 (some .int) "search" D dA B n0 s0 (QM below args s D dA B n0 s0 vI) 0 [(0, vr l0), (1, vi l1), (2, vi l2), (3, vl l3), (5, vi l5)] [] h (C_search N l0 l1 l2 l3 l5 h) := by
  unfold C_search
  refine j_iload_n d_C_search_0 1 rfl rfl ?_
  refine j_iconst (v := 1) d_C_search_1 (by decide) ?_
  refine j_icmp_lt (tgt := 15) d_C_search_2 (by decide) ?_ ?_
  · refine j_iconst (v := -1) d_C_search_15 (by decide) ?_
    exact j_retI d_C_search_16
  · refine j_iload_n d_C_search_5 1 rfl rfl ?_
    refine j_bipush (v := 12) d_C_search_6 (by decide) ?_
    refine j_icmp_gt (tgt := 15) d_C_search_8 (by decide) ?_ ?_
    · refine j_iconst (v := -1) d_C_search_15 (by decide) ?_
      exact j_retI d_C_search_16
    · refine j_iload_n d_C_search_11 2 rfl rfl ?_
      refine j_if_ge (tgt := 17) d_C_search_12 (by decide) ?_ ?_
      · refine j_lload_n d_C_search_17 3 rfl rfl ?_
        refine j_aload_n d_C_search_18 0 rfl rfl ?_
        refine j_getI d_C_search_19 fl_11_26.r (fun x1 => ?_)
        refine j_cSI2 d_C_search_22 sl_11_234 ks_Rows_isPattern (ct_Rows_isPattern N l D dA B l3 x1 h) (by decide) (by decide) (Nat.le_of_ble_eq_true rfl) (fun x3 h2 => ?_)
        refine j_if_eq (tgt := 41) d_C_search_25 (by decide) ?_ ?_
        · refine j_iconst (v := -1) d_C_search_41 (by decide) ?_
          exact j_retI d_C_search_42
        · refine j_iload d_C_search_28 4 rfl ?_
          refine j_if_lt (tgt := 41) d_C_search_30 (by decide) ?_ ?_
          · refine j_iconst (v := -1) d_C_search_41 (by decide) ?_
            exact j_retI d_C_search_42
          · refine j_iload d_C_search_33 4 rfl ?_
            refine j_sipush (v := 1000) d_C_search_35 (by decide) ?_
            refine j_icmp_le (tgt := 43) d_C_search_38 (by decide) ?_ ?_
            · refine j_aload_n d_C_search_43 0 rfl rfl ?_
              refine j_getR d_C_search_44 fl_11_43.r (fun x4 => ?_)
              refine j_aload_n d_C_search_47 0 rfl rfl ?_
              refine j_getI d_C_search_48 fl_11_26.r (fun x5 => ?_)
              refine j_iload_n d_C_search_51 1 rfl rfl ?_
              refine j_iload_n d_C_search_52 2 rfl rfl ?_
              refine j_lload_n d_C_search_53 3 rfl rfl ?_
              refine j_vU4 d_C_search_54 (allQ.cons (VD.mk vt_11_247_5 (ct_Search_begin N l D dA B x4 x5 l1 l2 l3 h2) (by decide) (by decide)) allQ.nil) (Nat.le_of_ble_eq_true rfl) (fun _ h6 => ?_)
              refine j_iconst (v := 0) d_C_search_57 (by decide) ?_
              refine j_istore (lv' := [(6, vi 0), (0, vr l0), (1, vi l1), (2, vi l2), (3, vl l3), (5, vi l5)]) d_C_search_58 (by decide) rfl ?_
              exact J.sub [1, 5, 0] rfl (jc_C_search_60 N N l0 l5 0 h6)
            · refine j_iconst (v := -1) d_C_search_41 (by decide) ?_
              exact j_retI d_C_search_42
      · refine j_iconst (v := -1) d_C_search_15 (by decide) ?_
        exact j_retI d_C_search_16
set_option maxRecDepth 20000 in
theorem ct_C_search (N : Nat) (l : Launch) (D : va_G) (dA : Nat → ClassId) (B : Nat) (l0 : Option Nat) (l1 : Int32) (l2 : Int32) (l3 : Int64) (l5 : Int32) (h : Hp) : Ct l (⟨"RingingChamber", "search", "(IIJI)I"⟩ : MethodName) prog_1_method_38_code 8 (some .int) 7 175 D dA B [vr l0, vi l1, vi l2, vl l3, vi l5] h vI (C_search N l0 l1 l2 l3 l5 h) :=
  Ct.of2 (own := "RingingChamber") (nme := "search") (lv := [(0, vr l0), (1, vi l1), (2, vi l2), (3, vl l3), (5, vi l5)]) rfl rfl (by decide) (Nat.le_of_ble_eq_true rfl) rfl (fun p e R s m args below meth c => jc_C_search N l0 l1 l2 l3 l5 h)
theorem d_C_goOn_0 : decode prog_1_method_39_code 0 = .ok (.aload_n 0, 1) := by decide +kernel
theorem d_C_goOn_1 : decode prog_1_method_39_code 1 = .ok (.getfield 43, 3) := by decide +kernel
theorem d_C_goOn_4 : decode prog_1_method_39_code 4 = .ok (.invokevirtual 257, 3) := by decide +kernel
theorem d_C_goOn_7 : decode prog_1_method_39_code 7 = .ok (.ifCond .eq 14, 3) := by decide +kernel
theorem d_C_goOn_10 : decode prog_1_method_39_code 10 = .ok (.iload_n 1, 1) := by decide +kernel
theorem d_C_goOn_11 : decode prog_1_method_39_code 11 = .ok (.ifCond .lt 10, 3) := by decide +kernel
theorem d_C_goOn_14 : decode prog_1_method_39_code 14 = .ok (.iload_n 1, 1) := by decide +kernel
theorem d_C_goOn_15 : decode prog_1_method_39_code 15 = .ok (.sipush 1000, 3) := by decide +kernel
theorem d_C_goOn_18 : decode prog_1_method_39_code 18 = .ok (.if_icmp .le 5, 3) := by decide +kernel
theorem d_C_goOn_21 : decode prog_1_method_39_code 21 = .ok (.iconst (-1), 1) := by decide +kernel
theorem d_C_goOn_22 : decode prog_1_method_39_code 22 = .ok (.ireturn, 1) := by decide +kernel
theorem d_C_goOn_23 : decode prog_1_method_39_code 23 = .ok (.aload_n 0, 1) := by decide +kernel
theorem d_C_goOn_24 : decode prog_1_method_39_code 24 = .ok (.getfield 43, 3) := by decide +kernel
theorem d_C_goOn_27 : decode prog_1_method_39_code 27 = .ok (.getfield 81, 3) := by decide +kernel
theorem d_C_goOn_30 : decode prog_1_method_39_code 30 = .ok (.ifCond .eq 6, 3) := by decide +kernel
theorem d_C_goOn_33 : decode prog_1_method_39_code 33 = .ok (.bipush (-2), 2) := by decide +kernel
theorem d_C_goOn_35 : decode prog_1_method_39_code 35 = .ok (.ireturn, 1) := by decide +kernel
theorem d_C_goOn_36 : decode prog_1_method_39_code 36 = .ok (.aload_n 0, 1) := by decide +kernel
theorem d_C_goOn_37 : decode prog_1_method_39_code 37 = .ok (.getfield 43, 3) := by decide +kernel
theorem d_C_goOn_40 : decode prog_1_method_39_code 40 = .ok (.iload_n 1, 1) := by decide +kernel
theorem d_C_goOn_41 : decode prog_1_method_39_code 41 = .ok (.invokevirtual 254, 3) := by decide +kernel
theorem d_C_goOn_44 : decode prog_1_method_39_code 44 = .ok (.ireturn, 1) := by decide +kernel
set_option maxRecDepth 20000 in
theorem jc_C_goOn (N : Nat) (l0 : Option Nat) (l1 : Int32) (h : Hp) : J p l e R s m args below meth c prog_1_method_39_code 2 "RingingChamber" 7 175 (some .int) "goOn" D dA B n0 s0 (QM below args s D dA B n0 s0 vI) 0 [(0, vr l0), (1, vi l1)] [] h (C_goOn N l0 l1 h) := by
  unfold C_goOn
  refine j_aload_n d_C_goOn_0 0 rfl rfl ?_
  refine j_getR d_C_goOn_1 fl_11_43.r (fun x1 => ?_)
  refine j_vI0 d_C_goOn_4 (allQ.cons (VD.mk vt_11_257_5 (ct_Search_isThere N l D dA B x1 h) (by decide) (by decide)) allQ.nil) (Nat.le_of_ble_eq_true rfl) (fun x3 h2 => ?_)
  refine j_if_eq (tgt := 21) d_C_goOn_7 (by decide) ?_ ?_
  · refine j_iconst (v := -1) d_C_goOn_21 (by decide) ?_
    exact j_retI d_C_goOn_22
  · refine j_iload_n d_C_goOn_10 1 rfl rfl ?_
    refine j_if_lt (tgt := 21) d_C_goOn_11 (by decide) ?_ ?_
    · refine j_iconst (v := -1) d_C_goOn_21 (by decide) ?_
      exact j_retI d_C_goOn_22
    · refine j_iload_n d_C_goOn_14 1 rfl rfl ?_
      refine j_sipush (v := 1000) d_C_goOn_15 (by decide) ?_
      refine j_icmp_le (tgt := 23) d_C_goOn_18 (by decide) ?_ ?_
      · refine j_aload_n d_C_goOn_23 0 rfl rfl ?_
        refine j_getR d_C_goOn_24 fl_11_43.r (fun x4 => ?_)
        refine j_getI d_C_goOn_27 fl_11_81.r (fun x5 => ?_)
        refine j_if_eq (tgt := 36) d_C_goOn_30 (by decide) ?_ ?_
        · refine j_aload_n d_C_goOn_36 0 rfl rfl ?_
          refine j_getR d_C_goOn_37 fl_11_43.r (fun x6 => ?_)
          refine j_iload_n d_C_goOn_40 1 rfl rfl ?_
          refine j_vI1 d_C_goOn_41 (allQ.cons (VD.mk vt_11_254_5 (ct_Search_seek N l D dA B x6 l1 h2) (by decide) (by decide)) allQ.nil) (Nat.le_of_ble_eq_true rfl) (fun x8 h7 => ?_)
          exact j_retI d_C_goOn_44
        · refine j_bipush (v := -2) d_C_goOn_33 (by decide) ?_
          exact j_retI d_C_goOn_35
      · refine j_iconst (v := -1) d_C_goOn_21 (by decide) ?_
        exact j_retI d_C_goOn_22
set_option maxRecDepth 20000 in
theorem ct_C_goOn (N : Nat) (l : Launch) (D : va_G) (dA : Nat → ClassId) (B : Nat) (l0 : Option Nat) (l1 : Int32) (h : Hp) : Ct l (⟨"RingingChamber", "goOn", "(I)I"⟩ : MethodName) prog_1_method_39_code 2 (some .int) 7 175 D dA B [vr l0, vi l1] h vI (C_goOn N l0 l1 h) :=
  Ct.of2 (own := "RingingChamber") (nme := "goOn") (lv := [(0, vr l0), (1, vi l1)]) rfl rfl (by decide) (Nat.le_of_ble_eq_true rfl) rfl (fun p e R s m args below meth c => jc_C_goOn N l0 l1 h)
theorem d_C_found_0 : decode prog_1_method_40_code 0 = .ok (.aload_n 0, 1) := by decide +kernel
theorem d_C_found_1 : decode prog_1_method_40_code 1 = .ok (.getfield 43, 3) := by decide +kernel
theorem d_C_found_4 : decode prog_1_method_40_code 4 = .ok (.iload_n 1, 1) := by decide +kernel
theorem d_C_found_5 : decode prog_1_method_40_code 5 = .ok (.invokevirtual 260, 3) := by decide +kernel
theorem d_C_found_8 : decode prog_1_method_40_code 8 = .ok (.ireturn, 1) := by decide +kernel
set_option maxRecDepth 20000 in
theorem jc_C_found (N : Nat) (l0 : Option Nat) (l1 : Int32) (h : Hp) : J p l e R s m args below meth c prog_1_method_40_code 2 "RingingChamber" 1 21 (some .int) "found" D dA B n0 s0 (QM below args s D dA B n0 s0 vI) 0 [(0, vr l0), (1, vi l1)] [] h (C_found N l0 l1 h) := by
  unfold C_found
  refine j_aload_n d_C_found_0 0 rfl rfl ?_
  refine j_getR d_C_found_1 fl_11_43.r (fun x1 => ?_)
  refine j_iload_n d_C_found_4 1 rfl rfl ?_
  refine j_vI1 d_C_found_5 (allQ.cons (VD.mk vt_11_260_5 (ct_Search_itemFound N l D dA B x1 l1 h) (by decide) (by decide)) allQ.nil) (Nat.le_of_ble_eq_true rfl) (fun x3 h2 => ?_)
  exact j_retI d_C_found_8
set_option maxRecDepth 20000 in
theorem ct_C_found (N : Nat) (l : Launch) (D : va_G) (dA : Nat → ClassId) (B : Nat) (l0 : Option Nat) (l1 : Int32) (h : Hp) : Ct l (⟨"RingingChamber", "found", "(I)I"⟩ : MethodName) prog_1_method_40_code 2 (some .int) 1 21 D dA B [vr l0, vi l1] h vI (C_found N l0 l1 h) :=
  Ct.of2 (own := "RingingChamber") (nme := "found") (lv := [(0, vr l0), (1, vi l1)]) rfl rfl (by decide) (Nat.le_of_ble_eq_true rfl) rfl (fun p e R s m args below meth c => jc_C_found N l0 l1 h)
theorem d_C_count_0 : decode prog_1_method_41_code 0 = .ok (.iload_n 1, 1) := by decide +kernel
theorem d_C_count_1 : decode prog_1_method_41_code 1 = .ok (.tableswitch 90 0 6 #[43, 48, 53, 61, 69, 77, 85], 43) := by decide +kernel
theorem d_C_count_44 : decode prog_1_method_41_code 44 = .ok (.aload_n 0, 1) := by decide +kernel
theorem d_C_count_45 : decode prog_1_method_41_code 45 = .ok (.getfield 26, 3) := by decide +kernel
theorem d_C_count_48 : decode prog_1_method_41_code 48 = .ok (.ireturn, 1) := by decide +kernel
theorem d_C_count_49 : decode prog_1_method_41_code 49 = .ok (.aload_n 0, 1) := by decide +kernel
theorem d_C_count_50 : decode prog_1_method_41_code 50 = .ok (.getfield 72, 3) := by decide +kernel
theorem d_C_count_53 : decode prog_1_method_41_code 53 = .ok (.ireturn, 1) := by decide +kernel
theorem d_C_count_54 : decode prog_1_method_41_code 54 = .ok (.aload_n 0, 1) := by decide +kernel
theorem d_C_count_55 : decode prog_1_method_41_code 55 = .ok (.getfield 36, 3) := by decide +kernel
theorem d_C_count_58 : decode prog_1_method_41_code 58 = .ok (.getfield 186, 3) := by decide +kernel
theorem d_C_count_61 : decode prog_1_method_41_code 61 = .ok (.ireturn, 1) := by decide +kernel
theorem d_C_count_62 : decode prog_1_method_41_code 62 = .ok (.aload_n 0, 1) := by decide +kernel
theorem d_C_count_63 : decode prog_1_method_41_code 63 = .ok (.getfield 10, 3) := by decide +kernel
theorem d_C_count_66 : decode prog_1_method_41_code 66 = .ok (.getfield 66, 3) := by decide +kernel
theorem d_C_count_69 : decode prog_1_method_41_code 69 = .ok (.ireturn, 1) := by decide +kernel
theorem d_C_count_70 : decode prog_1_method_41_code 70 = .ok (.aload_n 0, 1) := by decide +kernel
theorem d_C_count_71 : decode prog_1_method_41_code 71 = .ok (.getfield 36, 3) := by decide +kernel
theorem d_C_count_74 : decode prog_1_method_41_code 74 = .ok (.getfield 216, 3) := by decide +kernel
theorem d_C_count_77 : decode prog_1_method_41_code 77 = .ok (.ireturn, 1) := by decide +kernel
theorem d_C_count_78 : decode prog_1_method_41_code 78 = .ok (.aload_n 0, 1) := by decide +kernel
theorem d_C_count_79 : decode prog_1_method_41_code 79 = .ok (.getfield 43, 3) := by decide +kernel
theorem d_C_count_82 : decode prog_1_method_41_code 82 = .ok (.getfield 263, 3) := by decide +kernel
theorem d_C_count_85 : decode prog_1_method_41_code 85 = .ok (.ireturn, 1) := by decide +kernel
theorem d_C_count_86 : decode prog_1_method_41_code 86 = .ok (.aload_n 0, 1) := by decide +kernel
theorem d_C_count_87 : decode prog_1_method_41_code 87 = .ok (.getfield 266, 3) := by decide +kernel
theorem d_C_count_90 : decode prog_1_method_41_code 90 = .ok (.ireturn, 1) := by decide +kernel
theorem d_C_count_91 : decode prog_1_method_41_code 91 = .ok (.iconst (-1), 1) := by decide +kernel
theorem d_C_count_92 : decode prog_1_method_41_code 92 = .ok (.ireturn, 1) := by decide +kernel
set_option maxRecDepth 20000 in
theorem jc_C_count (N : Nat) (l0 : Option Nat) (l1 : Int32) (h : Hp) : J p l e R s m args below meth c prog_1_method_41_code 2 "RingingChamber" 0 0 (some .int) "count" D dA B n0 s0 (QM below args s D dA B n0 s0 vI) 0 [(0, vr l0), (1, vi l1)] [] h (C_count N l0 l1 h) := by
  unfold C_count
  refine j_iload_n d_C_count_0 1 rfl rfl ?_
  refine j_tsw (ts := [(0, 44), (1, 49), (2, 54), (3, 62), (4, 70), (5, 78), (6, 86)]) (d := 91) d_C_count_1 (by decide +kernel) (by decide) (by decide +kernel) (by decide) rfl ((allQ.cons (sw_case (t := 44) (by decide) ?_) (allQ.cons (sw_case (t := 49) (by decide) ?_) (allQ.cons (sw_case (t := 54) (by decide) ?_) (allQ.cons (sw_case (t := 62) (by decide) ?_) (allQ.cons (sw_case (t := 70) (by decide) ?_) (allQ.cons (sw_case (t := 78) (by decide) ?_) (allQ.cons (sw_case (t := 86) (by decide) ?_) allQ.nil)))))))) ?_
  · refine j_aload_n d_C_count_44 0 rfl rfl ?_
    refine j_getI d_C_count_45 fl_11_26.r (fun x1 => ?_)
    exact j_retI d_C_count_48
  · refine j_aload_n d_C_count_49 0 rfl rfl ?_
    refine j_getI d_C_count_50 fl_11_72.r (fun x2 => ?_)
    exact j_retI d_C_count_53
  · refine j_aload_n d_C_count_54 0 rfl rfl ?_
    refine j_getR d_C_count_55 fl_11_36.r (fun x3 => ?_)
    refine j_getI d_C_count_58 fl_11_186.r (fun x4 => ?_)
    exact j_retI d_C_count_61
  · refine j_aload_n d_C_count_62 0 rfl rfl ?_
    refine j_getR d_C_count_63 fl_11_10.r (fun x5 => ?_)
    refine j_getI d_C_count_66 fl_11_66.r (fun x6 => ?_)
    exact j_retI d_C_count_69
  · refine j_aload_n d_C_count_70 0 rfl rfl ?_
    refine j_getR d_C_count_71 fl_11_36.r (fun x7 => ?_)
    refine j_getI d_C_count_74 fl_11_216.r (fun x8 => ?_)
    exact j_retI d_C_count_77
  · refine j_aload_n d_C_count_78 0 rfl rfl ?_
    refine j_getR d_C_count_79 fl_11_43.r (fun x9 => ?_)
    refine j_getI d_C_count_82 fl_11_263.r (fun x10 => ?_)
    exact j_retI d_C_count_85
  · refine j_aload_n d_C_count_86 0 rfl rfl ?_
    refine j_getI d_C_count_87 fl_11_266.r (fun x11 => ?_)
    exact j_retI d_C_count_90
  · refine j_iconst (v := -1) d_C_count_91 (by decide) ?_
    exact j_retI d_C_count_92
set_option maxRecDepth 20000 in
theorem ct_C_count (N : Nat) (l : Launch) (D : va_G) (dA : Nat → ClassId) (B : Nat) (l0 : Option Nat) (l1 : Int32) (h : Hp) : Ct l (⟨"RingingChamber", "count", "(I)I"⟩ : MethodName) prog_1_method_41_code 2 (some .int) 0 0 D dA B [vr l0, vi l1] h vI (C_count N l0 l1 h) :=
  Ct.of2 (own := "RingingChamber") (nme := "count") (lv := [(0, vr l0), (1, vi l1)]) rfl rfl (by decide) (Nat.le_of_ble_eq_true rfl) rfl (fun p e R s m args below meth c => jc_C_count N l0 l1 h)
theorem d_M_rounds_0 : decode prog_15_method_4_code 0 = .ok (.lconst 0, 1) := by decide +kernel
theorem d_M_rounds_1 : decode prog_15_method_4_code 1 = .ok (.lstore_n 1, 1) := by decide +kernel
theorem d_M_rounds_2 : decode prog_15_method_4_code 2 = .ok (.aload_n 0, 1) := by decide +kernel
theorem d_M_rounds_3 : decode prog_15_method_4_code 3 = .ok (.getfield 105, 3) := by decide +kernel
theorem d_M_rounds_6 : decode prog_15_method_4_code 6 = .ok (.istore_n 3, 1) := by decide +kernel
theorem d_M_rounds_7 : decode prog_15_method_4_code 7 = .ok (.iload_n 3, 1) := by decide +kernel
theorem d_M_rounds_8 : decode prog_15_method_4_code 8 = .ok (.iconst 1, 1) := by decide +kernel
theorem d_M_rounds_9 : decode prog_15_method_4_code 9 = .ok (.if_icmp .lt 18, 3) := by decide +kernel
theorem d_M_rounds_12 : decode prog_15_method_4_code 12 = .ok (.ldc2_w 155, 3) := by decide +kernel
theorem d_M_rounds_15 : decode prog_15_method_4_code 15 = .ok (.lload_n 1, 1) := by decide +kernel
theorem d_M_rounds_16 : decode prog_15_method_4_code 16 = .ok (.lmul, 1) := by decide +kernel
theorem d_M_rounds_17 : decode prog_15_method_4_code 17 = .ok (.iload_n 3, 1) := by decide +kernel
theorem d_M_rounds_18 : decode prog_15_method_4_code 18 = .ok (.i2l, 1) := by decide +kernel
theorem d_M_rounds_19 : decode prog_15_method_4_code 19 = .ok (.ladd, 1) := by decide +kernel
theorem d_M_rounds_20 : decode prog_15_method_4_code 20 = .ok (.lstore_n 1, 1) := by decide +kernel
theorem d_M_rounds_21 : decode prog_15_method_4_code 21 = .ok (.iinc 3 (-1), 3) := by decide +kernel
theorem d_M_rounds_24 : decode prog_15_method_4_code 24 = .ok (.goto (-17), 3) := by decide +kernel
theorem d_M_rounds_27 : decode prog_15_method_4_code 27 = .ok (.lload_n 1, 1) := by decide +kernel
theorem d_M_rounds_28 : decode prog_15_method_4_code 28 = .ok (.lreturn, 1) := by decide +kernel
set_option maxRecDepth 20000 in
theorem jc_M_rounds_7 (N : Nat) : ∀ (n : Nat) (l1 : Int64) (l3 : Int32) (h : Hp), J p l e R s m args below meth c prog_15_method_4_code 4 "RingingChamberModel" 0 0 (some .long) "rounds" D dA B n0 s0 (QM below args s D dA B n0 s0 vL) 7 [(1, vl l1), (3, vi l3)] [] h (M_rounds_7 N n l1 l3 h) := by
  intro n
  induction n with
  | zero => intros; exact J.none
  | succ n ih =>
    intro l1 l3 h
    rw [M_rounds_7]
    refine j_iload_n d_M_rounds_7 1 rfl rfl ?_
    refine j_iconst (v := 1) d_M_rounds_8 (by decide) ?_
    refine j_icmp_lt (tgt := 27) d_M_rounds_9 (by decide) ?_ ?_
    · refine j_lload_n d_M_rounds_27 0 rfl rfl ?_
      exact j_retL d_M_rounds_28
    · refine j_ldc2 d_M_rounds_12 ckl_12_155 ?_
      refine j_lload_n d_M_rounds_15 0 rfl rfl ?_
      refine j_lmul d_M_rounds_16 ?_
      refine j_iload_n d_M_rounds_17 1 rfl rfl ?_
      refine j_i2l d_M_rounds_18 ?_
      refine j_ladd d_M_rounds_19 ?_
      refine j_nml (fun x1 => ?_)
      refine j_lstore_n (lv' := [(1, vl x1), (3, vi l3)]) d_M_rounds_20 rfl (by decide) rfl ?_
      refine j_iinc (lvv := fun x2 => [(3, vi x2), (1, vl x1)]) d_M_rounds_21 1 rfl rfl (by decide) (fun _ => rfl) (fun x2 => ?_)
      refine j_goto (tgt := 7) d_M_rounds_24 (by decide) ?_
      exact J.sub [1, 0] rfl (ih x1 x2 h)
set_option maxRecDepth 20000 in
theorem jc_M_rounds (N : Nat) (l0 : Option Nat) (h : Hp) : J p l e R s m args below meth c prog_15_method_4_code 4 "RingingChamberModel" 0 0 (some .long) "rounds" D dA B n0 s0 (QM below args s D dA B n0 s0 vL) 0 [(0, vr l0)] [] h (M_rounds N l0 h) := by
  unfold M_rounds
  refine j_lconst (v := 0) d_M_rounds_0 (by decide) ?_
  refine j_lstore_n (lv' := [(1, vl 0), (0, vr l0)]) d_M_rounds_1 rfl (by decide) rfl ?_
  refine j_aload_n d_M_rounds_2 1 rfl rfl ?_
  refine j_getI d_M_rounds_3 fl_12_105.r (fun x1 => ?_)
  refine j_istore_n (lv' := [(3, vi x1), (1, vl 0), (0, vr l0)]) d_M_rounds_6 rfl (by decide) rfl ?_
  exact J.sub [1, 0] rfl (jc_M_rounds_7 N N 0 x1 h)
set_option maxRecDepth 20000 in
theorem ct_M_rounds (N : Nat) (l : Launch) (D : va_G) (dA : Nat → ClassId) (B : Nat) (l0 : Option Nat) (h : Hp) : Ct l (⟨"RingingChamberModel", "rounds", "()J"⟩ : MethodName) prog_15_method_4_code 4 (some .long) 0 0 D dA B [vr l0] h vL (M_rounds N l0 h) :=
  Ct.of2 (own := "RingingChamberModel") (nme := "rounds") (lv := [(0, vr l0)]) rfl rfl (by decide) (Nat.le_of_ble_eq_true rfl) rfl (fun p e R s m args below meth c => jc_M_rounds N l0 h)
theorem d_M_anew_0 : decode prog_15_method_3_code 0 = .ok (.aload_n 0, 1) := by decide +kernel
theorem d_M_anew_1 : decode prog_15_method_3_code 1 = .ok (.getfield 50, 3) := by decide +kernel
theorem d_M_anew_4 : decode prog_15_method_3_code 4 = .ok (.iconst 0, 1) := by decide +kernel
theorem d_M_anew_5 : decode prog_15_method_3_code 5 = .ok (.aload_n 0, 1) := by decide +kernel
theorem d_M_anew_6 : decode prog_15_method_3_code 6 = .ok (.invokevirtual 133, 3) := by decide +kernel
theorem d_M_anew_9 : decode prog_15_method_3_code 9 = .ok (.lastore, 1) := by decide +kernel
theorem d_M_anew_10 : decode prog_15_method_3_code 10 = .ok (.aload_n 0, 1) := by decide +kernel
theorem d_M_anew_11 : decode prog_15_method_3_code 11 = .ok (.iconst 1, 1) := by decide +kernel
theorem d_M_anew_12 : decode prog_15_method_3_code 12 = .ok (.putfield 137, 3) := by decide +kernel
theorem d_M_anew_15 : decode prog_15_method_3_code 15 = .ok (.aload_n 0, 1) := by decide +kernel
theorem d_M_anew_16 : decode prog_15_method_3_code 16 = .ok (.iconst 0, 1) := by decide +kernel
theorem d_M_anew_17 : decode prog_15_method_3_code 17 = .ok (.putfield 140, 3) := by decide +kernel
theorem d_M_anew_20 : decode prog_15_method_3_code 20 = .ok (.aload_n 0, 1) := by decide +kernel
theorem d_M_anew_21 : decode prog_15_method_3_code 21 = .ok (.iconst 0, 1) := by decide +kernel
theorem d_M_anew_22 : decode prog_15_method_3_code 22 = .ok (.putfield 143, 3) := by decide +kernel
theorem d_M_anew_25 : decode prog_15_method_3_code 25 = .ok (.aload_n 0, 1) := by decide +kernel
theorem d_M_anew_26 : decode prog_15_method_3_code 26 = .ok (.iconst 0, 1) := by decide +kernel
theorem d_M_anew_27 : decode prog_15_method_3_code 27 = .ok (.putfield 146, 3) := by decide +kernel
theorem d_M_anew_30 : decode prog_15_method_3_code 30 = .ok (.aload_n 0, 1) := by decide +kernel
theorem d_M_anew_31 : decode prog_15_method_3_code 31 = .ok (.iconst 0, 1) := by decide +kernel
theorem d_M_anew_32 : decode prog_15_method_3_code 32 = .ok (.putfield 149, 3) := by decide +kernel
theorem d_M_anew_35 : decode prog_15_method_3_code 35 = .ok (.aload_n 0, 1) := by decide +kernel
theorem d_M_anew_36 : decode prog_15_method_3_code 36 = .ok (.iconst (-1), 1) := by decide +kernel
theorem d_M_anew_37 : decode prog_15_method_3_code 37 = .ok (.putfield 152, 3) := by decide +kernel
theorem d_M_anew_40 : decode prog_15_method_3_code 40 = .ok (.return_, 1) := by decide +kernel
set_option maxRecDepth 20000 in
theorem jc_M_anew (N : Nat) (l0 : Option Nat) (h : Hp) : J p l e R s m args below meth c prog_15_method_3_code 1 "RingingChamberModel" 1 23 none "anew" D dA B n0 s0 (QM below args s D dA B n0 s0 vU) 0 [(0, vr l0)] [] h (M_anew N l0 h) := by
  unfold M_anew
  refine j_aload_n d_M_anew_0 0 rfl rfl ?_
  refine j_getR d_M_anew_1 fl_12_50.r (fun x1 => ?_)
  refine j_iconst (v := 0) d_M_anew_4 (by decide) ?_
  refine j_aload_n d_M_anew_5 0 rfl rfl ?_
  refine j_vL0 d_M_anew_6 (allQ.cons (VD.mk vt_12_133_12 (ct_M_rounds N l D dA B l0 h) (by decide) (by decide)) allQ.nil) (Nat.le_of_ble_eq_true rfl) (fun x3 h2 => ?_)
  refine j_last d_M_anew_9 (fun h4 => ?_)
  refine j_aload_n d_M_anew_10 0 rfl rfl ?_
  refine j_iconst (v := 1) d_M_anew_11 (by decide) ?_
  refine j_putI d_M_anew_12 fl_12_137 (Or.inl rfl) (fun h5 => ?_)
  refine j_aload_n d_M_anew_15 0 rfl rfl ?_
  refine j_iconst (v := 0) d_M_anew_16 (by decide) ?_
  refine j_putI d_M_anew_17 fl_12_140 (Or.inl rfl) (fun h6 => ?_)
  refine j_aload_n d_M_anew_20 0 rfl rfl ?_
  refine j_iconst (v := 0) d_M_anew_21 (by decide) ?_
  refine j_putI d_M_anew_22 fl_12_143 (Or.inl rfl) (fun h7 => ?_)
  refine j_aload_n d_M_anew_25 0 rfl rfl ?_
  refine j_iconst (v := 0) d_M_anew_26 (by decide) ?_
  refine j_putI d_M_anew_27 fl_12_146 (Or.inl rfl) (fun h8 => ?_)
  refine j_aload_n d_M_anew_30 0 rfl rfl ?_
  refine j_iconst (v := 0) d_M_anew_31 (by decide) ?_
  refine j_putZ d_M_anew_32 fl_12_149 (Or.inl rfl) (fun h9 => ?_)
  refine j_aload_n d_M_anew_35 0 rfl rfl ?_
  refine j_iconst (v := -1) d_M_anew_36 (by decide) ?_
  refine j_putI d_M_anew_37 fl_12_152 (Or.inl rfl) (fun h10 => ?_)
  exact j_retU d_M_anew_40
set_option maxRecDepth 20000 in
theorem ct_M_anew (N : Nat) (l : Launch) (D : va_G) (dA : Nat → ClassId) (B : Nat) (l0 : Option Nat) (h : Hp) : Ct l (⟨"RingingChamberModel", "anew", "()V"⟩ : MethodName) prog_15_method_3_code 1 none 1 23 D dA B [vr l0] h vU (M_anew N l0 h) :=
  Ct.of2 (own := "RingingChamberModel") (nme := "anew") (lv := [(0, vr l0)]) rfl rfl (by decide) (Nat.le_of_ble_eq_true rfl) rfl (fun p e R s m args below meth c => jc_M_anew N l0 h)
theorem d_M_begin_0 : decode prog_15_method_2_code 0 = .ok (.aload_n 0, 1) := by decide +kernel
theorem d_M_begin_1 : decode prog_15_method_2_code 1 = .ok (.iload_n 1, 1) := by decide +kernel
theorem d_M_begin_2 : decode prog_15_method_2_code 2 = .ok (.putfield 105, 3) := by decide +kernel
theorem d_M_begin_5 : decode prog_15_method_2_code 5 = .ok (.aload_n 0, 1) := by decide +kernel
theorem d_M_begin_6 : decode prog_15_method_2_code 6 = .ok (.iconst 0, 1) := by decide +kernel
theorem d_M_begin_7 : decode prog_15_method_2_code 7 = .ok (.putfield 109, 3) := by decide +kernel
theorem d_M_begin_10 : decode prog_15_method_2_code 10 = .ok (.aload_n 0, 1) := by decide +kernel
theorem d_M_begin_11 : decode prog_15_method_2_code 11 = .ok (.iconst 0, 1) := by decide +kernel
theorem d_M_begin_12 : decode prog_15_method_2_code 12 = .ok (.putfield 112, 3) := by decide +kernel
theorem d_M_begin_15 : decode prog_15_method_2_code 15 = .ok (.aload_n 0, 1) := by decide +kernel
theorem d_M_begin_16 : decode prog_15_method_2_code 16 = .ok (.iconst (-1), 1) := by decide +kernel
theorem d_M_begin_17 : decode prog_15_method_2_code 17 = .ok (.putfield 115, 3) := by decide +kernel
theorem d_M_begin_20 : decode prog_15_method_2_code 20 = .ok (.iconst 0, 1) := by decide +kernel
theorem d_M_begin_21 : decode prog_15_method_2_code 21 = .ok (.istore_n 2, 1) := by decide +kernel
theorem d_M_begin_22 : decode prog_15_method_2_code 22 = .ok (.iload_n 2, 1) := by decide +kernel
theorem d_M_begin_23 : decode prog_15_method_2_code 23 = .ok (.bipush 13, 2) := by decide +kernel
theorem d_M_begin_25 : decode prog_15_method_2_code 25 = .ok (.if_icmp .ge 16, 3) := by decide +kernel
theorem d_M_begin_28 : decode prog_15_method_2_code 28 = .ok (.aload_n 0, 1) := by decide +kernel
theorem d_M_begin_29 : decode prog_15_method_2_code 29 = .ok (.getfield 63, 3) := by decide +kernel
theorem d_M_begin_32 : decode prog_15_method_2_code 32 = .ok (.iload_n 2, 1) := by decide +kernel
theorem d_M_begin_33 : decode prog_15_method_2_code 33 = .ok (.iconst 0, 1) := by decide +kernel
theorem d_M_begin_34 : decode prog_15_method_2_code 34 = .ok (.bastore, 1) := by decide +kernel
theorem d_M_begin_35 : decode prog_15_method_2_code 35 = .ok (.iinc 2 1, 3) := by decide +kernel
theorem d_M_begin_38 : decode prog_15_method_2_code 38 = .ok (.goto (-16), 3) := by decide +kernel
theorem d_M_begin_41 : decode prog_15_method_2_code 41 = .ok (.aload_n 0, 1) := by decide +kernel
theorem d_M_begin_42 : decode prog_15_method_2_code 42 = .ok (.iconst 0, 1) := by decide +kernel
theorem d_M_begin_43 : decode prog_15_method_2_code 43 = .ok (.putfield 118, 3) := by decide +kernel
theorem d_M_begin_46 : decode prog_15_method_2_code 46 = .ok (.aload_n 0, 1) := by decide +kernel
theorem d_M_begin_47 : decode prog_15_method_2_code 47 = .ok (.iconst 0, 1) := by decide +kernel
theorem d_M_begin_48 : decode prog_15_method_2_code 48 = .ok (.putfield 121, 3) := by decide +kernel
theorem d_M_begin_51 : decode prog_15_method_2_code 51 = .ok (.aload_n 0, 1) := by decide +kernel
theorem d_M_begin_52 : decode prog_15_method_2_code 52 = .ok (.iconst 0, 1) := by decide +kernel
theorem d_M_begin_53 : decode prog_15_method_2_code 53 = .ok (.putfield 124, 3) := by decide +kernel
theorem d_M_begin_56 : decode prog_15_method_2_code 56 = .ok (.aload_n 0, 1) := by decide +kernel
theorem d_M_begin_57 : decode prog_15_method_2_code 57 = .ok (.iconst 0, 1) := by decide +kernel
theorem d_M_begin_58 : decode prog_15_method_2_code 58 = .ok (.putfield 127, 3) := by decide +kernel
theorem d_M_begin_61 : decode prog_15_method_2_code 61 = .ok (.aload_n 0, 1) := by decide +kernel
theorem d_M_begin_62 : decode prog_15_method_2_code 62 = .ok (.invokevirtual 130, 3) := by decide +kernel
theorem d_M_begin_65 : decode prog_15_method_2_code 65 = .ok (.return_, 1) := by decide +kernel
set_option maxRecDepth 20000 in
theorem jc_M_begin_22 (N : Nat) : ∀ (n : Nat) (l0 : Option Nat) (l2 : Int32) (h : Hp), J p l e R s m args below meth c prog_15_method_2_code 3 "RingingChamberModel" 2 43 none "begin" D dA B n0 s0 (QM below args s D dA B n0 s0 vU) 22 [(0, vr l0), (2, vi l2)] [] h (M_begin_22 N n l0 l2 h) := by
  intro n
  induction n with
  | zero => intros; exact J.none
  | succ n ih =>
    intro l0 l2 h
    rw [M_begin_22]
    refine j_iload_n d_M_begin_22 1 rfl rfl ?_
    refine j_bipush (v := 13) d_M_begin_23 (by decide) ?_
    refine j_icmp_ge (tgt := 41) d_M_begin_25 (by decide) ?_ ?_
    · refine j_aload_n d_M_begin_41 0 rfl rfl ?_
      refine j_iconst (v := 0) d_M_begin_42 (by decide) ?_
      refine j_putZ d_M_begin_43 fl_12_118 (Or.inl rfl) (fun h1 => ?_)
      refine j_aload_n d_M_begin_46 0 rfl rfl ?_
      refine j_iconst (v := 0) d_M_begin_47 (by decide) ?_
      refine j_putZ d_M_begin_48 fl_12_121 (Or.inl rfl) (fun h2 => ?_)
      refine j_aload_n d_M_begin_51 0 rfl rfl ?_
      refine j_iconst (v := 0) d_M_begin_52 (by decide) ?_
      refine j_putI d_M_begin_53 fl_12_124 (Or.inl rfl) (fun h3 => ?_)
      refine j_aload_n d_M_begin_56 0 rfl rfl ?_
      refine j_iconst (v := 0) d_M_begin_57 (by decide) ?_
      refine j_putI d_M_begin_58 fl_12_127 (Or.inl rfl) (fun h4 => ?_)
      refine j_aload_n d_M_begin_61 0 rfl rfl ?_
      refine j_vU0 d_M_begin_62 (allQ.cons (VD.mk vt_12_130_12 (ct_M_anew N l D dA B l0 h4) (by decide) (by decide)) allQ.nil) (Nat.le_of_ble_eq_true rfl) (fun _ h5 => ?_)
      exact j_retU d_M_begin_65
    · refine j_aload_n d_M_begin_28 0 rfl rfl ?_
      refine j_getR d_M_begin_29 fl_12_63.r (fun x6 => ?_)
      refine j_iload_n d_M_begin_32 1 rfl rfl ?_
      refine j_iconst (v := 0) d_M_begin_33 (by decide) ?_
      refine j_zast d_M_begin_34 (fun h7 => ?_)
      refine j_iinc (lvv := fun x8 => [(2, vi x8), (0, vr l0)]) d_M_begin_35 1 rfl rfl (by decide) (fun _ => rfl) (fun x8 => ?_)
      refine j_goto (tgt := 22) d_M_begin_38 (by decide) ?_
      exact J.sub [1, 0] rfl (ih l0 x8 h7)
set_option maxRecDepth 20000 in
theorem jc_M_begin (N : Nat) (l0 : Option Nat) (l1 : Int32) (h : Hp) : J p l e R s m args below meth c prog_15_method_2_code 3 "RingingChamberModel" 2 43 none "begin" D dA B n0 s0 (QM below args s D dA B n0 s0 vU) 0 [(0, vr l0), (1, vi l1)] [] h (M_begin N l0 l1 h) := by
  unfold M_begin
  refine j_aload_n d_M_begin_0 0 rfl rfl ?_
  refine j_iload_n d_M_begin_1 1 rfl rfl ?_
  refine j_putI d_M_begin_2 fl_12_105 (Or.inl rfl) (fun h1 => ?_)
  refine j_aload_n d_M_begin_5 0 rfl rfl ?_
  refine j_iconst (v := 0) d_M_begin_6 (by decide) ?_
  refine j_putI d_M_begin_7 fl_12_109 (Or.inl rfl) (fun h2 => ?_)
  refine j_aload_n d_M_begin_10 0 rfl rfl ?_
  refine j_iconst (v := 0) d_M_begin_11 (by decide) ?_
  refine j_putI d_M_begin_12 fl_12_112 (Or.inl rfl) (fun h3 => ?_)
  refine j_aload_n d_M_begin_15 0 rfl rfl ?_
  refine j_iconst (v := -1) d_M_begin_16 (by decide) ?_
  refine j_putI d_M_begin_17 fl_12_115 (Or.inl rfl) (fun h4 => ?_)
  refine j_iconst (v := 0) d_M_begin_20 (by decide) ?_
  refine j_istore_n (lv' := [(2, vi 0), (0, vr l0), (1, vi l1)]) d_M_begin_21 rfl (by decide) rfl ?_
  exact J.sub [1, 0] rfl (jc_M_begin_22 N N l0 0 h4)
set_option maxRecDepth 20000 in
theorem ct_M_begin (N : Nat) (l : Launch) (D : va_G) (dA : Nat → ClassId) (B : Nat) (l0 : Option Nat) (l1 : Int32) (h : Hp) : Ct l (⟨"RingingChamberModel", "begin", "(I)V"⟩ : MethodName) prog_15_method_2_code 3 none 2 43 D dA B [vr l0, vi l1] h vU (M_begin N l0 l1 h) :=
  Ct.of2 (own := "RingingChamberModel") (nme := "begin") (lv := [(0, vr l0), (1, vi l1)]) rfl rfl (by decide) (Nat.le_of_ble_eq_true rfl) rfl (fun p e R s m args below meth c => jc_M_begin N l0 l1 h)
theorem d_M_init_0 : decode prog_15_method_1_code 0 = .ok (.aload_n 0, 1) := by decide +kernel
theorem d_M_init_1 : decode prog_15_method_1_code 1 = .ok (.invokespecial 1, 3) := by decide +kernel
theorem d_M_init_4 : decode prog_15_method_1_code 4 = .ok (.aload_n 0, 1) := by decide +kernel
theorem d_M_init_5 : decode prog_15_method_1_code 5 = .ok (.sipush 300, 3) := by decide +kernel
theorem d_M_init_8 : decode prog_15_method_1_code 8 = .ok (.newarray .int, 2) := by decide +kernel
theorem d_M_init_10 : decode prog_15_method_1_code 10 = .ok (.putfield 9, 3) := by decide +kernel
theorem d_M_init_13 : decode prog_15_method_1_code 13 = .ok (.aload_n 0, 1) := by decide +kernel
theorem d_M_init_14 : decode prog_15_method_1_code 14 = .ok (.bipush 18, 2) := by decide +kernel
theorem d_M_init_16 : decode prog_15_method_1_code 16 = .ok (.newarray .int, 2) := by decide +kernel
theorem d_M_init_18 : decode prog_15_method_1_code 18 = .ok (.putfield 13, 3) := by decide +kernel
theorem d_M_init_21 : decode prog_15_method_1_code 21 = .ok (.aload_n 0, 1) := by decide +kernel
theorem d_M_init_22 : decode prog_15_method_1_code 22 = .ok (.bipush 30, 2) := by decide +kernel
theorem d_M_init_24 : decode prog_15_method_1_code 24 = .ok (.newarray .int, 2) := by decide +kernel
theorem d_M_init_26 : decode prog_15_method_1_code 26 = .ok (.putfield 16, 3) := by decide +kernel
theorem d_M_init_29 : decode prog_15_method_1_code 29 = .ok (.aload_n 0, 1) := by decide +kernel
theorem d_M_init_30 : decode prog_15_method_1_code 30 = .ok (.bipush 30, 2) := by decide +kernel
theorem d_M_init_32 : decode prog_15_method_1_code 32 = .ok (.newarray .int, 2) := by decide +kernel
theorem d_M_init_34 : decode prog_15_method_1_code 34 = .ok (.putfield 19, 3) := by decide +kernel
theorem d_M_init_37 : decode prog_15_method_1_code 37 = .ok (.aload_n 0, 1) := by decide +kernel
theorem d_M_init_38 : decode prog_15_method_1_code 38 = .ok (.sipush 3000, 3) := by decide +kernel
theorem d_M_init_41 : decode prog_15_method_1_code 41 = .ok (.newarray .int, 2) := by decide +kernel
theorem d_M_init_43 : decode prog_15_method_1_code 43 = .ok (.putfield 22, 3) := by decide +kernel
theorem d_M_init_46 : decode prog_15_method_1_code 46 = .ok (.aload_n 0, 1) := by decide +kernel
theorem d_M_init_47 : decode prog_15_method_1_code 47 = .ok (.bipush 90, 2) := by decide +kernel
theorem d_M_init_49 : decode prog_15_method_1_code 49 = .ok (.newarray .int, 2) := by decide +kernel
theorem d_M_init_51 : decode prog_15_method_1_code 51 = .ok (.putfield 25, 3) := by decide +kernel
theorem d_M_init_54 : decode prog_15_method_1_code 54 = .ok (.aload_n 0, 1) := by decide +kernel
theorem d_M_init_55 : decode prog_15_method_1_code 55 = .ok (.bipush 90, 2) := by decide +kernel
theorem d_M_init_57 : decode prog_15_method_1_code 57 = .ok (.newarray .int, 2) := by decide +kernel
theorem d_M_init_59 : decode prog_15_method_1_code 59 = .ok (.putfield 28, 3) := by decide +kernel
theorem d_M_init_62 : decode prog_15_method_1_code 62 = .ok (.aload_n 0, 1) := by decide +kernel
theorem d_M_init_63 : decode prog_15_method_1_code 63 = .ok (.bipush 30, 2) := by decide +kernel
theorem d_M_init_65 : decode prog_15_method_1_code 65 = .ok (.newarray .int, 2) := by decide +kernel
theorem d_M_init_67 : decode prog_15_method_1_code 67 = .ok (.putfield 31, 3) := by decide +kernel
theorem d_M_init_70 : decode prog_15_method_1_code 70 = .ok (.aload_n 0, 1) := by decide +kernel
theorem d_M_init_71 : decode prog_15_method_1_code 71 = .ok (.sipush 180, 3) := by decide +kernel
theorem d_M_init_74 : decode prog_15_method_1_code 74 = .ok (.newarray .int, 2) := by decide +kernel
theorem d_M_init_76 : decode prog_15_method_1_code 76 = .ok (.putfield 34, 3) := by decide +kernel
theorem d_M_init_79 : decode prog_15_method_1_code 79 = .ok (.aload_n 0, 1) := by decide +kernel
theorem d_M_init_80 : decode prog_15_method_1_code 80 = .ok (.bipush 100, 2) := by decide +kernel
theorem d_M_init_82 : decode prog_15_method_1_code 82 = .ok (.newarray .int, 2) := by decide +kernel
theorem d_M_init_84 : decode prog_15_method_1_code 84 = .ok (.putfield 37, 3) := by decide +kernel
theorem d_M_init_87 : decode prog_15_method_1_code 87 = .ok (.aload_n 0, 1) := by decide +kernel
theorem d_M_init_88 : decode prog_15_method_1_code 88 = .ok (.iconst 1, 1) := by decide +kernel
theorem d_M_init_89 : decode prog_15_method_1_code 89 = .ok (.putfield 40, 3) := by decide +kernel
theorem d_M_init_92 : decode prog_15_method_1_code 92 = .ok (.aload_n 0, 1) := by decide +kernel
theorem d_M_init_93 : decode prog_15_method_1_code 93 = .ok (.bipush 100, 2) := by decide +kernel
theorem d_M_init_95 : decode prog_15_method_1_code 95 = .ok (.newarray .int, 2) := by decide +kernel
theorem d_M_init_97 : decode prog_15_method_1_code 97 = .ok (.putfield 44, 3) := by decide +kernel
theorem d_M_init_100 : decode prog_15_method_1_code 100 = .ok (.aload_n 0, 1) := by decide +kernel
theorem d_M_init_101 : decode prog_15_method_1_code 101 = .ok (.bipush 100, 2) := by decide +kernel
theorem d_M_init_103 : decode prog_15_method_1_code 103 = .ok (.newarray .int, 2) := by decide +kernel
theorem d_M_init_105 : decode prog_15_method_1_code 105 = .ok (.putfield 47, 3) := by decide +kernel
theorem d_M_init_108 : decode prog_15_method_1_code 108 = .ok (.aload_n 0, 1) := by decide +kernel
theorem d_M_init_109 : decode prog_15_method_1_code 109 = .ok (.sipush 2001, 3) := by decide +kernel
theorem d_M_init_112 : decode prog_15_method_1_code 112 = .ok (.newarray .long, 2) := by decide +kernel
theorem d_M_init_114 : decode prog_15_method_1_code 114 = .ok (.putfield 50, 3) := by decide +kernel
theorem d_M_init_117 : decode prog_15_method_1_code 117 = .ok (.aload_n 0, 1) := by decide +kernel
theorem d_M_init_118 : decode prog_15_method_1_code 118 = .ok (.bipush 100, 2) := by decide +kernel
theorem d_M_init_120 : decode prog_15_method_1_code 120 = .ok (.newarray .int, 2) := by decide +kernel
theorem d_M_init_122 : decode prog_15_method_1_code 122 = .ok (.putfield 54, 3) := by decide +kernel
theorem d_M_init_125 : decode prog_15_method_1_code 125 = .ok (.aload_n 0, 1) := by decide +kernel
theorem d_M_init_126 : decode prog_15_method_1_code 126 = .ok (.sipush 2001, 3) := by decide +kernel
theorem d_M_init_129 : decode prog_15_method_1_code 129 = .ok (.newarray .int, 2) := by decide +kernel
theorem d_M_init_131 : decode prog_15_method_1_code 131 = .ok (.putfield 57, 3) := by decide +kernel
theorem d_M_init_134 : decode prog_15_method_1_code 134 = .ok (.aload_n 0, 1) := by decide +kernel
theorem d_M_init_135 : decode prog_15_method_1_code 135 = .ok (.sipush 2001, 3) := by decide +kernel
theorem d_M_init_138 : decode prog_15_method_1_code 138 = .ok (.newarray .int, 2) := by decide +kernel
theorem d_M_init_140 : decode prog_15_method_1_code 140 = .ok (.putfield 60, 3) := by decide +kernel
theorem d_M_init_143 : decode prog_15_method_1_code 143 = .ok (.aload_n 0, 1) := by decide +kernel
theorem d_M_init_144 : decode prog_15_method_1_code 144 = .ok (.bipush 13, 2) := by decide +kernel
theorem d_M_init_146 : decode prog_15_method_1_code 146 = .ok (.newarray .boolean, 2) := by decide +kernel
theorem d_M_init_148 : decode prog_15_method_1_code 148 = .ok (.putfield 63, 3) := by decide +kernel
theorem d_M_init_151 : decode prog_15_method_1_code 151 = .ok (.aload_n 0, 1) := by decide +kernel
theorem d_M_init_152 : decode prog_15_method_1_code 152 = .ok (.bipush 30, 2) := by decide +kernel
theorem d_M_init_154 : decode prog_15_method_1_code 154 = .ok (.newarray .int, 2) := by decide +kernel
theorem d_M_init_156 : decode prog_15_method_1_code 156 = .ok (.putfield 67, 3) := by decide +kernel
theorem d_M_init_159 : decode prog_15_method_1_code 159 = .ok (.aload_n 0, 1) := by decide +kernel
theorem d_M_init_160 : decode prog_15_method_1_code 160 = .ok (.bipush 90, 2) := by decide +kernel
theorem d_M_init_162 : decode prog_15_method_1_code 162 = .ok (.newarray .int, 2) := by decide +kernel
theorem d_M_init_164 : decode prog_15_method_1_code 164 = .ok (.putfield 70, 3) := by decide +kernel
theorem d_M_init_167 : decode prog_15_method_1_code 167 = .ok (.aload_n 0, 1) := by decide +kernel
theorem d_M_init_168 : decode prog_15_method_1_code 168 = .ok (.sipush 1080, 3) := by decide +kernel
theorem d_M_init_171 : decode prog_15_method_1_code 171 = .ok (.newarray .byte, 2) := by decide +kernel
theorem d_M_init_173 : decode prog_15_method_1_code 173 = .ok (.putfield 73, 3) := by decide +kernel
theorem d_M_init_176 : decode prog_15_method_1_code 176 = .ok (.aload_n 0, 1) := by decide +kernel
theorem d_M_init_177 : decode prog_15_method_1_code 177 = .ok (.bipush 12, 2) := by decide +kernel
theorem d_M_init_179 : decode prog_15_method_1_code 179 = .ok (.newarray .int, 2) := by decide +kernel
theorem d_M_init_181 : decode prog_15_method_1_code 181 = .ok (.putfield 77, 3) := by decide +kernel
theorem d_M_init_184 : decode prog_15_method_1_code 184 = .ok (.aload_n 0, 1) := by decide +kernel
theorem d_M_init_185 : decode prog_15_method_1_code 185 = .ok (.bipush 12, 2) := by decide +kernel
theorem d_M_init_187 : decode prog_15_method_1_code 187 = .ok (.newarray .int, 2) := by decide +kernel
theorem d_M_init_189 : decode prog_15_method_1_code 189 = .ok (.putfield 80, 3) := by decide +kernel
theorem d_M_init_192 : decode prog_15_method_1_code 192 = .ok (.aload_n 0, 1) := by decide +kernel
theorem d_M_init_193 : decode prog_15_method_1_code 193 = .ok (.sipush 1201, 3) := by decide +kernel
theorem d_M_init_196 : decode prog_15_method_1_code 196 = .ok (.newarray .long, 2) := by decide +kernel
theorem d_M_init_198 : decode prog_15_method_1_code 198 = .ok (.putfield 83, 3) := by decide +kernel
theorem d_M_init_201 : decode prog_15_method_1_code 201 = .ok (.aload_n 0, 1) := by decide +kernel
theorem d_M_init_202 : decode prog_15_method_1_code 202 = .ok (.bipush 100, 2) := by decide +kernel
theorem d_M_init_204 : decode prog_15_method_1_code 204 = .ok (.newarray .int, 2) := by decide +kernel
theorem d_M_init_206 : decode prog_15_method_1_code 206 = .ok (.putfield 86, 3) := by decide +kernel
theorem d_M_init_209 : decode prog_15_method_1_code 209 = .ok (.aload_n 0, 1) := by decide +kernel
theorem d_M_init_210 : decode prog_15_method_1_code 210 = .ok (.bipush 12, 2) := by decide +kernel
theorem d_M_init_212 : decode prog_15_method_1_code 212 = .ok (.newarray .int, 2) := by decide +kernel
theorem d_M_init_214 : decode prog_15_method_1_code 214 = .ok (.putfield 89, 3) := by decide +kernel
theorem d_M_init_217 : decode prog_15_method_1_code 217 = .ok (.aload_n 0, 1) := by decide +kernel
theorem d_M_init_218 : decode prog_15_method_1_code 218 = .ok (.sipush 600, 3) := by decide +kernel
theorem d_M_init_221 : decode prog_15_method_1_code 221 = .ok (.newarray .int, 2) := by decide +kernel
theorem d_M_init_223 : decode prog_15_method_1_code 223 = .ok (.putfield 92, 3) := by decide +kernel
theorem d_M_init_226 : decode prog_15_method_1_code 226 = .ok (.aload_n 0, 1) := by decide +kernel
theorem d_M_init_227 : decode prog_15_method_1_code 227 = .ok (.bipush 13, 2) := by decide +kernel
theorem d_M_init_229 : decode prog_15_method_1_code 229 = .ok (.newarray .int, 2) := by decide +kernel
theorem d_M_init_231 : decode prog_15_method_1_code 231 = .ok (.putfield 95, 3) := by decide +kernel
theorem d_M_init_234 : decode prog_15_method_1_code 234 = .ok (.aload_n 0, 1) := by decide +kernel
theorem d_M_init_235 : decode prog_15_method_1_code 235 = .ok (.bipush 100, 2) := by decide +kernel
theorem d_M_init_237 : decode prog_15_method_1_code 237 = .ok (.newarray .long, 2) := by decide +kernel
theorem d_M_init_239 : decode prog_15_method_1_code 239 = .ok (.putfield 98, 3) := by decide +kernel
theorem d_M_init_242 : decode prog_15_method_1_code 242 = .ok (.aload_n 0, 1) := by decide +kernel
theorem d_M_init_243 : decode prog_15_method_1_code 243 = .ok (.bipush 6, 2) := by decide +kernel
theorem d_M_init_245 : decode prog_15_method_1_code 245 = .ok (.invokevirtual 101, 3) := by decide +kernel
theorem d_M_init_248 : decode prog_15_method_1_code 248 = .ok (.return_, 1) := by decide +kernel
set_option maxRecDepth 20000 in
theorem jc_M_init (N : Nat) (l0 : Option Nat) (h : Hp) : J p l e R s m args below meth c prog_15_method_1_code 1 "RingingChamberModel" 3 65 none "<init>" D dA B n0 s0 (QM below args s D dA B n0 s0 vU) 0 [(0, vr l0)] [] h (M_init N l0 h) := by
  unfold M_init
  refine j_aload_n d_M_init_0 0 rfl rfl ?_
  refine j_obj d_M_init_1 ko_12_1 ko_i ko_c (by decide) (by decide) (Nat.le_of_ble_eq_true rfl) ?_
  refine j_aload_n d_M_init_4 0 rfl rfl ?_
  refine j_sipush (v := 300) d_M_init_5 (by decide) ?_
  refine j_newa13 d_M_init_8 ka_int (fun x1 h2 => ?_)
  refine j_putR d_M_init_10 fl_12_9 (Or.inr rfl) (Or.inr ⟨_, rfl⟩) (fun h3 => ?_)
  refine j_aload_n d_M_init_13 0 rfl rfl ?_
  refine j_bipush (v := 18) d_M_init_14 (by decide) ?_
  refine j_newa13 d_M_init_16 ka_int (fun x4 h5 => ?_)
  refine j_putR d_M_init_18 fl_12_13 (Or.inr rfl) (Or.inr ⟨_, rfl⟩) (fun h6 => ?_)
  refine j_aload_n d_M_init_21 0 rfl rfl ?_
  refine j_bipush (v := 30) d_M_init_22 (by decide) ?_
  refine j_newa13 d_M_init_24 ka_int (fun x7 h8 => ?_)
  refine j_putR d_M_init_26 fl_12_16 (Or.inr rfl) (Or.inr ⟨_, rfl⟩) (fun h9 => ?_)
  refine j_aload_n d_M_init_29 0 rfl rfl ?_
  refine j_bipush (v := 30) d_M_init_30 (by decide) ?_
  refine j_newa13 d_M_init_32 ka_int (fun x10 h11 => ?_)
  refine j_putR d_M_init_34 fl_12_19 (Or.inr rfl) (Or.inr ⟨_, rfl⟩) (fun h12 => ?_)
  refine j_aload_n d_M_init_37 0 rfl rfl ?_
  refine j_sipush (v := 3000) d_M_init_38 (by decide) ?_
  refine j_newa13 d_M_init_41 ka_int (fun x13 h14 => ?_)
  refine j_putR d_M_init_43 fl_12_22 (Or.inr rfl) (Or.inr ⟨_, rfl⟩) (fun h15 => ?_)
  refine j_aload_n d_M_init_46 0 rfl rfl ?_
  refine j_bipush (v := 90) d_M_init_47 (by decide) ?_
  refine j_newa13 d_M_init_49 ka_int (fun x16 h17 => ?_)
  refine j_putR d_M_init_51 fl_12_25 (Or.inr rfl) (Or.inr ⟨_, rfl⟩) (fun h18 => ?_)
  refine j_aload_n d_M_init_54 0 rfl rfl ?_
  refine j_bipush (v := 90) d_M_init_55 (by decide) ?_
  refine j_newa13 d_M_init_57 ka_int (fun x19 h20 => ?_)
  refine j_putR d_M_init_59 fl_12_28 (Or.inr rfl) (Or.inr ⟨_, rfl⟩) (fun h21 => ?_)
  refine j_aload_n d_M_init_62 0 rfl rfl ?_
  refine j_bipush (v := 30) d_M_init_63 (by decide) ?_
  refine j_newa13 d_M_init_65 ka_int (fun x22 h23 => ?_)
  refine j_putR d_M_init_67 fl_12_31 (Or.inr rfl) (Or.inr ⟨_, rfl⟩) (fun h24 => ?_)
  refine j_aload_n d_M_init_70 0 rfl rfl ?_
  refine j_sipush (v := 180) d_M_init_71 (by decide) ?_
  refine j_newa13 d_M_init_74 ka_int (fun x25 h26 => ?_)
  refine j_putR d_M_init_76 fl_12_34 (Or.inr rfl) (Or.inr ⟨_, rfl⟩) (fun h27 => ?_)
  refine j_aload_n d_M_init_79 0 rfl rfl ?_
  refine j_bipush (v := 100) d_M_init_80 (by decide) ?_
  refine j_newa13 d_M_init_82 ka_int (fun x28 h29 => ?_)
  refine j_putR d_M_init_84 fl_12_37 (Or.inr rfl) (Or.inr ⟨_, rfl⟩) (fun h30 => ?_)
  refine j_aload_n d_M_init_87 0 rfl rfl ?_
  refine j_iconst (v := 1) d_M_init_88 (by decide) ?_
  refine j_putZ d_M_init_89 fl_12_40 (Or.inl rfl) (fun h31 => ?_)
  refine j_aload_n d_M_init_92 0 rfl rfl ?_
  refine j_bipush (v := 100) d_M_init_93 (by decide) ?_
  refine j_newa13 d_M_init_95 ka_int (fun x32 h33 => ?_)
  refine j_putR d_M_init_97 fl_12_44 (Or.inr rfl) (Or.inr ⟨_, rfl⟩) (fun h34 => ?_)
  refine j_aload_n d_M_init_100 0 rfl rfl ?_
  refine j_bipush (v := 100) d_M_init_101 (by decide) ?_
  refine j_newa13 d_M_init_103 ka_int (fun x35 h36 => ?_)
  refine j_putR d_M_init_105 fl_12_47 (Or.inr rfl) (Or.inr ⟨_, rfl⟩) (fun h37 => ?_)
  refine j_aload_n d_M_init_108 0 rfl rfl ?_
  refine j_sipush (v := 2001) d_M_init_109 (by decide) ?_
  refine j_newa14 d_M_init_112 ka_long (fun x38 h39 => ?_)
  refine j_putR d_M_init_114 fl_12_50 (Or.inr rfl) (Or.inr ⟨_, rfl⟩) (fun h40 => ?_)
  refine j_aload_n d_M_init_117 0 rfl rfl ?_
  refine j_bipush (v := 100) d_M_init_118 (by decide) ?_
  refine j_newa13 d_M_init_120 ka_int (fun x41 h42 => ?_)
  refine j_putR d_M_init_122 fl_12_54 (Or.inr rfl) (Or.inr ⟨_, rfl⟩) (fun h43 => ?_)
  refine j_aload_n d_M_init_125 0 rfl rfl ?_
  refine j_sipush (v := 2001) d_M_init_126 (by decide) ?_
  refine j_newa13 d_M_init_129 ka_int (fun x44 h45 => ?_)
  refine j_putR d_M_init_131 fl_12_57 (Or.inr rfl) (Or.inr ⟨_, rfl⟩) (fun h46 => ?_)
  refine j_aload_n d_M_init_134 0 rfl rfl ?_
  refine j_sipush (v := 2001) d_M_init_135 (by decide) ?_
  refine j_newa13 d_M_init_138 ka_int (fun x47 h48 => ?_)
  refine j_putR d_M_init_140 fl_12_60 (Or.inr rfl) (Or.inr ⟨_, rfl⟩) (fun h49 => ?_)
  refine j_aload_n d_M_init_143 0 rfl rfl ?_
  refine j_bipush (v := 13) d_M_init_144 (by decide) ?_
  refine j_newa16 d_M_init_146 ka_boolean (fun x50 h51 => ?_)
  refine j_putR d_M_init_148 fl_12_63 (Or.inr rfl) (Or.inr ⟨_, rfl⟩) (fun h52 => ?_)
  refine j_aload_n d_M_init_151 0 rfl rfl ?_
  refine j_bipush (v := 30) d_M_init_152 (by decide) ?_
  refine j_newa13 d_M_init_154 ka_int (fun x53 h54 => ?_)
  refine j_putR d_M_init_156 fl_12_67 (Or.inr rfl) (Or.inr ⟨_, rfl⟩) (fun h55 => ?_)
  refine j_aload_n d_M_init_159 0 rfl rfl ?_
  refine j_bipush (v := 90) d_M_init_160 (by decide) ?_
  refine j_newa13 d_M_init_162 ka_int (fun x56 h57 => ?_)
  refine j_putR d_M_init_164 fl_12_70 (Or.inr rfl) (Or.inr ⟨_, rfl⟩) (fun h58 => ?_)
  refine j_aload_n d_M_init_167 0 rfl rfl ?_
  refine j_sipush (v := 1080) d_M_init_168 (by decide) ?_
  refine j_newa15 d_M_init_171 ka_byte (fun x59 h60 => ?_)
  refine j_putR d_M_init_173 fl_12_73 (Or.inr rfl) (Or.inr ⟨_, rfl⟩) (fun h61 => ?_)
  refine j_aload_n d_M_init_176 0 rfl rfl ?_
  refine j_bipush (v := 12) d_M_init_177 (by decide) ?_
  refine j_newa13 d_M_init_179 ka_int (fun x62 h63 => ?_)
  refine j_putR d_M_init_181 fl_12_77 (Or.inr rfl) (Or.inr ⟨_, rfl⟩) (fun h64 => ?_)
  refine j_aload_n d_M_init_184 0 rfl rfl ?_
  refine j_bipush (v := 12) d_M_init_185 (by decide) ?_
  refine j_newa13 d_M_init_187 ka_int (fun x65 h66 => ?_)
  refine j_putR d_M_init_189 fl_12_80 (Or.inr rfl) (Or.inr ⟨_, rfl⟩) (fun h67 => ?_)
  refine j_aload_n d_M_init_192 0 rfl rfl ?_
  refine j_sipush (v := 1201) d_M_init_193 (by decide) ?_
  refine j_newa14 d_M_init_196 ka_long (fun x68 h69 => ?_)
  refine j_putR d_M_init_198 fl_12_83 (Or.inr rfl) (Or.inr ⟨_, rfl⟩) (fun h70 => ?_)
  refine j_aload_n d_M_init_201 0 rfl rfl ?_
  refine j_bipush (v := 100) d_M_init_202 (by decide) ?_
  refine j_newa13 d_M_init_204 ka_int (fun x71 h72 => ?_)
  refine j_putR d_M_init_206 fl_12_86 (Or.inr rfl) (Or.inr ⟨_, rfl⟩) (fun h73 => ?_)
  refine j_aload_n d_M_init_209 0 rfl rfl ?_
  refine j_bipush (v := 12) d_M_init_210 (by decide) ?_
  refine j_newa13 d_M_init_212 ka_int (fun x74 h75 => ?_)
  refine j_putR d_M_init_214 fl_12_89 (Or.inr rfl) (Or.inr ⟨_, rfl⟩) (fun h76 => ?_)
  refine j_aload_n d_M_init_217 0 rfl rfl ?_
  refine j_sipush (v := 600) d_M_init_218 (by decide) ?_
  refine j_newa13 d_M_init_221 ka_int (fun x77 h78 => ?_)
  refine j_putR d_M_init_223 fl_12_92 (Or.inr rfl) (Or.inr ⟨_, rfl⟩) (fun h79 => ?_)
  refine j_aload_n d_M_init_226 0 rfl rfl ?_
  refine j_bipush (v := 13) d_M_init_227 (by decide) ?_
  refine j_newa13 d_M_init_229 ka_int (fun x80 h81 => ?_)
  refine j_putR d_M_init_231 fl_12_95 (Or.inr rfl) (Or.inr ⟨_, rfl⟩) (fun h82 => ?_)
  refine j_aload_n d_M_init_234 0 rfl rfl ?_
  refine j_bipush (v := 100) d_M_init_235 (by decide) ?_
  refine j_newa14 d_M_init_237 ka_long (fun x83 h84 => ?_)
  refine j_putR d_M_init_239 fl_12_98 (Or.inr rfl) (Or.inr ⟨_, rfl⟩) (fun h85 => ?_)
  refine j_aload_n d_M_init_242 0 rfl rfl ?_
  refine j_bipush (v := 6) d_M_init_243 (by decide) ?_
  refine j_vU1 d_M_init_245 (allQ.cons (VD.mk vt_12_101_12 (ct_M_begin N l D dA B l0 6 h85) (by decide) (by decide)) allQ.nil) (Nat.le_of_ble_eq_true rfl) (fun _ h86 => ?_)
  exact j_retU d_M_init_248
set_option maxRecDepth 20000 in
theorem ct_M_init (N : Nat) (l : Launch) (D : va_G) (dA : Nat → ClassId) (B : Nat) (l0 : Option Nat) (h : Hp) : Ct l (⟨"RingingChamberModel", "<init>", "()V"⟩ : MethodName) prog_15_method_1_code 1 none 3 65 D dA B [vr l0] h vU (M_init N l0 h) :=
  Ct.of2 (own := "RingingChamberModel") (nme := "<init>") (lv := [(0, vr l0)]) rfl rfl (by decide) (Nat.le_of_ble_eq_true rfl) rfl (fun p e R s m args below meth c => jc_M_init N l0 h)
theorem d_M_bell_0 : decode prog_15_method_5_code 0 = .ok (.lload_n 0, 1) := by decide +kernel
theorem d_M_bell_1 : decode prog_15_method_5_code 1 = .ok (.iconst 4, 1) := by decide +kernel
theorem d_M_bell_2 : decode prog_15_method_5_code 2 = .ok (.iload_n 2, 1) := by decide +kernel
theorem d_M_bell_3 : decode prog_15_method_5_code 3 = .ok (.iconst 1, 1) := by decide +kernel
theorem d_M_bell_4 : decode prog_15_method_5_code 4 = .ok (.isub, 1) := by decide +kernel
theorem d_M_bell_5 : decode prog_15_method_5_code 5 = .ok (.imul, 1) := by decide +kernel
theorem d_M_bell_6 : decode prog_15_method_5_code 6 = .ok (.lshr, 1) := by decide +kernel
theorem d_M_bell_7 : decode prog_15_method_5_code 7 = .ok (.l2i, 1) := by decide +kernel
theorem d_M_bell_8 : decode prog_15_method_5_code 8 = .ok (.bipush 15, 2) := by decide +kernel
theorem d_M_bell_10 : decode prog_15_method_5_code 10 = .ok (.iand, 1) := by decide +kernel
theorem d_M_bell_11 : decode prog_15_method_5_code 11 = .ok (.ireturn, 1) := by decide +kernel
set_option maxRecDepth 20000 in
theorem jc_M_bell (N : Nat) (l0 : Int64) (l2 : Int32) (h : Hp) : J p l e R s m args below meth c prog_15_method_5_code 3 "RingingChamberModel" 0 0 (some .int) "bell" D dA B n0 s0 (QM below args s D dA B n0 s0 vI) 0 [(0, vl l0), (2, vi l2)] [] h (M_bell N l0 l2 h) := by
  unfold M_bell
  refine j_lload_n d_M_bell_0 0 rfl rfl ?_
  refine j_iconst (v := 4) d_M_bell_1 (by decide) ?_
  refine j_iload_n d_M_bell_2 1 rfl rfl ?_
  refine j_iconst (v := 1) d_M_bell_3 (by decide) ?_
  refine j_isub d_M_bell_4 ?_
  refine j_imul d_M_bell_5 ?_
  refine j_lshr d_M_bell_6 ?_
  refine j_l2i d_M_bell_7 ?_
  refine j_bipush (v := 15) d_M_bell_8 (by decide) ?_
  refine j_iand d_M_bell_10 ?_
  exact j_retI d_M_bell_11
set_option maxRecDepth 20000 in
theorem ct_M_bell (N : Nat) (l : Launch) (D : va_G) (dA : Nat → ClassId) (B : Nat) (l0 : Int64) (l2 : Int32) (h : Hp) : Ct l (⟨"RingingChamberModel", "bell", "(JI)I"⟩ : MethodName) prog_15_method_5_code 3 (some .int) 0 0 D dA B [vl l0, vi l2] h vI (M_bell N l0 l2 h) :=
  Ct.of2 (own := "RingingChamberModel") (nme := "bell") (lv := [(0, vl l0), (2, vi l2)]) rfl rfl (by decide) (Nat.le_of_ble_eq_true rfl) rfl (fun p e R s m args below meth c => jc_M_bell N l0 l2 h)
theorem d_M_isRow_0 : decode prog_15_method_6_code 0 = .ok (.lload_n 1, 1) := by decide +kernel
theorem d_M_isRow_1 : decode prog_15_method_6_code 1 = .ok (.lconst 0, 1) := by decide +kernel
theorem d_M_isRow_2 : decode prog_15_method_6_code 2 = .ok (.lcmp, 1) := by decide +kernel
theorem d_M_isRow_3 : decode prog_15_method_6_code 3 = .ok (.ifCond .lt 16, 3) := by decide +kernel
theorem d_M_isRow_6 : decode prog_15_method_6_code 6 = .ok (.lload_n 1, 1) := by decide +kernel
theorem d_M_isRow_7 : decode prog_15_method_6_code 7 = .ok (.iconst 4, 1) := by decide +kernel
theorem d_M_isRow_8 : decode prog_15_method_6_code 8 = .ok (.aload_n 0, 1) := by decide +kernel
theorem d_M_isRow_9 : decode prog_15_method_6_code 9 = .ok (.getfield 105, 3) := by decide +kernel
theorem d_M_isRow_12 : decode prog_15_method_6_code 12 = .ok (.imul, 1) := by decide +kernel
theorem d_M_isRow_13 : decode prog_15_method_6_code 13 = .ok (.lshr, 1) := by decide +kernel
theorem d_M_isRow_14 : decode prog_15_method_6_code 14 = .ok (.lconst 0, 1) := by decide +kernel
theorem d_M_isRow_15 : decode prog_15_method_6_code 15 = .ok (.lcmp, 1) := by decide +kernel
theorem d_M_isRow_16 : decode prog_15_method_6_code 16 = .ok (.ifCond .eq 5, 3) := by decide +kernel
theorem d_M_isRow_19 : decode prog_15_method_6_code 19 = .ok (.iconst 0, 1) := by decide +kernel
theorem d_M_isRow_20 : decode prog_15_method_6_code 20 = .ok (.ireturn, 1) := by decide +kernel
theorem d_M_isRow_21 : decode prog_15_method_6_code 21 = .ok (.iconst 0, 1) := by decide +kernel
theorem d_M_isRow_22 : decode prog_15_method_6_code 22 = .ok (.istore_n 3, 1) := by decide +kernel
theorem d_M_isRow_23 : decode prog_15_method_6_code 23 = .ok (.iconst 1, 1) := by decide +kernel
theorem d_M_isRow_24 : decode prog_15_method_6_code 24 = .ok (.istore 4, 2) := by decide +kernel
theorem d_M_isRow_26 : decode prog_15_method_6_code 26 = .ok (.iload 4, 2) := by decide +kernel
theorem d_M_isRow_28 : decode prog_15_method_6_code 28 = .ok (.aload_n 0, 1) := by decide +kernel
theorem d_M_isRow_29 : decode prog_15_method_6_code 29 = .ok (.getfield 105, 3) := by decide +kernel
theorem d_M_isRow_32 : decode prog_15_method_6_code 32 = .ok (.if_icmp .gt 51, 3) := by decide +kernel
theorem d_M_isRow_35 : decode prog_15_method_6_code 35 = .ok (.lload_n 1, 1) := by decide +kernel
theorem d_M_isRow_36 : decode prog_15_method_6_code 36 = .ok (.iload 4, 2) := by decide +kernel
theorem d_M_isRow_38 : decode prog_15_method_6_code 38 = .ok (.invokestatic 157, 3) := by decide +kernel
theorem d_M_isRow_41 : decode prog_15_method_6_code 41 = .ok (.istore 5, 2) := by decide +kernel
theorem d_M_isRow_43 : decode prog_15_method_6_code 43 = .ok (.iload 5, 2) := by decide +kernel
theorem d_M_isRow_45 : decode prog_15_method_6_code 45 = .ok (.iconst 1, 1) := by decide +kernel
theorem d_M_isRow_46 : decode prog_15_method_6_code 46 = .ok (.if_icmp .lt 22, 3) := by decide +kernel
theorem d_M_isRow_49 : decode prog_15_method_6_code 49 = .ok (.iload 5, 2) := by decide +kernel
theorem d_M_isRow_51 : decode prog_15_method_6_code 51 = .ok (.aload_n 0, 1) := by decide +kernel
theorem d_M_isRow_52 : decode prog_15_method_6_code 52 = .ok (.getfield 105, 3) := by decide +kernel
theorem d_M_isRow_55 : decode prog_15_method_6_code 55 = .ok (.if_icmp .gt 13, 3) := by decide +kernel
theorem d_M_isRow_58 : decode prog_15_method_6_code 58 = .ok (.iload_n 3, 1) := by decide +kernel
theorem d_M_isRow_59 : decode prog_15_method_6_code 59 = .ok (.iload 5, 2) := by decide +kernel
theorem d_M_isRow_61 : decode prog_15_method_6_code 61 = .ok (.ishr, 1) := by decide +kernel
theorem d_M_isRow_62 : decode prog_15_method_6_code 62 = .ok (.iconst 1, 1) := by decide +kernel
theorem d_M_isRow_63 : decode prog_15_method_6_code 63 = .ok (.iand, 1) := by decide +kernel
theorem d_M_isRow_64 : decode prog_15_method_6_code 64 = .ok (.iconst 1, 1) := by decide +kernel
theorem d_M_isRow_65 : decode prog_15_method_6_code 65 = .ok (.if_icmp .ne 5, 3) := by decide +kernel
theorem d_M_isRow_68 : decode prog_15_method_6_code 68 = .ok (.iconst 0, 1) := by decide +kernel
theorem d_M_isRow_69 : decode prog_15_method_6_code 69 = .ok (.ireturn, 1) := by decide +kernel
theorem d_M_isRow_70 : decode prog_15_method_6_code 70 = .ok (.iload_n 3, 1) := by decide +kernel
theorem d_M_isRow_71 : decode prog_15_method_6_code 71 = .ok (.iconst 1, 1) := by decide +kernel
theorem d_M_isRow_72 : decode prog_15_method_6_code 72 = .ok (.iload 5, 2) := by decide +kernel
theorem d_M_isRow_74 : decode prog_15_method_6_code 74 = .ok (.ishl, 1) := by decide +kernel
theorem d_M_isRow_75 : decode prog_15_method_6_code 75 = .ok (.ior, 1) := by decide +kernel
theorem d_M_isRow_76 : decode prog_15_method_6_code 76 = .ok (.istore_n 3, 1) := by decide +kernel
theorem d_M_isRow_77 : decode prog_15_method_6_code 77 = .ok (.iinc 4 1, 3) := by decide +kernel
theorem d_M_isRow_80 : decode prog_15_method_6_code 80 = .ok (.goto (-54), 3) := by decide +kernel
theorem d_M_isRow_83 : decode prog_15_method_6_code 83 = .ok (.iconst 1, 1) := by decide +kernel
theorem d_M_isRow_84 : decode prog_15_method_6_code 84 = .ok (.ireturn, 1) := by decide +kernel
set_option maxRecDepth 20000 in
theorem jc_M_isRow_26 (N : Nat) : ∀ (n : Nat) (l0 : Option Nat) (l1 : Int64) (l3 : Int32) (l4 : Int32) (h : Hp), J p l e R s m args below meth c prog_15_method_6_code 6 "RingingChamberModel" 1 22 (some .boolean) "isRow" D dA B n0 s0 (QM below args s D dA B n0 s0 vI) 26 [(0, vr l0), (1, vl l1), (3, vi l3), (4, vi l4)] [] h (M_isRow_26 N n l0 l1 l3 l4 h) := by
  intro n
  induction n with
  | zero => intros; exact J.none
  | succ n ih =>
    intro l0 l1 l3 l4 h
    rw [M_isRow_26]
    refine j_iload d_M_isRow_26 3 rfl ?_
    refine j_aload_n d_M_isRow_28 0 rfl rfl ?_
    refine j_getI d_M_isRow_29 fl_12_105.r (fun x1 => ?_)
    refine j_icmp_gt (tgt := 83) d_M_isRow_32 (by decide) ?_ ?_
    · refine j_iconst (v := 1) d_M_isRow_83 (by decide) ?_
      exact j_retZ d_M_isRow_84
    · refine j_lload_n d_M_isRow_35 1 rfl rfl ?_
      refine j_iload d_M_isRow_36 3 rfl ?_
      refine j_cSI2 d_M_isRow_38 sl_12_157 ks_M_bell (ct_M_bell N l D dA B l1 l4 h) (by decide) (by decide) (Nat.le_of_ble_eq_true rfl) (fun x3 h2 => ?_)
      refine j_istore (lv' := [(5, vi x3), (0, vr l0), (1, vl l1), (3, vi l3), (4, vi l4)]) d_M_isRow_41 (by decide) rfl ?_
      refine j_iload d_M_isRow_43 0 rfl ?_
      refine j_iconst (v := 1) d_M_isRow_45 (by decide) ?_
      refine j_icmp_lt (tgt := 68) d_M_isRow_46 (by decide) ?_ ?_
      · refine j_iconst (v := 0) d_M_isRow_68 (by decide) ?_
        exact j_retZ d_M_isRow_69
      · refine j_iload d_M_isRow_49 0 rfl ?_
        refine j_aload_n d_M_isRow_51 1 rfl rfl ?_
        refine j_getI d_M_isRow_52 fl_12_105.r (fun x4 => ?_)
        refine j_icmp_gt (tgt := 68) d_M_isRow_55 (by decide) ?_ ?_
        · refine j_iconst (v := 0) d_M_isRow_68 (by decide) ?_
          exact j_retZ d_M_isRow_69
        · refine j_iload_n d_M_isRow_58 3 rfl rfl ?_
          refine j_iload d_M_isRow_59 0 rfl ?_
          refine j_ishr d_M_isRow_61 ?_
          refine j_iconst (v := 1) d_M_isRow_62 (by decide) ?_
          refine j_iand d_M_isRow_63 ?_
          refine j_iconst (v := 1) d_M_isRow_64 (by decide) ?_
          refine j_icmp_ne (tgt := 70) d_M_isRow_65 (by decide) ?_ ?_
          · refine j_iconst (v := 0) d_M_isRow_68 (by decide) ?_
            exact j_retZ d_M_isRow_69
          · refine j_iload_n d_M_isRow_70 3 rfl rfl ?_
            refine j_iconst (v := 1) d_M_isRow_71 (by decide) ?_
            refine j_iload d_M_isRow_72 0 rfl ?_
            refine j_ishl d_M_isRow_74 ?_
            refine j_ior d_M_isRow_75 ?_
            refine j_nmi (fun x5 => ?_)
            refine j_istore_n (lv' := [(3, vi x5), (5, vi x3), (0, vr l0), (1, vl l1), (4, vi l4)]) d_M_isRow_76 rfl (by decide) rfl ?_
            refine j_iinc (lvv := fun x6 => [(4, vi x6), (3, vi x5), (5, vi x3), (0, vr l0), (1, vl l1)]) d_M_isRow_77 4 rfl rfl (by decide) (fun _ => rfl) (fun x6 => ?_)
            refine j_goto (tgt := 26) d_M_isRow_80 (by decide) ?_
            exact J.sub [3, 4, 1, 0] rfl (ih l0 l1 x5 x6 h2)
set_option maxRecDepth 20000 in
theorem jc_M_isRow (N : Nat) (l0 : Option Nat) (l1 : Int64) (h : Hp) : J p l e R s m args below meth c prog_15_method_6_code 6 "RingingChamberModel" 1 22 (some .boolean) "isRow" D dA B n0 s0 (QM below args s D dA B n0 s0 vI) 0 [(0, vr l0), (1, vl l1)] [] h (M_isRow N l0 l1 h) := by
  unfold M_isRow
  refine j_lload_n d_M_isRow_0 1 rfl rfl ?_
  refine j_lconst (v := 0) d_M_isRow_1 (by decide) ?_
  refine j_lcmp d_M_isRow_2 ?_
  refine j_if_lt (tgt := 19) d_M_isRow_3 (by decide) ?_ ?_
  · refine j_iconst (v := 0) d_M_isRow_19 (by decide) ?_
    exact j_retZ d_M_isRow_20
  · refine j_lload_n d_M_isRow_6 1 rfl rfl ?_
    refine j_iconst (v := 4) d_M_isRow_7 (by decide) ?_
    refine j_aload_n d_M_isRow_8 0 rfl rfl ?_
    refine j_getI d_M_isRow_9 fl_12_105.r (fun x1 => ?_)
    refine j_imul d_M_isRow_12 ?_
    refine j_lshr d_M_isRow_13 ?_
    refine j_lconst (v := 0) d_M_isRow_14 (by decide) ?_
    refine j_lcmp d_M_isRow_15 ?_
    refine j_if_eq (tgt := 21) d_M_isRow_16 (by decide) ?_ ?_
    · refine j_iconst (v := 0) d_M_isRow_21 (by decide) ?_
      refine j_istore_n (lv' := [(3, vi 0), (0, vr l0), (1, vl l1)]) d_M_isRow_22 rfl (by decide) rfl ?_
      refine j_iconst (v := 1) d_M_isRow_23 (by decide) ?_
      refine j_istore (lv' := [(4, vi 1), (3, vi 0), (0, vr l0), (1, vl l1)]) d_M_isRow_24 (by decide) rfl ?_
      exact J.sub [2, 3, 1, 0] rfl (jc_M_isRow_26 N N l0 l1 0 1 h)
    · refine j_iconst (v := 0) d_M_isRow_19 (by decide) ?_
      exact j_retZ d_M_isRow_20
set_option maxRecDepth 20000 in
theorem ct_M_isRow (N : Nat) (l : Launch) (D : va_G) (dA : Nat → ClassId) (B : Nat) (l0 : Option Nat) (l1 : Int64) (h : Hp) : Ct l (⟨"RingingChamberModel", "isRow", "(J)Z"⟩ : MethodName) prog_15_method_6_code 6 (some .boolean) 1 22 D dA B [vr l0, vl l1] h vI (M_isRow N l0 l1 h) :=
  Ct.of2 (own := "RingingChamberModel") (nme := "isRow") (lv := [(0, vr l0), (1, vl l1)]) rfl rfl (by decide) (Nat.le_of_ble_eq_true rfl) rfl (fun p e R s m args below meth c => jc_M_isRow N l0 l1 h)
theorem d_M_isChange_0 : decode prog_15_method_7_code 0 = .ok (.iload_n 1, 1) := by decide +kernel
theorem d_M_isChange_1 : decode prog_15_method_7_code 1 = .ok (.ifCond .lt 26, 3) := by decide +kernel
theorem d_M_isChange_4 : decode prog_15_method_7_code 4 = .ok (.iload_n 1, 1) := by decide +kernel
theorem d_M_isChange_5 : decode prog_15_method_7_code 5 = .ok (.aload_n 0, 1) := by decide +kernel
theorem d_M_isChange_6 : decode prog_15_method_7_code 6 = .ok (.getfield 105, 3) := by decide +kernel
theorem d_M_isChange_9 : decode prog_15_method_7_code 9 = .ok (.iconst 1, 1) := by decide +kernel
theorem d_M_isChange_10 : decode prog_15_method_7_code 10 = .ok (.isub, 1) := by decide +kernel
theorem d_M_isChange_11 : decode prog_15_method_7_code 11 = .ok (.ishr, 1) := by decide +kernel
theorem d_M_isChange_12 : decode prog_15_method_7_code 12 = .ok (.ifCond .ne 15, 3) := by decide +kernel
theorem d_M_isChange_15 : decode prog_15_method_7_code 15 = .ok (.iload_n 1, 1) := by decide +kernel
theorem d_M_isChange_16 : decode prog_15_method_7_code 16 = .ok (.iload_n 1, 1) := by decide +kernel
theorem d_M_isChange_17 : decode prog_15_method_7_code 17 = .ok (.iconst 1, 1) := by decide +kernel
theorem d_M_isChange_18 : decode prog_15_method_7_code 18 = .ok (.ishl, 1) := by decide +kernel
theorem d_M_isChange_19 : decode prog_15_method_7_code 19 = .ok (.iand, 1) := by decide +kernel
theorem d_M_isChange_20 : decode prog_15_method_7_code 20 = .ok (.ifCond .ne 7, 3) := by decide +kernel
theorem d_M_isChange_23 : decode prog_15_method_7_code 23 = .ok (.iconst 1, 1) := by decide +kernel
theorem d_M_isChange_24 : decode prog_15_method_7_code 24 = .ok (.goto 4, 3) := by decide +kernel
theorem d_M_isChange_27 : decode prog_15_method_7_code 27 = .ok (.iconst 0, 1) := by decide +kernel
theorem d_M_isChange_28 : decode prog_15_method_7_code 28 = .ok (.ireturn, 1) := by decide +kernel
set_option maxRecDepth 20000 in
theorem jc_M_isChange (N : Nat) (l0 : Option Nat) (l1 : Int32) (h : Hp) : J p l e R s m args below meth c prog_15_method_7_code 2 "RingingChamberModel" 0 0 (some .boolean) "isChange" D dA B n0 s0 (QM below args s D dA B n0 s0 vI) 0 [(0, vr l0), (1, vi l1)] [] h (M_isChange N l0 l1 h) := by
  unfold M_isChange
  refine j_iload_n d_M_isChange_0 1 rfl rfl ?_
  refine j_if_lt (tgt := 27) d_M_isChange_1 (by decide) ?_ ?_
  · refine j_iconst (v := 0) d_M_isChange_27 (by decide) ?_
    exact j_retZ d_M_isChange_28
  · refine j_iload_n d_M_isChange_4 1 rfl rfl ?_
    refine j_aload_n d_M_isChange_5 0 rfl rfl ?_
    refine j_getI d_M_isChange_6 fl_12_105.r (fun x1 => ?_)
    refine j_iconst (v := 1) d_M_isChange_9 (by decide) ?_
    refine j_isub d_M_isChange_10 ?_
    refine j_ishr d_M_isChange_11 ?_
    refine j_if_ne (tgt := 27) d_M_isChange_12 (by decide) ?_ ?_
    · refine j_iload_n d_M_isChange_15 1 rfl rfl ?_
      refine j_iload_n d_M_isChange_16 1 rfl rfl ?_
      refine j_iconst (v := 1) d_M_isChange_17 (by decide) ?_
      refine j_ishl d_M_isChange_18 ?_
      refine j_iand d_M_isChange_19 ?_
      refine j_if_ne (tgt := 27) d_M_isChange_20 (by decide) ?_ ?_
      · refine j_iconst (v := 1) d_M_isChange_23 (by decide) ?_
        refine j_goto (tgt := 28) d_M_isChange_24 (by decide) ?_
        exact j_retZ d_M_isChange_28
      · refine j_iconst (v := 0) d_M_isChange_27 (by decide) ?_
        exact j_retZ d_M_isChange_28
    · refine j_iconst (v := 0) d_M_isChange_27 (by decide) ?_
      exact j_retZ d_M_isChange_28
set_option maxRecDepth 20000 in
theorem ct_M_isChange (N : Nat) (l : Launch) (D : va_G) (dA : Nat → ClassId) (B : Nat) (l0 : Option Nat) (l1 : Int32) (h : Hp) : Ct l (⟨"RingingChamberModel", "isChange", "(I)Z"⟩ : MethodName) prog_15_method_7_code 2 (some .boolean) 0 0 D dA B [vr l0, vi l1] h vI (M_isChange N l0 l1 h) :=
  Ct.of2 (own := "RingingChamberModel") (nme := "isChange") (lv := [(0, vr l0), (1, vi l1)]) rfl rfl (by decide) (Nat.le_of_ble_eq_true rfl) rfl (fun p e R s m args below meth c => jc_M_isChange N l0 l1 h)
theorem d_M_done_0 : decode prog_15_method_8_code 0 = .ok (.lload_n 0, 1) := by decide +kernel
theorem d_M_done_1 : decode prog_15_method_8_code 1 = .ok (.lstore_n 3, 1) := by decide +kernel
theorem d_M_done_2 : decode prog_15_method_8_code 2 = .ok (.iconst 1, 1) := by decide +kernel
theorem d_M_done_3 : decode prog_15_method_8_code 3 = .ok (.istore 5, 2) := by decide +kernel
theorem d_M_done_5 : decode prog_15_method_8_code 5 = .ok (.iload_n 2, 1) := by decide +kernel
theorem d_M_done_6 : decode prog_15_method_8_code 6 = .ok (.iload 5, 2) := by decide +kernel
theorem d_M_done_8 : decode prog_15_method_8_code 8 = .ok (.iconst 1, 1) := by decide +kernel
theorem d_M_done_9 : decode prog_15_method_8_code 9 = .ok (.isub, 1) := by decide +kernel
theorem d_M_done_10 : decode prog_15_method_8_code 10 = .ok (.ishr, 1) := by decide +kernel
theorem d_M_done_11 : decode prog_15_method_8_code 11 = .ok (.ifCond .eq 71, 3) := by decide +kernel
theorem d_M_done_14 : decode prog_15_method_8_code 14 = .ok (.iload_n 2, 1) := by decide +kernel
theorem d_M_done_15 : decode prog_15_method_8_code 15 = .ok (.iload 5, 2) := by decide +kernel
theorem d_M_done_17 : decode prog_15_method_8_code 17 = .ok (.iconst 1, 1) := by decide +kernel
theorem d_M_done_18 : decode prog_15_method_8_code 18 = .ok (.isub, 1) := by decide +kernel
theorem d_M_done_19 : decode prog_15_method_8_code 19 = .ok (.ishr, 1) := by decide +kernel
theorem d_M_done_20 : decode prog_15_method_8_code 20 = .ok (.iconst 1, 1) := by decide +kernel
theorem d_M_done_21 : decode prog_15_method_8_code 21 = .ok (.iand, 1) := by decide +kernel
theorem d_M_done_22 : decode prog_15_method_8_code 22 = .ok (.iconst 1, 1) := by decide +kernel
theorem d_M_done_23 : decode prog_15_method_8_code 23 = .ok (.if_icmp .ne 53, 3) := by decide +kernel
theorem d_M_done_26 : decode prog_15_method_8_code 26 = .ok (.lload_n 3, 1) := by decide +kernel
theorem d_M_done_27 : decode prog_15_method_8_code 27 = .ok (.iload 5, 2) := by decide +kernel
theorem d_M_done_29 : decode prog_15_method_8_code 29 = .ok (.invokestatic 157, 3) := by decide +kernel
theorem d_M_done_32 : decode prog_15_method_8_code 32 = .ok (.i2l, 1) := by decide +kernel
theorem d_M_done_33 : decode prog_15_method_8_code 33 = .ok (.lstore 6, 2) := by decide +kernel
theorem d_M_done_35 : decode prog_15_method_8_code 35 = .ok (.lload_n 3, 1) := by decide +kernel
theorem d_M_done_36 : decode prog_15_method_8_code 36 = .ok (.iload 5, 2) := by decide +kernel
theorem d_M_done_38 : decode prog_15_method_8_code 38 = .ok (.iconst 1, 1) := by decide +kernel
theorem d_M_done_39 : decode prog_15_method_8_code 39 = .ok (.iadd, 1) := by decide +kernel
theorem d_M_done_40 : decode prog_15_method_8_code 40 = .ok (.invokestatic 157, 3) := by decide +kernel
theorem d_M_done_43 : decode prog_15_method_8_code 43 = .ok (.i2l, 1) := by decide +kernel
theorem d_M_done_44 : decode prog_15_method_8_code 44 = .ok (.lstore 8, 2) := by decide +kernel
theorem d_M_done_46 : decode prog_15_method_8_code 46 = .ok (.lload_n 3, 1) := by decide +kernel
theorem d_M_done_47 : decode prog_15_method_8_code 47 = .ok (.lload 8, 2) := by decide +kernel
theorem d_M_done_49 : decode prog_15_method_8_code 49 = .ok (.lload 6, 2) := by decide +kernel
theorem d_M_done_51 : decode prog_15_method_8_code 51 = .ok (.lsub, 1) := by decide +kernel
theorem d_M_done_52 : decode prog_15_method_8_code 52 = .ok (.lconst 1, 1) := by decide +kernel
theorem d_M_done_53 : decode prog_15_method_8_code 53 = .ok (.iconst 4, 1) := by decide +kernel
theorem d_M_done_54 : decode prog_15_method_8_code 54 = .ok (.iload 5, 2) := by decide +kernel
theorem d_M_done_56 : decode prog_15_method_8_code 56 = .ok (.iconst 1, 1) := by decide +kernel
theorem d_M_done_57 : decode prog_15_method_8_code 57 = .ok (.isub, 1) := by decide +kernel
theorem d_M_done_58 : decode prog_15_method_8_code 58 = .ok (.imul, 1) := by decide +kernel
theorem d_M_done_59 : decode prog_15_method_8_code 59 = .ok (.lshl, 1) := by decide +kernel
theorem d_M_done_60 : decode prog_15_method_8_code 60 = .ok (.lmul, 1) := by decide +kernel
theorem d_M_done_61 : decode prog_15_method_8_code 61 = .ok (.lload 6, 2) := by decide +kernel
theorem d_M_done_63 : decode prog_15_method_8_code 63 = .ok (.lload 8, 2) := by decide +kernel
theorem d_M_done_65 : decode prog_15_method_8_code 65 = .ok (.lsub, 1) := by decide +kernel
theorem d_M_done_66 : decode prog_15_method_8_code 66 = .ok (.lconst 1, 1) := by decide +kernel
theorem d_M_done_67 : decode prog_15_method_8_code 67 = .ok (.iconst 4, 1) := by decide +kernel
theorem d_M_done_68 : decode prog_15_method_8_code 68 = .ok (.iload 5, 2) := by decide +kernel
theorem d_M_done_70 : decode prog_15_method_8_code 70 = .ok (.imul, 1) := by decide +kernel
theorem d_M_done_71 : decode prog_15_method_8_code 71 = .ok (.lshl, 1) := by decide +kernel
theorem d_M_done_72 : decode prog_15_method_8_code 72 = .ok (.lmul, 1) := by decide +kernel
theorem d_M_done_73 : decode prog_15_method_8_code 73 = .ok (.ladd, 1) := by decide +kernel
theorem d_M_done_74 : decode prog_15_method_8_code 74 = .ok (.ladd, 1) := by decide +kernel
theorem d_M_done_75 : decode prog_15_method_8_code 75 = .ok (.lstore_n 3, 1) := by decide +kernel
theorem d_M_done_76 : decode prog_15_method_8_code 76 = .ok (.iinc 5 1, 3) := by decide +kernel
theorem d_M_done_79 : decode prog_15_method_8_code 79 = .ok (.goto (-74), 3) := by decide +kernel
theorem d_M_done_82 : decode prog_15_method_8_code 82 = .ok (.lload_n 3, 1) := by decide +kernel
theorem d_M_done_83 : decode prog_15_method_8_code 83 = .ok (.lreturn, 1) := by decide +kernel
set_option maxRecDepth 20000 in
theorem jc_M_done_76 (N : Nat) (re5 : Int32 → Int64 → Int32 → Hp → Option (Int64 × Hp)) (hre5 : ∀ y0 y1 y2 h, J p l e R s m args below meth c prog_15_method_8_code 10 "RingingChamberModel" 1 22 (some .long) "done" D dA B n0 s0 (QM below args s D dA B n0 s0 vL) 5 [(2, vi y0), (3, vl y1), (5, vi y2)] [] h (re5 y0 y1 y2 h)) (l2 : Int32) (l3 : Int64) (l5 : Int32) (h : Hp) : J p l e R s m args below meth c prog_15_method_8_code 10 "RingingChamberModel" 1 22 (some .long) "done" D dA B n0 s0 (QM below args s D dA B n0 s0 vL) 76 [(2, vi l2), (3, vl l3), (5, vi l5)] [] h (M_done_76 N re5 l2 l3 l5 h) := by
  unfold M_done_76
  refine j_iinc (lvv := fun x1 => [(5, vi x1), (2, vi l2), (3, vl l3)]) d_M_done_76 2 rfl rfl (by decide) (fun _ => rfl) (fun x1 => ?_)
  refine j_goto (tgt := 5) d_M_done_79 (by decide) ?_
  exact J.sub [1, 2, 0] rfl (hre5 l2 l3 x1 h)
set_option maxRecDepth 20000 in
theorem jc_M_done_5 (N : Nat) : ∀ (n : Nat) (l2 : Int32) (l3 : Int64) (l5 : Int32) (h : Hp), J p l e R s m args below meth c prog_15_method_8_code 10 "RingingChamberModel" 1 22 (some .long) "done" D dA B n0 s0 (QM below args s D dA B n0 s0 vL) 5 [(2, vi l2), (3, vl l3), (5, vi l5)] [] h (M_done_5 N n l2 l3 l5 h) := by
  intro n
  induction n with
  | zero => intros; exact J.none
  | succ n ih =>
    intro l2 l3 l5 h
    rw [M_done_5]
    refine j_iload_n d_M_done_5 0 rfl rfl ?_
    refine j_iload d_M_done_6 2 rfl ?_
    refine j_iconst (v := 1) d_M_done_8 (by decide) ?_
    refine j_isub d_M_done_9 ?_
    refine j_ishr d_M_done_10 ?_
    refine j_if_eq (tgt := 82) d_M_done_11 (by decide) ?_ ?_
    · refine j_lload_n d_M_done_82 1 rfl rfl ?_
      exact j_retL d_M_done_83
    · refine j_iload_n d_M_done_14 0 rfl rfl ?_
      refine j_iload d_M_done_15 2 rfl ?_
      refine j_iconst (v := 1) d_M_done_17 (by decide) ?_
      refine j_isub d_M_done_18 ?_
      refine j_ishr d_M_done_19 ?_
      refine j_iconst (v := 1) d_M_done_20 (by decide) ?_
      refine j_iand d_M_done_21 ?_
      refine j_iconst (v := 1) d_M_done_22 (by decide) ?_
      refine j_icmp_ne (tgt := 76) d_M_done_23 (by decide) ?_ ?_
      · refine j_lload_n d_M_done_26 1 rfl rfl ?_
        refine j_iload d_M_done_27 2 rfl ?_
        refine j_cSI2 d_M_done_29 sl_12_157 ks_M_bell (ct_M_bell N l D dA B l3 l5 h) (by decide) (by decide) (Nat.le_of_ble_eq_true rfl) (fun x2 h1 => ?_)
        refine j_i2l d_M_done_32 ?_
        refine j_nml (fun x3 => ?_)
        refine j_lstore (lv' := [(6, vl x3), (2, vi l2), (3, vl l3), (5, vi l5)]) d_M_done_33 (by decide) rfl ?_
        refine j_lload_n d_M_done_35 2 rfl rfl ?_
        refine j_iload d_M_done_36 3 rfl ?_
        refine j_iconst (v := 1) d_M_done_38 (by decide) ?_
        refine j_iadd d_M_done_39 ?_
        refine j_cSI2 d_M_done_40 sl_12_157 ks_M_bell (ct_M_bell N l D dA B l3 (l5 + (1 : Int32)) h1) (by decide) (by decide) (Nat.le_of_ble_eq_true rfl) (fun x5 h4 => ?_)
        refine j_i2l d_M_done_43 ?_
        refine j_nml (fun x6 => ?_)
        refine j_lstore (lv' := [(8, vl x6), (6, vl x3), (2, vi l2), (3, vl l3), (5, vi l5)]) d_M_done_44 (by decide) rfl ?_
        refine j_lload_n d_M_done_46 3 rfl rfl ?_
        refine j_lload d_M_done_47 0 rfl ?_
        refine j_lload d_M_done_49 1 rfl ?_
        refine j_lsub d_M_done_51 ?_
        refine j_lconst (v := 1) d_M_done_52 (by decide) ?_
        refine j_iconst (v := 4) d_M_done_53 (by decide) ?_
        refine j_iload d_M_done_54 4 rfl ?_
        refine j_iconst (v := 1) d_M_done_56 (by decide) ?_
        refine j_isub d_M_done_57 ?_
        refine j_imul d_M_done_58 ?_
        refine j_lshl d_M_done_59 ?_
        refine j_lmul d_M_done_60 ?_
        refine j_lload d_M_done_61 1 rfl ?_
        refine j_lload d_M_done_63 0 rfl ?_
        refine j_lsub d_M_done_65 ?_
        refine j_lconst (v := 1) d_M_done_66 (by decide) ?_
        refine j_iconst (v := 4) d_M_done_67 (by decide) ?_
        refine j_iload d_M_done_68 4 rfl ?_
        refine j_imul d_M_done_70 ?_
        refine j_lshl d_M_done_71 ?_
        refine j_lmul d_M_done_72 ?_
        refine j_ladd d_M_done_73 ?_
        refine j_ladd d_M_done_74 ?_
        refine j_nml (fun x7 => ?_)
        refine j_lstore_n (lv' := [(3, vl x7), (8, vl x6), (6, vl x3), (2, vi l2), (5, vi l5)]) d_M_done_75 rfl (by decide) rfl ?_
        exact J.sub [3, 0, 4] rfl (jc_M_done_76 N (M_done_5 N n) ih l2 x7 l5 h4)
      · exact jc_M_done_76 N (M_done_5 N n) ih l2 l3 l5 h
set_option maxRecDepth 20000 in
theorem jc_M_done (N : Nat) (l0 : Int64) (l2 : Int32) (h : Hp) : J p l e R s m args below meth c prog_15_method_8_code 10 "RingingChamberModel" 1 22 (some .long) "done" D dA B n0 s0 (QM below args s D dA B n0 s0 vL) 0 [(0, vl l0), (2, vi l2)] [] h (M_done N l0 l2 h) := by
  unfold M_done
  refine j_lload_n d_M_done_0 0 rfl rfl ?_
  refine j_lstore_n (lv' := [(3, vl l0), (0, vl l0), (2, vi l2)]) d_M_done_1 rfl (by decide) rfl ?_
  refine j_iconst (v := 1) d_M_done_2 (by decide) ?_
  refine j_istore (lv' := [(5, vi 1), (3, vl l0), (0, vl l0), (2, vi l2)]) d_M_done_3 (by decide) rfl ?_
  exact J.sub [3, 1, 0] rfl (jc_M_done_5 N N l2 l0 1 h)
set_option maxRecDepth 20000 in
theorem ct_M_done (N : Nat) (l : Launch) (D : va_G) (dA : Nat → ClassId) (B : Nat) (l0 : Int64) (l2 : Int32) (h : Hp) : Ct l (⟨"RingingChamberModel", "done", "(JI)J"⟩ : MethodName) prog_15_method_8_code 10 (some .long) 1 22 D dA B [vl l0, vi l2] h vL (M_done N l0 l2 h) :=
  Ct.of2 (own := "RingingChamberModel") (nme := "done") (lv := [(0, vl l0), (2, vi l2)]) rfl rfl (by decide) (Nat.le_of_ble_eq_true rfl) rfl (fun p e R s m args below meth c => jc_M_done N l0 l2 h)
theorem d_M_numberOf_0 : decode prog_15_method_9_code 0 = .ok (.iconst 0, 1) := by decide +kernel
theorem d_M_numberOf_1 : decode prog_15_method_9_code 1 = .ok (.istore_n 3, 1) := by decide +kernel
theorem d_M_numberOf_2 : decode prog_15_method_9_code 2 = .ok (.iconst 1, 1) := by decide +kernel
theorem d_M_numberOf_3 : decode prog_15_method_9_code 3 = .ok (.istore 4, 2) := by decide +kernel
theorem d_M_numberOf_5 : decode prog_15_method_9_code 5 = .ok (.iload 4, 2) := by decide +kernel
theorem d_M_numberOf_7 : decode prog_15_method_9_code 7 = .ok (.aload_n 0, 1) := by decide +kernel
theorem d_M_numberOf_8 : decode prog_15_method_9_code 8 = .ok (.getfield 105, 3) := by decide +kernel
theorem d_M_numberOf_11 : decode prog_15_method_9_code 11 = .ok (.if_icmp .gt 73, 3) := by decide +kernel
theorem d_M_numberOf_14 : decode prog_15_method_9_code 14 = .ok (.iconst 0, 1) := by decide +kernel
theorem d_M_numberOf_15 : decode prog_15_method_9_code 15 = .ok (.istore 5, 2) := by decide +kernel
theorem d_M_numberOf_17 : decode prog_15_method_9_code 17 = .ok (.iload 4, 2) := by decide +kernel
theorem d_M_numberOf_19 : decode prog_15_method_9_code 19 = .ok (.iconst 1, 1) := by decide +kernel
theorem d_M_numberOf_20 : decode prog_15_method_9_code 20 = .ok (.iadd, 1) := by decide +kernel
theorem d_M_numberOf_21 : decode prog_15_method_9_code 21 = .ok (.istore 6, 2) := by decide +kernel
theorem d_M_numberOf_23 : decode prog_15_method_9_code 23 = .ok (.iload 6, 2) := by decide +kernel
theorem d_M_numberOf_25 : decode prog_15_method_9_code 25 = .ok (.aload_n 0, 1) := by decide +kernel
theorem d_M_numberOf_26 : decode prog_15_method_9_code 26 = .ok (.getfield 105, 3) := by decide +kernel
theorem d_M_numberOf_29 : decode prog_15_method_9_code 29 = .ok (.if_icmp .gt 34, 3) := by decide +kernel
theorem d_M_numberOf_32 : decode prog_15_method_9_code 32 = .ok (.iload 5, 2) := by decide +kernel
theorem d_M_numberOf_34 : decode prog_15_method_9_code 34 = .ok (.lload_n 1, 1) := by decide +kernel
theorem d_M_numberOf_35 : decode prog_15_method_9_code 35 = .ok (.iload 6, 2) := by decide +kernel
theorem d_M_numberOf_37 : decode prog_15_method_9_code 37 = .ok (.invokestatic 157, 3) := by decide +kernel
theorem d_M_numberOf_40 : decode prog_15_method_9_code 40 = .ok (.lload_n 1, 1) := by decide +kernel
theorem d_M_numberOf_41 : decode prog_15_method_9_code 41 = .ok (.iload 4, 2) := by decide +kernel
theorem d_M_numberOf_43 : decode prog_15_method_9_code 43 = .ok (.invokestatic 157, 3) := by decide +kernel
theorem d_M_numberOf_46 : decode prog_15_method_9_code 46 = .ok (.if_icmp .ge 7, 3) := by decide +kernel
theorem d_M_numberOf_49 : decode prog_15_method_9_code 49 = .ok (.iconst 1, 1) := by decide +kernel
theorem d_M_numberOf_50 : decode prog_15_method_9_code 50 = .ok (.goto 4, 3) := by decide +kernel
theorem d_M_numberOf_53 : decode prog_15_method_9_code 53 = .ok (.iconst 0, 1) := by decide +kernel
theorem d_M_numberOf_54 : decode prog_15_method_9_code 54 = .ok (.iadd, 1) := by decide +kernel
theorem d_M_numberOf_55 : decode prog_15_method_9_code 55 = .ok (.istore 5, 2) := by decide +kernel
theorem d_M_numberOf_57 : decode prog_15_method_9_code 57 = .ok (.iinc 6 1, 3) := by decide +kernel
theorem d_M_numberOf_60 : decode prog_15_method_9_code 60 = .ok (.goto (-37), 3) := by decide +kernel
theorem d_M_numberOf_63 : decode prog_15_method_9_code 63 = .ok (.iload_n 3, 1) := by decide +kernel
theorem d_M_numberOf_64 : decode prog_15_method_9_code 64 = .ok (.aload_n 0, 1) := by decide +kernel
theorem d_M_numberOf_65 : decode prog_15_method_9_code 65 = .ok (.getfield 105, 3) := by decide +kernel
theorem d_M_numberOf_68 : decode prog_15_method_9_code 68 = .ok (.iload 4, 2) := by decide +kernel
theorem d_M_numberOf_70 : decode prog_15_method_9_code 70 = .ok (.isub, 1) := by decide +kernel
theorem d_M_numberOf_71 : decode prog_15_method_9_code 71 = .ok (.iconst 1, 1) := by decide +kernel
theorem d_M_numberOf_72 : decode prog_15_method_9_code 72 = .ok (.iadd, 1) := by decide +kernel
theorem d_M_numberOf_73 : decode prog_15_method_9_code 73 = .ok (.imul, 1) := by decide +kernel
theorem d_M_numberOf_74 : decode prog_15_method_9_code 74 = .ok (.iload 5, 2) := by decide +kernel
theorem d_M_numberOf_76 : decode prog_15_method_9_code 76 = .ok (.iadd, 1) := by decide +kernel
theorem d_M_numberOf_77 : decode prog_15_method_9_code 77 = .ok (.istore_n 3, 1) := by decide +kernel
theorem d_M_numberOf_78 : decode prog_15_method_9_code 78 = .ok (.iinc 4 1, 3) := by decide +kernel
theorem d_M_numberOf_81 : decode prog_15_method_9_code 81 = .ok (.goto (-76), 3) := by decide +kernel
theorem d_M_numberOf_84 : decode prog_15_method_9_code 84 = .ok (.iload_n 3, 1) := by decide +kernel
theorem d_M_numberOf_85 : decode prog_15_method_9_code 85 = .ok (.ireturn, 1) := by decide +kernel
set_option maxRecDepth 20000 in
theorem jc_M_numberOf_54 (N : Nat) (re5 : Option Nat → Int64 → Int32 → Int32 → Hp → Option (Int32 × Hp)) (re23 : Option Nat → Int64 → Int32 → Int32 → Int32 → Int32 → Hp → Option (Int32 × Hp)) (hre5 : ∀ y0 y1 y2 y3 h, J p l e R s m args below meth c prog_15_method_9_code 7 "RingingChamberModel" 1 22 (some .int) "numberOf" D dA B n0 s0 (QM below args s D dA B n0 s0 vI) 5 [(0, vr y0), (1, vl y1), (3, vi y2), (4, vi y3)] [] h (re5 y0 y1 y2 y3 h)) (hre23 : ∀ y0 y1 y2 y3 y4 y5 h, J p l e R s m args below meth c prog_15_method_9_code 7 "RingingChamberModel" 1 22 (some .int) "numberOf" D dA B n0 s0 (QM below args s D dA B n0 s0 vI) 23 [(0, vr y0), (1, vl y1), (3, vi y2), (4, vi y3), (5, vi y4), (6, vi y5)] [] h (re23 y0 y1 y2 y3 y4 y5 h)) (l0 : Option Nat) (l1 : Int64) (l3 : Int32) (l4 : Int32) (l6 : Int32) (u0 : Int32) (u1 : Int32) (h : Hp) : J p l e R s m args below meth c prog_15_method_9_code 7 "RingingChamberModel" 1 22 (some .int) "numberOf" D dA B n0 s0 (QM below args s D dA B n0 s0 vI) 54 [(0, vr l0), (1, vl l1), (3, vi l3), (4, vi l4), (6, vi l6)] [vi u1, vi u0] h (M_numberOf_54 N re5 re23 l0 l1 l3 l4 l6 u0 u1 h) := by
  unfold M_numberOf_54
  refine j_iadd d_M_numberOf_54 ?_
  refine j_nmi (fun x1 => ?_)
  refine j_istore (lv' := [(5, vi x1), (0, vr l0), (1, vl l1), (3, vi l3), (4, vi l4), (6, vi l6)]) d_M_numberOf_55 (by decide) rfl ?_
  refine j_iinc (lvv := fun x2 => [(6, vi x2), (5, vi x1), (0, vr l0), (1, vl l1), (3, vi l3), (4, vi l4)]) d_M_numberOf_57 5 rfl rfl (by decide) (fun _ => rfl) (fun x2 => ?_)
  refine j_goto (tgt := 23) d_M_numberOf_60 (by decide) ?_
  exact J.sub [2, 3, 4, 5, 1, 0] rfl (hre23 l0 l1 l3 l4 x1 x2 h)
set_option maxRecDepth 20000 in
theorem jc_M_numberOf_23 (N : Nat) (re5 : Option Nat → Int64 → Int32 → Int32 → Hp → Option (Int32 × Hp)) (hre5 : ∀ y0 y1 y2 y3 h, J p l e R s m args below meth c prog_15_method_9_code 7 "RingingChamberModel" 1 22 (some .int) "numberOf" D dA B n0 s0 (QM below args s D dA B n0 s0 vI) 5 [(0, vr y0), (1, vl y1), (3, vi y2), (4, vi y3)] [] h (re5 y0 y1 y2 y3 h)) : ∀ (n : Nat) (l0 : Option Nat) (l1 : Int64) (l3 : Int32) (l4 : Int32) (l5 : Int32) (l6 : Int32) (h : Hp), J p l e R s m args below meth c prog_15_method_9_code 7 "RingingChamberModel" 1 22 (some .int) "numberOf" D dA B n0 s0 (QM below args s D dA B n0 s0 vI) 23 [(0, vr l0), (1, vl l1), (3, vi l3), (4, vi l4), (5, vi l5), (6, vi l6)] [] h (M_numberOf_23 N re5 n l0 l1 l3 l4 l5 l6 h) := by
  intro n
  induction n with
  | zero => intros; exact J.none
  | succ n ih =>
    intro l0 l1 l3 l4 l5 l6 h
    rw [M_numberOf_23]
    refine j_iload d_M_numberOf_23 5 rfl ?_
    refine j_aload_n d_M_numberOf_25 0 rfl rfl ?_
    refine j_getI d_M_numberOf_26 fl_12_105.r (fun x1 => ?_)
    refine j_icmp_gt (tgt := 63) d_M_numberOf_29 (by decide) ?_ ?_
    · refine j_iload_n d_M_numberOf_63 2 rfl rfl ?_
      refine j_aload_n d_M_numberOf_64 0 rfl rfl ?_
      refine j_getI d_M_numberOf_65 fl_12_105.r (fun x2 => ?_)
      refine j_iload d_M_numberOf_68 3 rfl ?_
      refine j_isub d_M_numberOf_70 ?_
      refine j_iconst (v := 1) d_M_numberOf_71 (by decide) ?_
      refine j_iadd d_M_numberOf_72 ?_
      refine j_imul d_M_numberOf_73 ?_
      refine j_iload d_M_numberOf_74 4 rfl ?_
      refine j_iadd d_M_numberOf_76 ?_
      refine j_nmi (fun x3 => ?_)
      refine j_istore_n (lv' := [(3, vi x3), (0, vr l0), (1, vl l1), (4, vi l4), (5, vi l5), (6, vi l6)]) d_M_numberOf_77 rfl (by decide) rfl ?_
      refine j_iinc (lvv := fun x4 => [(4, vi x4), (3, vi x3), (0, vr l0), (1, vl l1), (5, vi l5), (6, vi l6)]) d_M_numberOf_78 3 rfl rfl (by decide) (fun _ => rfl) (fun x4 => ?_)
      refine j_goto (tgt := 5) d_M_numberOf_81 (by decide) ?_
      exact J.sub [2, 3, 1, 0] rfl (hre5 l0 l1 x3 x4 h)
    · refine j_iload d_M_numberOf_32 4 rfl ?_
      refine j_lload_n d_M_numberOf_34 1 rfl rfl ?_
      refine j_iload d_M_numberOf_35 5 rfl ?_
      refine j_cSI2 d_M_numberOf_37 sl_12_157 ks_M_bell (ct_M_bell N l D dA B l1 l6 h) (by decide) (by decide) (Nat.le_of_ble_eq_true rfl) (fun x6 h5 => ?_)
      refine j_lload_n d_M_numberOf_40 1 rfl rfl ?_
      refine j_iload d_M_numberOf_41 3 rfl ?_
      refine j_cSI2 d_M_numberOf_43 sl_12_157 ks_M_bell (ct_M_bell N l D dA B l1 l4 h5) (by decide) (by decide) (Nat.le_of_ble_eq_true rfl) (fun x8 h7 => ?_)
      refine j_icmp_ge (tgt := 53) d_M_numberOf_46 (by decide) ?_ ?_
      · refine j_iconst (v := 0) d_M_numberOf_53 (by decide) ?_
        exact J.sub [0, 1, 2, 3, 5] rfl (jc_M_numberOf_54 N re5 (M_numberOf_23 N re5 n) hre5 ih l0 l1 l3 l4 l6 l5 0 h7)
      · refine j_iconst (v := 1) d_M_numberOf_49 (by decide) ?_
        refine j_goto (tgt := 54) d_M_numberOf_50 (by decide) ?_
        exact J.sub [0, 1, 2, 3, 5] rfl (jc_M_numberOf_54 N re5 (M_numberOf_23 N re5 n) hre5 ih l0 l1 l3 l4 l6 l5 1 h7)
set_option maxRecDepth 20000 in
theorem jc_M_numberOf_5 (N : Nat) : ∀ (n : Nat) (l0 : Option Nat) (l1 : Int64) (l3 : Int32) (l4 : Int32) (h : Hp), J p l e R s m args below meth c prog_15_method_9_code 7 "RingingChamberModel" 1 22 (some .int) "numberOf" D dA B n0 s0 (QM below args s D dA B n0 s0 vI) 5 [(0, vr l0), (1, vl l1), (3, vi l3), (4, vi l4)] [] h (M_numberOf_5 N n l0 l1 l3 l4 h) := by
  intro n
  induction n with
  | zero => intros; exact J.none
  | succ n ih =>
    intro l0 l1 l3 l4 h
    rw [M_numberOf_5]
    refine j_iload d_M_numberOf_5 3 rfl ?_
    refine j_aload_n d_M_numberOf_7 0 rfl rfl ?_
    refine j_getI d_M_numberOf_8 fl_12_105.r (fun x1 => ?_)
    refine j_icmp_gt (tgt := 84) d_M_numberOf_11 (by decide) ?_ ?_
    · refine j_iload_n d_M_numberOf_84 2 rfl rfl ?_
      exact j_retI d_M_numberOf_85
    · refine j_iconst (v := 0) d_M_numberOf_14 (by decide) ?_
      refine j_istore (lv' := [(5, vi 0), (0, vr l0), (1, vl l1), (3, vi l3), (4, vi l4)]) d_M_numberOf_15 (by decide) rfl ?_
      refine j_iload d_M_numberOf_17 4 rfl ?_
      refine j_iconst (v := 1) d_M_numberOf_19 (by decide) ?_
      refine j_iadd d_M_numberOf_20 ?_
      refine j_nmi (fun x2 => ?_)
      refine j_istore (lv' := [(6, vi x2), (5, vi 0), (0, vr l0), (1, vl l1), (3, vi l3), (4, vi l4)]) d_M_numberOf_21 (by decide) rfl ?_
      exact J.sub [2, 3, 4, 5, 1, 0] rfl (jc_M_numberOf_23 N (M_numberOf_5 N n) ih N l0 l1 l3 l4 0 x2 h)
set_option maxRecDepth 20000 in
theorem jc_M_numberOf (N : Nat) (l0 : Option Nat) (l1 : Int64) (h : Hp) : J p l e R s m args below meth c prog_15_method_9_code 7 "RingingChamberModel" 1 22 (some .int) "numberOf" D dA B n0 s0 (QM below args s D dA B n0 s0 vI) 0 [(0, vr l0), (1, vl l1)] [] h (M_numberOf N l0 l1 h) := by
  unfold M_numberOf
  refine j_iconst (v := 0) d_M_numberOf_0 (by decide) ?_
  refine j_istore_n (lv' := [(3, vi 0), (0, vr l0), (1, vl l1)]) d_M_numberOf_1 rfl (by decide) rfl ?_
  refine j_iconst (v := 1) d_M_numberOf_2 (by decide) ?_
  refine j_istore (lv' := [(4, vi 1), (3, vi 0), (0, vr l0), (1, vl l1)]) d_M_numberOf_3 (by decide) rfl ?_
  exact J.sub [2, 3, 1, 0] rfl (jc_M_numberOf_5 N N l0 l1 0 1 h)
set_option maxRecDepth 20000 in
theorem ct_M_numberOf (N : Nat) (l : Launch) (D : va_G) (dA : Nat → ClassId) (B : Nat) (l0 : Option Nat) (l1 : Int64) (h : Hp) : Ct l (⟨"RingingChamberModel", "numberOf", "(J)I"⟩ : MethodName) prog_15_method_9_code 7 (some .int) 1 22 D dA B [vr l0, vl l1] h vI (M_numberOf N l0 l1 h) :=
  Ct.of2 (own := "RingingChamberModel") (nme := "numberOf") (lv := [(0, vr l0), (1, vl l1)]) rfl rfl (by decide) (Nat.le_of_ble_eq_true rfl) rfl (fun p e R s m args below meth c => jc_M_numberOf N l0 l1 h)
theorem d_M_all_0 : decode prog_15_method_10_code 0 = .ok (.iconst 1, 1) := by decide +kernel
theorem d_M_all_1 : decode prog_15_method_10_code 1 = .ok (.istore_n 1, 1) := by decide +kernel
theorem d_M_all_2 : decode prog_15_method_10_code 2 = .ok (.iconst 2, 1) := by decide +kernel
theorem d_M_all_3 : decode prog_15_method_10_code 3 = .ok (.istore_n 2, 1) := by decide +kernel
theorem d_M_all_4 : decode prog_15_method_10_code 4 = .ok (.iload_n 2, 1) := by decide +kernel
theorem d_M_all_5 : decode prog_15_method_10_code 5 = .ok (.aload_n 0, 1) := by decide +kernel
theorem d_M_all_6 : decode prog_15_method_10_code 6 = .ok (.getfield 105, 3) := by decide +kernel
theorem d_M_all_9 : decode prog_15_method_10_code 9 = .ok (.if_icmp .gt 13, 3) := by decide +kernel
theorem d_M_all_12 : decode prog_15_method_10_code 12 = .ok (.iload_n 1, 1) := by decide +kernel
theorem d_M_all_13 : decode prog_15_method_10_code 13 = .ok (.iload_n 2, 1) := by decide +kernel
theorem d_M_all_14 : decode prog_15_method_10_code 14 = .ok (.imul, 1) := by decide +kernel
theorem d_M_all_15 : decode prog_15_method_10_code 15 = .ok (.istore_n 1, 1) := by decide +kernel
theorem d_M_all_16 : decode prog_15_method_10_code 16 = .ok (.iinc 2 1, 3) := by decide +kernel
theorem d_M_all_19 : decode prog_15_method_10_code 19 = .ok (.goto (-15), 3) := by decide +kernel
theorem d_M_all_22 : decode prog_15_method_10_code 22 = .ok (.iload_n 1, 1) := by decide +kernel
theorem d_M_all_23 : decode prog_15_method_10_code 23 = .ok (.ireturn, 1) := by decide +kernel
set_option maxRecDepth 20000 in
theorem jc_M_all_4 (N : Nat) : ∀ (n : Nat) (l0 : Option Nat) (l1 : Int32) (l2 : Int32) (h : Hp), J p l e R s m args below meth c prog_15_method_10_code 3 "RingingChamberModel" 0 0 (some .int) "all" D dA B n0 s0 (QM below args s D dA B n0 s0 vI) 4 [(0, vr l0), (1, vi l1), (2, vi l2)] [] h (M_all_4 N n l0 l1 l2 h) := by
  intro n
  induction n with
  | zero => intros; exact J.none
  | succ n ih =>
    intro l0 l1 l2 h
    rw [M_all_4]
    refine j_iload_n d_M_all_4 2 rfl rfl ?_
    refine j_aload_n d_M_all_5 0 rfl rfl ?_
    refine j_getI d_M_all_6 fl_12_105.r (fun x1 => ?_)
    refine j_icmp_gt (tgt := 22) d_M_all_9 (by decide) ?_ ?_
    · refine j_iload_n d_M_all_22 1 rfl rfl ?_
      exact j_retI d_M_all_23
    · refine j_iload_n d_M_all_12 1 rfl rfl ?_
      refine j_iload_n d_M_all_13 2 rfl rfl ?_
      refine j_imul d_M_all_14 ?_
      refine j_nmi (fun x2 => ?_)
      refine j_istore_n (lv' := [(1, vi x2), (0, vr l0), (2, vi l2)]) d_M_all_15 rfl (by decide) rfl ?_
      refine j_iinc (lvv := fun x3 => [(2, vi x3), (1, vi x2), (0, vr l0)]) d_M_all_16 2 rfl rfl (by decide) (fun _ => rfl) (fun x3 => ?_)
      refine j_goto (tgt := 4) d_M_all_19 (by decide) ?_
      exact J.sub [2, 1, 0] rfl (ih l0 x2 x3 h)
set_option maxRecDepth 20000 in
theorem jc_M_all (N : Nat) (l0 : Option Nat) (h : Hp) : J p l e R s m args below meth c prog_15_method_10_code 3 "RingingChamberModel" 0 0 (some .int) "all" D dA B n0 s0 (QM below args s D dA B n0 s0 vI) 0 [(0, vr l0)] [] h (M_all N l0 h) := by
  unfold M_all
  refine j_iconst (v := 1) d_M_all_0 (by decide) ?_
  refine j_istore_n (lv' := [(1, vi 1), (0, vr l0)]) d_M_all_1 rfl (by decide) rfl ?_
  refine j_iconst (v := 2) d_M_all_2 (by decide) ?_
  refine j_istore_n (lv' := [(2, vi 2), (1, vi 1), (0, vr l0)]) d_M_all_3 rfl (by decide) rfl ?_
  exact J.sub [2, 1, 0] rfl (jc_M_all_4 N N l0 1 2 h)
set_option maxRecDepth 20000 in
theorem ct_M_all (N : Nat) (l : Launch) (D : va_G) (dA : Nat → ClassId) (B : Nat) (l0 : Option Nat) (h : Hp) : Ct l (⟨"RingingChamberModel", "all", "()I"⟩ : MethodName) prog_15_method_10_code 3 (some .int) 0 0 D dA B [vr l0] h vI (M_all N l0 h) :=
  Ct.of2 (own := "RingingChamberModel") (nme := "all") (lv := [(0, vr l0)]) rfl rfl (by decide) (Nat.le_of_ble_eq_true rfl) rfl (fun p e R s m args below meth c => jc_M_all N l0 h)
theorem d_M_rowOf_0 : decode prog_15_method_11_code 0 = .ok (.lconst 0, 1) := by decide +kernel
theorem d_M_rowOf_1 : decode prog_15_method_11_code 1 = .ok (.lstore_n 2, 1) := by decide +kernel
theorem d_M_rowOf_2 : decode prog_15_method_11_code 2 = .ok (.iload_n 1, 1) := by decide +kernel
theorem d_M_rowOf_3 : decode prog_15_method_11_code 3 = .ok (.istore 4, 2) := by decide +kernel
theorem d_M_rowOf_5 : decode prog_15_method_11_code 5 = .ok (.aload_n 0, 1) := by decide +kernel
theorem d_M_rowOf_6 : decode prog_15_method_11_code 6 = .ok (.invokevirtual 161, 3) := by decide +kernel
theorem d_M_rowOf_9 : decode prog_15_method_11_code 9 = .ok (.istore 5, 2) := by decide +kernel
theorem d_M_rowOf_11 : decode prog_15_method_11_code 11 = .ok (.iconst 0, 1) := by decide +kernel
theorem d_M_rowOf_12 : decode prog_15_method_11_code 12 = .ok (.istore 6, 2) := by decide +kernel
theorem d_M_rowOf_14 : decode prog_15_method_11_code 14 = .ok (.iconst 1, 1) := by decide +kernel
theorem d_M_rowOf_15 : decode prog_15_method_11_code 15 = .ok (.istore 7, 2) := by decide +kernel
theorem d_M_rowOf_17 : decode prog_15_method_11_code 17 = .ok (.iload 7, 2) := by decide +kernel
theorem d_M_rowOf_19 : decode prog_15_method_11_code 19 = .ok (.aload_n 0, 1) := by decide +kernel
theorem d_M_rowOf_20 : decode prog_15_method_11_code 20 = .ok (.getfield 105, 3) := by decide +kernel
theorem d_M_rowOf_23 : decode prog_15_method_11_code 23 = .ok (.if_icmp .gt 105, 3) := by decide +kernel
theorem d_M_rowOf_26 : decode prog_15_method_11_code 26 = .ok (.iload 5, 2) := by decide +kernel
theorem d_M_rowOf_28 : decode prog_15_method_11_code 28 = .ok (.aload_n 0, 1) := by decide +kernel
theorem d_M_rowOf_29 : decode prog_15_method_11_code 29 = .ok (.getfield 105, 3) := by decide +kernel
theorem d_M_rowOf_32 : decode prog_15_method_11_code 32 = .ok (.iload 7, 2) := by decide +kernel
theorem d_M_rowOf_34 : decode prog_15_method_11_code 34 = .ok (.isub, 1) := by decide +kernel
theorem d_M_rowOf_35 : decode prog_15_method_11_code 35 = .ok (.iconst 1, 1) := by decide +kernel
theorem d_M_rowOf_36 : decode prog_15_method_11_code 36 = .ok (.iadd, 1) := by decide +kernel
theorem d_M_rowOf_37 : decode prog_15_method_11_code 37 = .ok (.idiv, 1) := by decide +kernel
theorem d_M_rowOf_38 : decode prog_15_method_11_code 38 = .ok (.istore 5, 2) := by decide +kernel
theorem d_M_rowOf_40 : decode prog_15_method_11_code 40 = .ok (.iload 4, 2) := by decide +kernel
theorem d_M_rowOf_42 : decode prog_15_method_11_code 42 = .ok (.iload 5, 2) := by decide +kernel
theorem d_M_rowOf_44 : decode prog_15_method_11_code 44 = .ok (.idiv, 1) := by decide +kernel
theorem d_M_rowOf_45 : decode prog_15_method_11_code 45 = .ok (.istore 8, 2) := by decide +kernel
theorem d_M_rowOf_47 : decode prog_15_method_11_code 47 = .ok (.iload 4, 2) := by decide +kernel
theorem d_M_rowOf_49 : decode prog_15_method_11_code 49 = .ok (.iload 5, 2) := by decide +kernel
theorem d_M_rowOf_51 : decode prog_15_method_11_code 51 = .ok (.irem, 1) := by decide +kernel
theorem d_M_rowOf_52 : decode prog_15_method_11_code 52 = .ok (.istore 4, 2) := by decide +kernel
theorem d_M_rowOf_54 : decode prog_15_method_11_code 54 = .ok (.iconst 1, 1) := by decide +kernel
theorem d_M_rowOf_55 : decode prog_15_method_11_code 55 = .ok (.istore 9, 2) := by decide +kernel
theorem d_M_rowOf_57 : decode prog_15_method_11_code 57 = .ok (.iload 6, 2) := by decide +kernel
theorem d_M_rowOf_59 : decode prog_15_method_11_code 59 = .ok (.iload 9, 2) := by decide +kernel
theorem d_M_rowOf_61 : decode prog_15_method_11_code 61 = .ok (.ishr, 1) := by decide +kernel
theorem d_M_rowOf_62 : decode prog_15_method_11_code 62 = .ok (.iconst 1, 1) := by decide +kernel
theorem d_M_rowOf_63 : decode prog_15_method_11_code 63 = .ok (.iand, 1) := by decide +kernel
theorem d_M_rowOf_64 : decode prog_15_method_11_code 64 = .ok (.iconst 1, 1) := by decide +kernel
theorem d_M_rowOf_65 : decode prog_15_method_11_code 65 = .ok (.if_icmp .eq 8, 3) := by decide +kernel
theorem d_M_rowOf_68 : decode prog_15_method_11_code 68 = .ok (.iload 8, 2) := by decide +kernel
theorem d_M_rowOf_70 : decode prog_15_method_11_code 70 = .ok (.ifCond .le 30, 3) := by decide +kernel
theorem d_M_rowOf_73 : decode prog_15_method_11_code 73 = .ok (.iload 8, 2) := by decide +kernel
theorem d_M_rowOf_75 : decode prog_15_method_11_code 75 = .ok (.iload 6, 2) := by decide +kernel
theorem d_M_rowOf_77 : decode prog_15_method_11_code 77 = .ok (.iload 9, 2) := by decide +kernel
theorem d_M_rowOf_79 : decode prog_15_method_11_code 79 = .ok (.ishr, 1) := by decide +kernel
theorem d_M_rowOf_80 : decode prog_15_method_11_code 80 = .ok (.iconst 1, 1) := by decide +kernel
theorem d_M_rowOf_81 : decode prog_15_method_11_code 81 = .ok (.iand, 1) := by decide +kernel
theorem d_M_rowOf_82 : decode prog_15_method_11_code 82 = .ok (.iconst 1, 1) := by decide +kernel
theorem d_M_rowOf_83 : decode prog_15_method_11_code 83 = .ok (.if_icmp .ne 7, 3) := by decide +kernel
theorem d_M_rowOf_86 : decode prog_15_method_11_code 86 = .ok (.iconst 0, 1) := by decide +kernel
theorem d_M_rowOf_87 : decode prog_15_method_11_code 87 = .ok (.goto 4, 3) := by decide +kernel
theorem d_M_rowOf_90 : decode prog_15_method_11_code 90 = .ok (.iconst 1, 1) := by decide +kernel
theorem d_M_rowOf_91 : decode prog_15_method_11_code 91 = .ok (.isub, 1) := by decide +kernel
theorem d_M_rowOf_92 : decode prog_15_method_11_code 92 = .ok (.istore 8, 2) := by decide +kernel
theorem d_M_rowOf_94 : decode prog_15_method_11_code 94 = .ok (.iinc 9 1, 3) := by decide +kernel
theorem d_M_rowOf_97 : decode prog_15_method_11_code 97 = .ok (.goto (-40), 3) := by decide +kernel
theorem d_M_rowOf_100 : decode prog_15_method_11_code 100 = .ok (.iload 6, 2) := by decide +kernel
theorem d_M_rowOf_102 : decode prog_15_method_11_code 102 = .ok (.iconst 1, 1) := by decide +kernel
theorem d_M_rowOf_103 : decode prog_15_method_11_code 103 = .ok (.iload 9, 2) := by decide +kernel
theorem d_M_rowOf_105 : decode prog_15_method_11_code 105 = .ok (.ishl, 1) := by decide +kernel
theorem d_M_rowOf_106 : decode prog_15_method_11_code 106 = .ok (.ior, 1) := by decide +kernel
theorem d_M_rowOf_107 : decode prog_15_method_11_code 107 = .ok (.istore 6, 2) := by decide +kernel
theorem d_M_rowOf_109 : decode prog_15_method_11_code 109 = .ok (.lload_n 2, 1) := by decide +kernel
theorem d_M_rowOf_110 : decode prog_15_method_11_code 110 = .ok (.iload 9, 2) := by decide +kernel
theorem d_M_rowOf_112 : decode prog_15_method_11_code 112 = .ok (.i2l, 1) := by decide +kernel
theorem d_M_rowOf_113 : decode prog_15_method_11_code 113 = .ok (.iconst 4, 1) := by decide +kernel
theorem d_M_rowOf_114 : decode prog_15_method_11_code 114 = .ok (.iload 7, 2) := by decide +kernel
theorem d_M_rowOf_116 : decode prog_15_method_11_code 116 = .ok (.iconst 1, 1) := by decide +kernel
theorem d_M_rowOf_117 : decode prog_15_method_11_code 117 = .ok (.isub, 1) := by decide +kernel
theorem d_M_rowOf_118 : decode prog_15_method_11_code 118 = .ok (.imul, 1) := by decide +kernel
theorem d_M_rowOf_119 : decode prog_15_method_11_code 119 = .ok (.lshl, 1) := by decide +kernel
theorem d_M_rowOf_120 : decode prog_15_method_11_code 120 = .ok (.ladd, 1) := by decide +kernel
theorem d_M_rowOf_121 : decode prog_15_method_11_code 121 = .ok (.lstore_n 2, 1) := by decide +kernel
theorem d_M_rowOf_122 : decode prog_15_method_11_code 122 = .ok (.iinc 7 1, 3) := by decide +kernel
theorem d_M_rowOf_125 : decode prog_15_method_11_code 125 = .ok (.goto (-108), 3) := by decide +kernel
theorem d_M_rowOf_128 : decode prog_15_method_11_code 128 = .ok (.lload_n 2, 1) := by decide +kernel
theorem d_M_rowOf_129 : decode prog_15_method_11_code 129 = .ok (.lreturn, 1) := by decide +kernel
set_option maxRecDepth 20000 in
theorem jc_M_rowOf_91 (N : Nat) (re17 : Option Nat → Int64 → Int32 → Int32 → Int32 → Int32 → Hp → Option (Int64 × Hp)) (re57 : Option Nat → Int64 → Int32 → Int32 → Int32 → Int32 → Int32 → Int32 → Hp → Option (Int64 × Hp)) (hre17 : ∀ y0 y1 y2 y3 y4 y5 h, J p l e R s m args below meth c prog_15_method_11_code 10 "RingingChamberModel" 1 22 (some .long) "rowOf" D dA B n0 s0 (QM below args s D dA B n0 s0 vL) 17 [(0, vr y0), (2, vl y1), (4, vi y2), (5, vi y3), (6, vi y4), (7, vi y5)] [] h (re17 y0 y1 y2 y3 y4 y5 h)) (hre57 : ∀ y0 y1 y2 y3 y4 y5 y6 y7 h, J p l e R s m args below meth c prog_15_method_11_code 10 "RingingChamberModel" 1 22 (some .long) "rowOf" D dA B n0 s0 (QM below args s D dA B n0 s0 vL) 57 [(0, vr y0), (2, vl y1), (4, vi y2), (5, vi y3), (6, vi y4), (7, vi y5), (8, vi y6), (9, vi y7)] [] h (re57 y0 y1 y2 y3 y4 y5 y6 y7 h)) (l0 : Option Nat) (l2 : Int64) (l4 : Int32) (l5 : Int32) (l6 : Int32) (l7 : Int32) (l9 : Int32) (u0 : Int32) (u1 : Int32) (h : Hp) : J p l e R s m args below meth c prog_15_method_11_code 10 "RingingChamberModel" 1 22 (some .long) "rowOf" D dA B n0 s0 (QM below args s D dA B n0 s0 vL) 91 [(0, vr l0), (2, vl l2), (4, vi l4), (5, vi l5), (6, vi l6), (7, vi l7), (9, vi l9)] [vi u1, vi u0] h (M_rowOf_91 N re17 re57 l0 l2 l4 l5 l6 l7 l9 u0 u1 h) := by
  unfold M_rowOf_91
  refine j_isub d_M_rowOf_91 ?_
  refine j_nmi (fun x1 => ?_)
  refine j_istore (lv' := [(8, vi x1), (0, vr l0), (2, vl l2), (4, vi l4), (5, vi l5), (6, vi l6), (7, vi l7), (9, vi l9)]) d_M_rowOf_92 (by decide) rfl ?_
  refine j_iinc (lvv := fun x2 => [(9, vi x2), (8, vi x1), (0, vr l0), (2, vl l2), (4, vi l4), (5, vi l5), (6, vi l6), (7, vi l7)]) d_M_rowOf_94 7 rfl rfl (by decide) (fun _ => rfl) (fun x2 => ?_)
  refine j_goto (tgt := 57) d_M_rowOf_97 (by decide) ?_
  exact J.sub [2, 3, 4, 5, 6, 7, 1, 0] rfl (hre57 l0 l2 l4 l5 l6 l7 x1 x2 h)
set_option maxRecDepth 20000 in
theorem jc_M_rowOf_73 (N : Nat) (re17 : Option Nat → Int64 → Int32 → Int32 → Int32 → Int32 → Hp → Option (Int64 × Hp)) (re57 : Option Nat → Int64 → Int32 → Int32 → Int32 → Int32 → Int32 → Int32 → Hp → Option (Int64 × Hp)) (hre17 : ∀ y0 y1 y2 y3 y4 y5 h, J p l e R s m args below meth c prog_15_method_11_code 10 "RingingChamberModel" 1 22 (some .long) "rowOf" D dA B n0 s0 (QM below args s D dA B n0 s0 vL) 17 [(0, vr y0), (2, vl y1), (4, vi y2), (5, vi y3), (6, vi y4), (7, vi y5)] [] h (re17 y0 y1 y2 y3 y4 y5 h)) (hre57 : ∀ y0 y1 y2 y3 y4 y5 y6 y7 h, J p l e R s m args below meth c prog_15_method_11_code 10 "RingingChamberModel" 1 22 (some .long) "rowOf" D dA B n0 s0 (QM below args s D dA B n0 s0 vL) 57 [(0, vr y0), (2, vl y1), (4, vi y2), (5, vi y3), (6, vi y4), (7, vi y5), (8, vi y6), (9, vi y7)] [] h (re57 y0 y1 y2 y3 y4 y5 y6 y7 h)) (l0 : Option Nat) (l2 : Int64) (l4 : Int32) (l5 : Int32) (l6 : Int32) (l7 : Int32) (l8 : Int32) (l9 : Int32) (h : Hp) : J p l e R s m args below meth c prog_15_method_11_code 10 "RingingChamberModel" 1 22 (some .long) "rowOf" D dA B n0 s0 (QM below args s D dA B n0 s0 vL) 73 [(0, vr l0), (2, vl l2), (4, vi l4), (5, vi l5), (6, vi l6), (7, vi l7), (8, vi l8), (9, vi l9)] [] h (M_rowOf_73 N re17 re57 l0 l2 l4 l5 l6 l7 l8 l9 h) := by
  unfold M_rowOf_73
  refine j_iload d_M_rowOf_73 6 rfl ?_
  refine j_iload d_M_rowOf_75 4 rfl ?_
  refine j_iload d_M_rowOf_77 7 rfl ?_
  refine j_ishr d_M_rowOf_79 ?_
  refine j_iconst (v := 1) d_M_rowOf_80 (by decide) ?_
  refine j_iand d_M_rowOf_81 ?_
  refine j_iconst (v := 1) d_M_rowOf_82 (by decide) ?_
  refine j_icmp_ne (tgt := 90) d_M_rowOf_83 (by decide) ?_ ?_
  · refine j_iconst (v := 0) d_M_rowOf_86 (by decide) ?_
    refine j_goto (tgt := 91) d_M_rowOf_87 (by decide) ?_
    exact J.sub [0, 1, 2, 3, 4, 5, 7] rfl (jc_M_rowOf_91 N re17 re57 hre17 hre57 l0 l2 l4 l5 l6 l7 l9 l8 0 h)
  · refine j_iconst (v := 1) d_M_rowOf_90 (by decide) ?_
    exact J.sub [0, 1, 2, 3, 4, 5, 7] rfl (jc_M_rowOf_91 N re17 re57 hre17 hre57 l0 l2 l4 l5 l6 l7 l9 l8 1 h)
set_option maxRecDepth 20000 in
theorem jc_M_rowOf_57 (N : Nat) (re17 : Option Nat → Int64 → Int32 → Int32 → Int32 → Int32 → Hp → Option (Int64 × Hp)) (hre17 : ∀ y0 y1 y2 y3 y4 y5 h, J p l e R s m args below meth c prog_15_method_11_code 10 "RingingChamberModel" 1 22 (some .long) "rowOf" D dA B n0 s0 (QM below args s D dA B n0 s0 vL) 17 [(0, vr y0), (2, vl y1), (4, vi y2), (5, vi y3), (6, vi y4), (7, vi y5)] [] h (re17 y0 y1 y2 y3 y4 y5 h)) : ∀ (n : Nat) (l0 : Option Nat) (l2 : Int64) (l4 : Int32) (l5 : Int32) (l6 : Int32) (l7 : Int32) (l8 : Int32) (l9 : Int32) (h : Hp), J p l e R s m args below meth c prog_15_method_11_code 10 "RingingChamberModel" 1 22 (some .long) "rowOf" D dA B n0 s0 (QM below args s D dA B n0 s0 vL) 57 [(0, vr l0), (2, vl l2), (4, vi l4), (5, vi l5), (6, vi l6), (7, vi l7), (8, vi l8), (9, vi l9)] [] h (M_rowOf_57 N re17 n l0 l2 l4 l5 l6 l7 l8 l9 h) := by
  intro n
  induction n with
  | zero => intros; exact J.none
  | succ n ih =>
    intro l0 l2 l4 l5 l6 l7 l8 l9 h
    rw [M_rowOf_57]
    refine j_iload d_M_rowOf_57 4 rfl ?_
    refine j_iload d_M_rowOf_59 7 rfl ?_
    refine j_ishr d_M_rowOf_61 ?_
    refine j_iconst (v := 1) d_M_rowOf_62 (by decide) ?_
    refine j_iand d_M_rowOf_63 ?_
    refine j_iconst (v := 1) d_M_rowOf_64 (by decide) ?_
    refine j_icmp_eq (tgt := 73) d_M_rowOf_65 (by decide) ?_ ?_
    · exact jc_M_rowOf_73 N re17 (M_rowOf_57 N re17 n) hre17 ih l0 l2 l4 l5 l6 l7 l8 l9 h
    · refine j_iload d_M_rowOf_68 6 rfl ?_
      refine j_if_le (tgt := 100) d_M_rowOf_70 (by decide) ?_ ?_
      · refine j_iload d_M_rowOf_100 4 rfl ?_
        refine j_iconst (v := 1) d_M_rowOf_102 (by decide) ?_
        refine j_iload d_M_rowOf_103 7 rfl ?_
        refine j_ishl d_M_rowOf_105 ?_
        refine j_ior d_M_rowOf_106 ?_
        refine j_nmi (fun x1 => ?_)
        refine j_istore (lv' := [(6, vi x1), (0, vr l0), (2, vl l2), (4, vi l4), (5, vi l5), (7, vi l7), (8, vi l8), (9, vi l9)]) d_M_rowOf_107 (by decide) rfl ?_
        refine j_lload_n d_M_rowOf_109 2 rfl rfl ?_
        refine j_iload d_M_rowOf_110 7 rfl ?_
        refine j_i2l d_M_rowOf_112 ?_
        refine j_iconst (v := 4) d_M_rowOf_113 (by decide) ?_
        refine j_iload d_M_rowOf_114 5 rfl ?_
        refine j_iconst (v := 1) d_M_rowOf_116 (by decide) ?_
        refine j_isub d_M_rowOf_117 ?_
        refine j_imul d_M_rowOf_118 ?_
        refine j_lshl d_M_rowOf_119 ?_
        refine j_ladd d_M_rowOf_120 ?_
        refine j_nml (fun x2 => ?_)
        refine j_lstore_n (lv' := [(2, vl x2), (6, vi x1), (0, vr l0), (4, vi l4), (5, vi l5), (7, vi l7), (8, vi l8), (9, vi l9)]) d_M_rowOf_121 rfl (by decide) rfl ?_
        refine j_iinc (lvv := fun x3 => [(7, vi x3), (2, vl x2), (6, vi x1), (0, vr l0), (4, vi l4), (5, vi l5), (8, vi l8), (9, vi l9)]) d_M_rowOf_122 5 rfl rfl (by decide) (fun _ => rfl) (fun x3 => ?_)
        refine j_goto (tgt := 17) d_M_rowOf_125 (by decide) ?_
        exact J.sub [3, 1, 4, 5, 2, 0] rfl (hre17 l0 x2 l4 l5 x1 x3 h)
      · exact jc_M_rowOf_73 N re17 (M_rowOf_57 N re17 n) hre17 ih l0 l2 l4 l5 l6 l7 l8 l9 h
set_option maxRecDepth 20000 in
theorem jc_M_rowOf_17 (N : Nat) : ∀ (n : Nat) (l0 : Option Nat) (l2 : Int64) (l4 : Int32) (l5 : Int32) (l6 : Int32) (l7 : Int32) (h : Hp), J p l e R s m args below meth c prog_15_method_11_code 10 "RingingChamberModel" 1 22 (some .long) "rowOf" D dA B n0 s0 (QM below args s D dA B n0 s0 vL) 17 [(0, vr l0), (2, vl l2), (4, vi l4), (5, vi l5), (6, vi l6), (7, vi l7)] [] h (M_rowOf_17 N n l0 l2 l4 l5 l6 l7 h) := by
  intro n
  induction n with
  | zero => intros; exact J.none
  | succ n ih =>
    intro l0 l2 l4 l5 l6 l7 h
    rw [M_rowOf_17]
    refine j_iload d_M_rowOf_17 5 rfl ?_
    refine j_aload_n d_M_rowOf_19 0 rfl rfl ?_
    refine j_getI d_M_rowOf_20 fl_12_105.r (fun x1 => ?_)
    refine j_icmp_gt (tgt := 128) d_M_rowOf_23 (by decide) ?_ ?_
    · refine j_lload_n d_M_rowOf_128 1 rfl rfl ?_
      exact j_retL d_M_rowOf_129
    · refine j_iload d_M_rowOf_26 3 rfl ?_
      refine j_aload_n d_M_rowOf_28 0 rfl rfl ?_
      refine j_getI d_M_rowOf_29 fl_12_105.r (fun x2 => ?_)
      refine j_iload d_M_rowOf_32 5 rfl ?_
      refine j_isub d_M_rowOf_34 ?_
      refine j_iconst (v := 1) d_M_rowOf_35 (by decide) ?_
      refine j_iadd d_M_rowOf_36 ?_
      refine j_idiv d_M_rowOf_37 ?_
      refine j_nmi (fun x3 => ?_)
      refine j_istore (lv' := [(5, vi x3), (0, vr l0), (2, vl l2), (4, vi l4), (6, vi l6), (7, vi l7)]) d_M_rowOf_38 (by decide) rfl ?_
      refine j_iload d_M_rowOf_40 3 rfl ?_
      refine j_iload d_M_rowOf_42 0 rfl ?_
      refine j_idiv d_M_rowOf_44 ?_
      refine j_nmi (fun x4 => ?_)
      refine j_istore (lv' := [(8, vi x4), (5, vi x3), (0, vr l0), (2, vl l2), (4, vi l4), (6, vi l6), (7, vi l7)]) d_M_rowOf_45 (by decide) rfl ?_
      refine j_iload d_M_rowOf_47 4 rfl ?_
      refine j_iload d_M_rowOf_49 1 rfl ?_
      refine j_irem d_M_rowOf_51 ?_
      refine j_nmi (fun x5 => ?_)
      refine j_istore (lv' := [(4, vi x5), (8, vi x4), (5, vi x3), (0, vr l0), (2, vl l2), (6, vi l6), (7, vi l7)]) d_M_rowOf_52 (by decide) rfl ?_
      refine j_iconst (v := 1) d_M_rowOf_54 (by decide) ?_
      refine j_istore (lv' := [(9, vi 1), (4, vi x5), (8, vi x4), (5, vi x3), (0, vr l0), (2, vl l2), (6, vi l6), (7, vi l7)]) d_M_rowOf_55 (by decide) rfl ?_
      exact J.sub [4, 5, 1, 3, 6, 7, 2, 0] rfl (jc_M_rowOf_57 N (M_rowOf_17 N n) ih N l0 l2 x5 x3 l6 l7 x4 1 h)
set_option maxRecDepth 20000 in
theorem jc_M_rowOf (N : Nat) (l0 : Option Nat) (l1 : Int32) (h : Hp) : J p l e R s m args below meth c prog_15_method_11_code 10 "RingingChamberModel" 1 22 (some .long) "rowOf" D dA B n0 s0 (QM below args s D dA B n0 s0 vL) 0 [(0, vr l0), (1, vi l1)] [] h (M_rowOf N l0 l1 h) := by
  unfold M_rowOf
  refine j_lconst (v := 0) d_M_rowOf_0 (by decide) ?_
  refine j_lstore_n (lv' := [(2, vl 0), (0, vr l0), (1, vi l1)]) d_M_rowOf_1 rfl (by decide) rfl ?_
  refine j_iload_n d_M_rowOf_2 2 rfl rfl ?_
  refine j_istore (lv' := [(4, vi l1), (2, vl 0), (0, vr l0), (1, vi l1)]) d_M_rowOf_3 (by decide) rfl ?_
  refine j_aload_n d_M_rowOf_5 2 rfl rfl ?_
  refine j_vI0 d_M_rowOf_6 (allQ.cons (VD.mk vt_12_161_12 (ct_M_all N l D dA B l0 h) (by decide) (by decide)) allQ.nil) (Nat.le_of_ble_eq_true rfl) (fun x2 h1 => ?_)
  refine j_istore (lv' := [(5, vi x2), (4, vi l1), (2, vl 0), (0, vr l0), (1, vi l1)]) d_M_rowOf_9 (by decide) rfl ?_
  refine j_iconst (v := 0) d_M_rowOf_11 (by decide) ?_
  refine j_istore (lv' := [(6, vi 0), (5, vi x2), (4, vi l1), (2, vl 0), (0, vr l0), (1, vi l1)]) d_M_rowOf_12 (by decide) rfl ?_
  refine j_iconst (v := 1) d_M_rowOf_14 (by decide) ?_
  refine j_istore (lv' := [(7, vi 1), (6, vi 0), (5, vi x2), (4, vi l1), (2, vl 0), (0, vr l0), (1, vi l1)]) d_M_rowOf_15 (by decide) rfl ?_
  exact J.sub [5, 4, 3, 2, 1, 0] rfl (jc_M_rowOf_17 N N l0 0 l1 x2 0 1 h1)
set_option maxRecDepth 20000 in
theorem ct_M_rowOf (N : Nat) (l : Launch) (D : va_G) (dA : Nat → ClassId) (B : Nat) (l0 : Option Nat) (l1 : Int32) (h : Hp) : Ct l (⟨"RingingChamberModel", "rowOf", "(I)J"⟩ : MethodName) prog_15_method_11_code 10 (some .long) 1 22 D dA B [vr l0, vi l1] h vL (M_rowOf N l0 l1 h) :=
  Ct.of2 (own := "RingingChamberModel") (nme := "rowOf") (lv := [(0, vr l0), (1, vi l1)]) rfl rfl (by decide) (Nat.le_of_ble_eq_true rfl) rfl (fun p e R s m args below meth c => jc_M_rowOf N l0 l1 h)
theorem d_M_times_0 : decode prog_15_method_12_code 0 = .ok (.lconst 0, 1) := by decide +kernel
theorem d_M_times_1 : decode prog_15_method_12_code 1 = .ok (.lstore 5, 2) := by decide +kernel
theorem d_M_times_3 : decode prog_15_method_12_code 3 = .ok (.iconst 1, 1) := by decide +kernel
theorem d_M_times_4 : decode prog_15_method_12_code 4 = .ok (.istore 7, 2) := by decide +kernel
theorem d_M_times_6 : decode prog_15_method_12_code 6 = .ok (.iload 7, 2) := by decide +kernel
theorem d_M_times_8 : decode prog_15_method_12_code 8 = .ok (.aload_n 0, 1) := by decide +kernel
theorem d_M_times_9 : decode prog_15_method_12_code 9 = .ok (.getfield 105, 3) := by decide +kernel
theorem d_M_times_12 : decode prog_15_method_12_code 12 = .ok (.if_icmp .gt 32, 3) := by decide +kernel
theorem d_M_times_15 : decode prog_15_method_12_code 15 = .ok (.lload 5, 2) := by decide +kernel
theorem d_M_times_17 : decode prog_15_method_12_code 17 = .ok (.lload_n 1, 1) := by decide +kernel
theorem d_M_times_18 : decode prog_15_method_12_code 18 = .ok (.lload_n 3, 1) := by decide +kernel
theorem d_M_times_19 : decode prog_15_method_12_code 19 = .ok (.iload 7, 2) := by decide +kernel
theorem d_M_times_21 : decode prog_15_method_12_code 21 = .ok (.invokestatic 157, 3) := by decide +kernel
theorem d_M_times_24 : decode prog_15_method_12_code 24 = .ok (.invokestatic 157, 3) := by decide +kernel
theorem d_M_times_27 : decode prog_15_method_12_code 27 = .ok (.i2l, 1) := by decide +kernel
theorem d_M_times_28 : decode prog_15_method_12_code 28 = .ok (.iconst 4, 1) := by decide +kernel
theorem d_M_times_29 : decode prog_15_method_12_code 29 = .ok (.iload 7, 2) := by decide +kernel
theorem d_M_times_31 : decode prog_15_method_12_code 31 = .ok (.iconst 1, 1) := by decide +kernel
theorem d_M_times_32 : decode prog_15_method_12_code 32 = .ok (.isub, 1) := by decide +kernel
theorem d_M_times_33 : decode prog_15_method_12_code 33 = .ok (.imul, 1) := by decide +kernel
theorem d_M_times_34 : decode prog_15_method_12_code 34 = .ok (.lshl, 1) := by decide +kernel
theorem d_M_times_35 : decode prog_15_method_12_code 35 = .ok (.ladd, 1) := by decide +kernel
theorem d_M_times_36 : decode prog_15_method_12_code 36 = .ok (.lstore 5, 2) := by decide +kernel
theorem d_M_times_38 : decode prog_15_method_12_code 38 = .ok (.iinc 7 1, 3) := by decide +kernel
theorem d_M_times_41 : decode prog_15_method_12_code 41 = .ok (.goto (-35), 3) := by decide +kernel
theorem d_M_times_44 : decode prog_15_method_12_code 44 = .ok (.lload 5, 2) := by decide +kernel
theorem d_M_times_46 : decode prog_15_method_12_code 46 = .ok (.lreturn, 1) := by decide +kernel
set_option maxRecDepth 20000 in
theorem jc_M_times_6 (N : Nat) : ∀ (n : Nat) (l0 : Option Nat) (l1 : Int64) (l3 : Int64) (l5 : Int64) (l7 : Int32) (h : Hp), J p l e R s m args below meth c prog_15_method_12_code 8 "RingingChamberModel" 1 22 (some .long) "times" D dA B n0 s0 (QM below args s D dA B n0 s0 vL) 6 [(0, vr l0), (1, vl l1), (3, vl l3), (5, vl l5), (7, vi l7)] [] h (M_times_6 N n l0 l1 l3 l5 l7 h) := by
  intro n
  induction n with
  | zero => intros; exact J.none
  | succ n ih =>
    intro l0 l1 l3 l5 l7 h
    rw [M_times_6]
    refine j_iload d_M_times_6 4 rfl ?_
    refine j_aload_n d_M_times_8 0 rfl rfl ?_
    refine j_getI d_M_times_9 fl_12_105.r (fun x1 => ?_)
    refine j_icmp_gt (tgt := 44) d_M_times_12 (by decide) ?_ ?_
    · refine j_lload d_M_times_44 3 rfl ?_
      exact j_retL d_M_times_46
    · refine j_lload d_M_times_15 3 rfl ?_
      refine j_lload_n d_M_times_17 1 rfl rfl ?_
      refine j_lload_n d_M_times_18 2 rfl rfl ?_
      refine j_iload d_M_times_19 4 rfl ?_
      refine j_cSI2 d_M_times_21 sl_12_157 ks_M_bell (ct_M_bell N l D dA B l3 l7 h) (by decide) (by decide) (Nat.le_of_ble_eq_true rfl) (fun x3 h2 => ?_)
      refine j_cSI2 d_M_times_24 sl_12_157 ks_M_bell (ct_M_bell N l D dA B l1 x3 h2) (by decide) (by decide) (Nat.le_of_ble_eq_true rfl) (fun x5 h4 => ?_)
      refine j_i2l d_M_times_27 ?_
      refine j_iconst (v := 4) d_M_times_28 (by decide) ?_
      refine j_iload d_M_times_29 4 rfl ?_
      refine j_iconst (v := 1) d_M_times_31 (by decide) ?_
      refine j_isub d_M_times_32 ?_
      refine j_imul d_M_times_33 ?_
      refine j_lshl d_M_times_34 ?_
      refine j_ladd d_M_times_35 ?_
      refine j_nml (fun x6 => ?_)
      refine j_lstore (lv' := [(5, vl x6), (0, vr l0), (1, vl l1), (3, vl l3), (7, vi l7)]) d_M_times_36 (by decide) rfl ?_
      refine j_iinc (lvv := fun x7 => [(7, vi x7), (5, vl x6), (0, vr l0), (1, vl l1), (3, vl l3)]) d_M_times_38 4 rfl rfl (by decide) (fun _ => rfl) (fun x7 => ?_)
      refine j_goto (tgt := 6) d_M_times_41 (by decide) ?_
      exact J.sub [2, 3, 4, 1, 0] rfl (ih l0 l1 l3 x6 x7 h4)
set_option maxRecDepth 20000 in
theorem jc_M_times (N : Nat) (l0 : Option Nat) (l1 : Int64) (l3 : Int64) (h : Hp) : J p l e R s m args below meth c prog_15_method_12_code 8 "RingingChamberModel" 1 22 (some .long) "times" D dA B n0 s0 (QM below args s D dA B n0 s0 vL) 0 [(0, vr l0), (1, vl l1), (3, vl l3)] [] h (M_times N l0 l1 l3 h) := by
  unfold M_times
  refine j_lconst (v := 0) d_M_times_0 (by decide) ?_
  refine j_lstore (lv' := [(5, vl 0), (0, vr l0), (1, vl l1), (3, vl l3)]) d_M_times_1 (by decide) rfl ?_
  refine j_iconst (v := 1) d_M_times_3 (by decide) ?_
  refine j_istore (lv' := [(7, vi 1), (5, vl 0), (0, vr l0), (1, vl l1), (3, vl l3)]) d_M_times_4 (by decide) rfl ?_
  exact J.sub [2, 3, 4, 1, 0] rfl (jc_M_times_6 N N l0 l1 l3 0 1 h)
set_option maxRecDepth 20000 in
theorem ct_M_times (N : Nat) (l : Launch) (D : va_G) (dA : Nat → ClassId) (B : Nat) (l0 : Option Nat) (l1 : Int64) (l3 : Int64) (h : Hp) : Ct l (⟨"RingingChamberModel", "times", "(JJ)J"⟩ : MethodName) prog_15_method_12_code 8 (some .long) 1 22 D dA B [vr l0, vl l1, vl l3] h vL (M_times N l0 l1 l3 h) :=
  Ct.of2 (own := "RingingChamberModel") (nme := "times") (lv := [(0, vr l0), (1, vl l1), (3, vl l3)]) rfl rfl (by decide) (Nat.le_of_ble_eq_true rfl) rfl (fun p e R s m args below meth c => jc_M_times N l0 l1 l3 h)
end
