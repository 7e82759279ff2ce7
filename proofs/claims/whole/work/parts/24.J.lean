section
variable {p : Program} {l : Launch} {e : Env} {R : Room} {s : State} {m : MethodId} {args : Array Value} {below : List Frame} {meth : Method} {c : Code} {D : va_G} {dA : Nat → ClassId} {B n0 s0 : Nat}
theorem d_M_isPattern_0 : decode prog_15_method_13_code 0 = .ok (.lload_n 1, 1) := by decide +kernel
theorem d_M_isPattern_1 : decode prog_15_method_13_code 1 = .ok (.lconst 0, 1) := by decide +kernel
theorem d_M_isPattern_2 : decode prog_15_method_13_code 2 = .ok (.lcmp, 1) := by decide +kernel
theorem d_M_isPattern_3 : decode prog_15_method_13_code 3 = .ok (.ifCond .lt 16, 3) := by decide +kernel
theorem d_M_isPattern_6 : decode prog_15_method_13_code 6 = .ok (.lload_n 1, 1) := by decide +kernel
theorem d_M_isPattern_7 : decode prog_15_method_13_code 7 = .ok (.iconst 4, 1) := by decide +kernel
theorem d_M_isPattern_8 : decode prog_15_method_13_code 8 = .ok (.aload_n 0, 1) := by decide +kernel
theorem d_M_isPattern_9 : decode prog_15_method_13_code 9 = .ok (.getfield 105, 3) := by decide +kernel
theorem d_M_isPattern_12 : decode prog_15_method_13_code 12 = .ok (.imul, 1) := by decide +kernel
theorem d_M_isPattern_13 : decode prog_15_method_13_code 13 = .ok (.lshr, 1) := by decide +kernel
theorem d_M_isPattern_14 : decode prog_15_method_13_code 14 = .ok (.lconst 0, 1) := by decide +kernel
theorem d_M_isPattern_15 : decode prog_15_method_13_code 15 = .ok (.lcmp, 1) := by decide +kernel
theorem d_M_isPattern_16 : decode prog_15_method_13_code 16 = .ok (.ifCond .eq 5, 3) := by decide +kernel
theorem d_M_isPattern_19 : decode prog_15_method_13_code 19 = .ok (.iconst 0, 1) := by decide +kernel
theorem d_M_isPattern_20 : decode prog_15_method_13_code 20 = .ok (.ireturn, 1) := by decide +kernel
theorem d_M_isPattern_21 : decode prog_15_method_13_code 21 = .ok (.iconst 1, 1) := by decide +kernel
theorem d_M_isPattern_22 : decode prog_15_method_13_code 22 = .ok (.istore_n 3, 1) := by decide +kernel
theorem d_M_isPattern_23 : decode prog_15_method_13_code 23 = .ok (.iload_n 3, 1) := by decide +kernel
theorem d_M_isPattern_24 : decode prog_15_method_13_code 24 = .ok (.aload_n 0, 1) := by decide +kernel
theorem d_M_isPattern_25 : decode prog_15_method_13_code 25 = .ok (.getfield 105, 3) := by decide +kernel
theorem d_M_isPattern_28 : decode prog_15_method_13_code 28 = .ok (.if_icmp .gt 23, 3) := by decide +kernel
theorem d_M_isPattern_31 : decode prog_15_method_13_code 31 = .ok (.lload_n 1, 1) := by decide +kernel
theorem d_M_isPattern_32 : decode prog_15_method_13_code 32 = .ok (.iload_n 3, 1) := by decide +kernel
theorem d_M_isPattern_33 : decode prog_15_method_13_code 33 = .ok (.invokestatic 157, 3) := by decide +kernel
theorem d_M_isPattern_36 : decode prog_15_method_13_code 36 = .ok (.aload_n 0, 1) := by decide +kernel
theorem d_M_isPattern_37 : decode prog_15_method_13_code 37 = .ok (.getfield 105, 3) := by decide +kernel
theorem d_M_isPattern_40 : decode prog_15_method_13_code 40 = .ok (.if_icmp .le 5, 3) := by decide +kernel
theorem d_M_isPattern_43 : decode prog_15_method_13_code 43 = .ok (.iconst 0, 1) := by decide +kernel
theorem d_M_isPattern_44 : decode prog_15_method_13_code 44 = .ok (.ireturn, 1) := by decide +kernel
theorem d_M_isPattern_45 : decode prog_15_method_13_code 45 = .ok (.iinc 3 1, 3) := by decide +kernel
theorem d_M_isPattern_48 : decode prog_15_method_13_code 48 = .ok (.goto (-25), 3) := by decide +kernel
theorem d_M_isPattern_51 : decode prog_15_method_13_code 51 = .ok (.iconst 1, 1) := by decide +kernel
theorem d_M_isPattern_52 : decode prog_15_method_13_code 52 = .ok (.ireturn, 1) := by decide +kernel
set_option maxRecDepth 20000 in
theorem jc_M_isPattern_23 (N : Nat) : ∀ (n : Nat) (l0 : Option Nat) (l1 : Int64) (l3 : Int32) (h : Hp), J p l e R s m args below meth c prog_15_method_13_code 4 "RingingChamberModel" 1 22 (some .boolean) "isPattern" D dA B n0 s0 (QM below args s D dA B n0 s0 vI) 23 [(0, vr l0), (1, vl l1), (3, vi l3)] [] h (M_isPattern_23 N n l0 l1 l3 h) := by
  intro n
  induction n with
  | zero => intros; exact J.none
  | succ n ih =>
    intro l0 l1 l3 h
    rw [M_isPattern_23]
    refine j_iload_n d_M_isPattern_23 2 rfl rfl ?_
    refine j_aload_n d_M_isPattern_24 0 rfl rfl ?_
    refine j_getI d_M_isPattern_25 fl_12_105.r (fun x1 => ?_)
    refine j_icmp_gt (tgt := 51) d_M_isPattern_28 (by decide) ?_ ?_
    · refine j_iconst (v := 1) d_M_isPattern_51 (by decide) ?_
      exact j_retZ d_M_isPattern_52
    · refine j_lload_n d_M_isPattern_31 1 rfl rfl ?_
      refine j_iload_n d_M_isPattern_32 2 rfl rfl ?_
      refine j_cSI2 d_M_isPattern_33 sl_12_157 ks_M_bell (ct_M_bell N l D dA B l1 l3 h) (by decide) (by decide) (Nat.le_of_ble_eq_true rfl) (fun x3 h2 => ?_)
      refine j_aload_n d_M_isPattern_36 0 rfl rfl ?_
      refine j_getI d_M_isPattern_37 fl_12_105.r (fun x4 => ?_)
      refine j_icmp_le (tgt := 45) d_M_isPattern_40 (by decide) ?_ ?_
      · refine j_iinc (lvv := fun x5 => [(3, vi x5), (0, vr l0), (1, vl l1)]) d_M_isPattern_45 2 rfl rfl (by decide) (fun _ => rfl) (fun x5 => ?_)
        refine j_goto (tgt := 23) d_M_isPattern_48 (by decide) ?_
        exact J.sub [1, 2, 0] rfl (ih l0 l1 x5 h2)
      · refine j_iconst (v := 0) d_M_isPattern_43 (by decide) ?_
        exact j_retZ d_M_isPattern_44
set_option maxRecDepth 20000 in
theorem jc_M_isPattern (N : Nat) (l0 : Option Nat) (l1 : Int64) (h : Hp) : J p l e R s m args below meth c prog_15_method_13_code 4 "RingingChamberModel" 1 22 (some .boolean) "isPattern" D dA B n0 s0 (QM below args s D dA B n0 s0 vI) 0 [(0, vr l0), (1, vl l1)] [] h (M_isPattern N l0 l1 h) := by
  unfold M_isPattern
  refine j_lload_n d_M_isPattern_0 1 rfl rfl ?_
  refine j_lconst (v := 0) d_M_isPattern_1 (by decide) ?_
  refine j_lcmp d_M_isPattern_2 ?_
  refine j_if_lt (tgt := 19) d_M_isPattern_3 (by decide) ?_ ?_
  · refine j_iconst (v := 0) d_M_isPattern_19 (by decide) ?_
    exact j_retZ d_M_isPattern_20
  · refine j_lload_n d_M_isPattern_6 1 rfl rfl ?_
    refine j_iconst (v := 4) d_M_isPattern_7 (by decide) ?_
    refine j_aload_n d_M_isPattern_8 0 rfl rfl ?_
    refine j_getI d_M_isPattern_9 fl_12_105.r (fun x1 => ?_)
    refine j_imul d_M_isPattern_12 ?_
    refine j_lshr d_M_isPattern_13 ?_
    refine j_lconst (v := 0) d_M_isPattern_14 (by decide) ?_
    refine j_lcmp d_M_isPattern_15 ?_
    refine j_if_eq (tgt := 21) d_M_isPattern_16 (by decide) ?_ ?_
    · refine j_iconst (v := 1) d_M_isPattern_21 (by decide) ?_
      refine j_istore_n (lv' := [(3, vi 1), (0, vr l0), (1, vl l1)]) d_M_isPattern_22 rfl (by decide) rfl ?_
      exact J.sub [1, 2, 0] rfl (jc_M_isPattern_23 N N l0 l1 1 h)
    · refine j_iconst (v := 0) d_M_isPattern_19 (by decide) ?_
      exact j_retZ d_M_isPattern_20
set_option maxRecDepth 20000 in
theorem ct_M_isPattern (N : Nat) (l : Launch) (D : va_G) (dA : Nat → ClassId) (B : Nat) (l0 : Option Nat) (l1 : Int64) (h : Hp) : Ct l (⟨"RingingChamberModel", "isPattern", "(J)Z"⟩ : MethodName) prog_15_method_13_code 4 (some .boolean) 1 22 D dA B [vr l0, vl l1] h vI (M_isPattern N l0 l1 h) :=
  Ct.of2 (own := "RingingChamberModel") (nme := "isPattern") (lv := [(0, vr l0), (1, vl l1)]) rfl rfl (by decide) (Nat.le_of_ble_eq_true rfl) rfl (fun p e R s m args below meth c => jc_M_isPattern N l0 l1 h)
theorem d_M_isFitting_0 : decode prog_15_method_14_code 0 = .ok (.iconst 1, 1) := by decide +kernel
theorem d_M_isFitting_1 : decode prog_15_method_14_code 1 = .ok (.istore 5, 2) := by decide +kernel
theorem d_M_isFitting_3 : decode prog_15_method_14_code 3 = .ok (.iload 5, 2) := by decide +kernel
theorem d_M_isFitting_5 : decode prog_15_method_14_code 5 = .ok (.aload_n 0, 1) := by decide +kernel
theorem d_M_isFitting_6 : decode prog_15_method_14_code 6 = .ok (.getfield 105, 3) := by decide +kernel
theorem d_M_isFitting_9 : decode prog_15_method_14_code 9 = .ok (.if_icmp .gt 35, 3) := by decide +kernel
theorem d_M_isFitting_12 : decode prog_15_method_14_code 12 = .ok (.lload_n 3, 1) := by decide +kernel
theorem d_M_isFitting_13 : decode prog_15_method_14_code 13 = .ok (.iload 5, 2) := by decide +kernel
theorem d_M_isFitting_15 : decode prog_15_method_14_code 15 = .ok (.invokestatic 157, 3) := by decide +kernel
theorem d_M_isFitting_18 : decode prog_15_method_14_code 18 = .ok (.ifCond .eq 20, 3) := by decide +kernel
theorem d_M_isFitting_21 : decode prog_15_method_14_code 21 = .ok (.lload_n 3, 1) := by decide +kernel
theorem d_M_isFitting_22 : decode prog_15_method_14_code 22 = .ok (.iload 5, 2) := by decide +kernel
theorem d_M_isFitting_24 : decode prog_15_method_14_code 24 = .ok (.invokestatic 157, 3) := by decide +kernel
theorem d_M_isFitting_27 : decode prog_15_method_14_code 27 = .ok (.lload_n 1, 1) := by decide +kernel
theorem d_M_isFitting_28 : decode prog_15_method_14_code 28 = .ok (.iload 5, 2) := by decide +kernel
theorem d_M_isFitting_30 : decode prog_15_method_14_code 30 = .ok (.invokestatic 157, 3) := by decide +kernel
theorem d_M_isFitting_33 : decode prog_15_method_14_code 33 = .ok (.if_icmp .eq 5, 3) := by decide +kernel
theorem d_M_isFitting_36 : decode prog_15_method_14_code 36 = .ok (.iconst 0, 1) := by decide +kernel
theorem d_M_isFitting_37 : decode prog_15_method_14_code 37 = .ok (.ireturn, 1) := by decide +kernel
theorem d_M_isFitting_38 : decode prog_15_method_14_code 38 = .ok (.iinc 5 1, 3) := by decide +kernel
theorem d_M_isFitting_41 : decode prog_15_method_14_code 41 = .ok (.goto (-38), 3) := by decide +kernel
theorem d_M_isFitting_44 : decode prog_15_method_14_code 44 = .ok (.iconst 1, 1) := by decide +kernel
theorem d_M_isFitting_45 : decode prog_15_method_14_code 45 = .ok (.ireturn, 1) := by decide +kernel
set_option maxRecDepth 20000 in
theorem jc_M_isFitting_38 (N : Nat) (re3 : Option Nat → Int64 → Int64 → Int32 → Hp → Option (Int32 × Hp)) (hre3 : ∀ y0 y1 y2 y3 h, J p l e R s m args below meth c prog_15_method_14_code 6 "RingingChamberModel" 1 22 (some .boolean) "isFitting" D dA B n0 s0 (QM below args s D dA B n0 s0 vI) 3 [(0, vr y0), (1, vl y1), (3, vl y2), (5, vi y3)] [] h (re3 y0 y1 y2 y3 h)) (l0 : Option Nat) (l1 : Int64) (l3 : Int64) (l5 : Int32) (h : Hp) : J p l e R s m args below meth c prog_15_method_14_code 6 "RingingChamberModel" 1 22 (some .boolean) "isFitting" D dA B n0 s0 (QM below args s D dA B n0 s0 vI) 38 [(0, vr l0), (1, vl l1), (3, vl l3), (5, vi l5)] [] h (M_isFitting_38 N re3 l0 l1 l3 l5 h) := by
  unfold M_isFitting_38
  refine j_iinc (lvv := fun x1 => [(5, vi x1), (0, vr l0), (1, vl l1), (3, vl l3)]) d_M_isFitting_38 3 rfl rfl (by decide) (fun _ => rfl) (fun x1 => ?_)
  refine j_goto (tgt := 3) d_M_isFitting_41 (by decide) ?_
  exact J.sub [1, 2, 3, 0] rfl (hre3 l0 l1 l3 x1 h)
set_option maxRecDepth 20000 in
theorem jc_M_isFitting_3 (N : Nat) : ∀ (n : Nat) (l0 : Option Nat) (l1 : Int64) (l3 : Int64) (l5 : Int32) (h : Hp), J p l e R s m args below meth c prog_15_method_14_code 6 "RingingChamberModel" 1 22 (some .boolean) "isFitting" D dA B n0 s0 (QM below args s D dA B n0 s0 vI) 3 [(0, vr l0), (1, vl l1), (3, vl l3), (5, vi l5)] [] h (M_isFitting_3 N n l0 l1 l3 l5 h) := by
  intro n
  induction n with
  | zero => intros; exact J.none
  | succ n ih =>
    intro l0 l1 l3 l5 h
    rw [M_isFitting_3]
    refine j_iload d_M_isFitting_3 3 rfl ?_
    refine j_aload_n d_M_isFitting_5 0 rfl rfl ?_
    refine j_getI d_M_isFitting_6 fl_12_105.r (fun x1 => ?_)
    refine j_icmp_gt (tgt := 44) d_M_isFitting_9 (by decide) ?_ ?_
    · refine j_iconst (v := 1) d_M_isFitting_44 (by decide) ?_
      exact j_retZ d_M_isFitting_45
    · refine j_lload_n d_M_isFitting_12 2 rfl rfl ?_
      refine j_iload d_M_isFitting_13 3 rfl ?_
      refine j_cSI2 d_M_isFitting_15 sl_12_157 ks_M_bell (ct_M_bell N l D dA B l3 l5 h) (by decide) (by decide) (Nat.le_of_ble_eq_true rfl) (fun x3 h2 => ?_)
      refine j_if_eq (tgt := 38) d_M_isFitting_18 (by decide) ?_ ?_
      · exact jc_M_isFitting_38 N (M_isFitting_3 N n) ih l0 l1 l3 l5 h2
      · refine j_lload_n d_M_isFitting_21 2 rfl rfl ?_
        refine j_iload d_M_isFitting_22 3 rfl ?_
        refine j_cSI2 d_M_isFitting_24 sl_12_157 ks_M_bell (ct_M_bell N l D dA B l3 l5 h2) (by decide) (by decide) (Nat.le_of_ble_eq_true rfl) (fun x5 h4 => ?_)
        refine j_lload_n d_M_isFitting_27 1 rfl rfl ?_
        refine j_iload d_M_isFitting_28 3 rfl ?_
        refine j_cSI2 d_M_isFitting_30 sl_12_157 ks_M_bell (ct_M_bell N l D dA B l1 l5 h4) (by decide) (by decide) (Nat.le_of_ble_eq_true rfl) (fun x7 h6 => ?_)
        refine j_icmp_eq (tgt := 38) d_M_isFitting_33 (by decide) ?_ ?_
        · exact jc_M_isFitting_38 N (M_isFitting_3 N n) ih l0 l1 l3 l5 h6
        · refine j_iconst (v := 0) d_M_isFitting_36 (by decide) ?_
          exact j_retZ d_M_isFitting_37
set_option maxRecDepth 20000 in
theorem jc_M_isFitting (N : Nat) (l0 : Option Nat) (l1 : Int64) (l3 : Int64) (h : Hp) : J p l e R s m args below meth c prog_15_method_14_code 6 "RingingChamberModel" 1 22 (some .boolean) "isFitting" D dA B n0 s0 (QM below args s D dA B n0 s0 vI) 0 [(0, vr l0), (1, vl l1), (3, vl l3)] [] h (M_isFitting N l0 l1 l3 h) := by
  unfold M_isFitting
  refine j_iconst (v := 1) d_M_isFitting_0 (by decide) ?_
  refine j_istore (lv' := [(5, vi 1), (0, vr l0), (1, vl l1), (3, vl l3)]) d_M_isFitting_1 (by decide) rfl ?_
  exact J.sub [1, 2, 3, 0] rfl (jc_M_isFitting_3 N N l0 l1 l3 1 h)
set_option maxRecDepth 20000 in
theorem ct_M_isFitting (N : Nat) (l : Launch) (D : va_G) (dA : Nat → ClassId) (B : Nat) (l0 : Option Nat) (l1 : Int64) (l3 : Int64) (h : Hp) : Ct l (⟨"RingingChamberModel", "isFitting", "(JJ)Z"⟩ : MethodName) prog_15_method_14_code 6 (some .boolean) 1 22 D dA B [vr l0, vl l1, vl l3] h vI (M_isFitting N l0 l1 l3 h) :=
  Ct.of2 (own := "RingingChamberModel") (nme := "isFitting") (lv := [(0, vr l0), (1, vl l1), (3, vl l3)]) rfl rfl (by decide) (Nat.le_of_ble_eq_true rfl) rfl (fun p e R s m args below meth c => jc_M_isFitting N l0 l1 l3 h)
theorem d_M_finds_0 : decode prog_15_method_15_code 0 = .ok (.aload_n 0, 1) := by decide +kernel
theorem d_M_finds_1 : decode prog_15_method_15_code 1 = .ok (.iload_n 1, 1) := by decide +kernel
theorem d_M_finds_2 : decode prog_15_method_15_code 2 = .ok (.putfield 165, 3) := by decide +kernel
theorem d_M_finds_5 : decode prog_15_method_15_code 5 = .ok (.iload_n 1, 1) := by decide +kernel
theorem d_M_finds_6 : decode prog_15_method_15_code 6 = .ok (.ifCond .eq 7, 3) := by decide +kernel
theorem d_M_finds_9 : decode prog_15_method_15_code 9 = .ok (.iconst 1, 1) := by decide +kernel
theorem d_M_finds_10 : decode prog_15_method_15_code 10 = .ok (.goto 4, 3) := by decide +kernel
theorem d_M_finds_13 : decode prog_15_method_15_code 13 = .ok (.iconst 0, 1) := by decide +kernel
theorem d_M_finds_14 : decode prog_15_method_15_code 14 = .ok (.ireturn, 1) := by decide +kernel
set_option maxRecDepth 20000 in
theorem jc_M_finds (N : Nat) (l0 : Option Nat) (l1 : Int32) (h : Hp) : J p l e R s m args below meth c prog_15_method_15_code 2 "RingingChamberModel" 0 0 (some .boolean) "finds" D dA B n0 s0 (QM below args s D dA B n0 s0 vI) 0 [(0, vr l0), (1, vi l1)] [] h (M_finds N l0 l1 h) := by
  unfold M_finds
  refine j_aload_n d_M_finds_0 0 rfl rfl ?_
  refine j_iload_n d_M_finds_1 1 rfl rfl ?_
  refine j_putI d_M_finds_2 fl_12_165 (Or.inl rfl) (fun h1 => ?_)
  refine j_iload_n d_M_finds_5 1 rfl rfl ?_
  refine j_if_eq (tgt := 13) d_M_finds_6 (by decide) ?_ ?_
  · refine j_iconst (v := 0) d_M_finds_13 (by decide) ?_
    exact j_retZ d_M_finds_14
  · refine j_iconst (v := 1) d_M_finds_9 (by decide) ?_
    refine j_goto (tgt := 14) d_M_finds_10 (by decide) ?_
    exact j_retZ d_M_finds_14
set_option maxRecDepth 20000 in
theorem ct_M_finds (N : Nat) (l : Launch) (D : va_G) (dA : Nat → ClassId) (B : Nat) (l0 : Option Nat) (l1 : Int32) (h : Hp) : Ct l (⟨"RingingChamberModel", "finds", "(I)Z"⟩ : MethodName) prog_15_method_15_code 2 (some .boolean) 0 0 D dA B [vr l0, vi l1] h vI (M_finds N l0 l1 h) :=
  Ct.of2 (own := "RingingChamberModel") (nme := "finds") (lv := [(0, vr l0), (1, vi l1)]) rfl rfl (by decide) (Nat.le_of_ble_eq_true rfl) rfl (fun p e R s m args below meth c => jc_M_finds N l0 l1 h)
theorem d_M_isMethod_0 : decode prog_15_method_16_code 0 = .ok (.iload_n 1, 1) := by decide +kernel
theorem d_M_isMethod_1 : decode prog_15_method_16_code 1 = .ok (.ifCond .lt 15, 3) := by decide +kernel
theorem d_M_isMethod_4 : decode prog_15_method_16_code 4 = .ok (.iload_n 1, 1) := by decide +kernel
theorem d_M_isMethod_5 : decode prog_15_method_16_code 5 = .ok (.aload_n 0, 1) := by decide +kernel
theorem d_M_isMethod_6 : decode prog_15_method_16_code 6 = .ok (.getfield 109, 3) := by decide +kernel
theorem d_M_isMethod_9 : decode prog_15_method_16_code 9 = .ok (.if_icmp .ge 7, 3) := by decide +kernel
theorem d_M_isMethod_12 : decode prog_15_method_16_code 12 = .ok (.iconst 1, 1) := by decide +kernel
theorem d_M_isMethod_13 : decode prog_15_method_16_code 13 = .ok (.goto 4, 3) := by decide +kernel
theorem d_M_isMethod_16 : decode prog_15_method_16_code 16 = .ok (.iconst 0, 1) := by decide +kernel
theorem d_M_isMethod_17 : decode prog_15_method_16_code 17 = .ok (.ireturn, 1) := by decide +kernel
set_option maxRecDepth 20000 in
theorem jc_M_isMethod (N : Nat) (l0 : Option Nat) (l1 : Int32) (h : Hp) : J p l e R s m args below meth c prog_15_method_16_code 2 "RingingChamberModel" 0 0 (some .boolean) "isMethod" D dA B n0 s0 (QM below args s D dA B n0 s0 vI) 0 [(0, vr l0), (1, vi l1)] [] h (M_isMethod N l0 l1 h) := by
  unfold M_isMethod
  refine j_iload_n d_M_isMethod_0 1 rfl rfl ?_
  refine j_if_lt (tgt := 16) d_M_isMethod_1 (by decide) ?_ ?_
  · refine j_iconst (v := 0) d_M_isMethod_16 (by decide) ?_
    exact j_retZ d_M_isMethod_17
  · refine j_iload_n d_M_isMethod_4 1 rfl rfl ?_
    refine j_aload_n d_M_isMethod_5 0 rfl rfl ?_
    refine j_getI d_M_isMethod_6 fl_12_109.r (fun x1 => ?_)
    refine j_icmp_ge (tgt := 16) d_M_isMethod_9 (by decide) ?_ ?_
    · refine j_iconst (v := 0) d_M_isMethod_16 (by decide) ?_
      exact j_retZ d_M_isMethod_17
    · refine j_iconst (v := 1) d_M_isMethod_12 (by decide) ?_
      refine j_goto (tgt := 17) d_M_isMethod_13 (by decide) ?_
      exact j_retZ d_M_isMethod_17
set_option maxRecDepth 20000 in
theorem ct_M_isMethod (N : Nat) (l : Launch) (D : va_G) (dA : Nat → ClassId) (B : Nat) (l0 : Option Nat) (l1 : Int32) (h : Hp) : Ct l (⟨"RingingChamberModel", "isMethod", "(I)Z"⟩ : MethodName) prog_15_method_16_code 2 (some .boolean) 0 0 D dA B [vr l0, vi l1] h vI (M_isMethod N l0 l1 h) :=
  Ct.of2 (own := "RingingChamberModel") (nme := "isMethod") (lv := [(0, vr l0), (1, vi l1)]) rfl rfl (by decide) (Nat.le_of_ble_eq_true rfl) rfl (fun p e R s m args below meth c => jc_M_isMethod N l0 l1 h)
theorem d_M_feed_0 : decode prog_15_method_17_code 0 = .ok (.aload_n 0, 1) := by decide +kernel
theorem d_M_feed_1 : decode prog_15_method_17_code 1 = .ok (.getfield 168, 3) := by decide +kernel
theorem d_M_feed_4 : decode prog_15_method_17_code 4 = .ok (.bipush 20, 2) := by decide +kernel
theorem d_M_feed_6 : decode prog_15_method_17_code 6 = .ok (.iadd, 1) := by decide +kernel
theorem d_M_feed_7 : decode prog_15_method_17_code 7 = .ok (.sipush 300, 3) := by decide +kernel
theorem d_M_feed_10 : decode prog_15_method_17_code 10 = .ok (.if_icmp .le 5, 3) := by decide +kernel
theorem d_M_feed_13 : decode prog_15_method_17_code 13 = .ok (.iconst (-1), 1) := by decide +kernel
theorem d_M_feed_14 : decode prog_15_method_17_code 14 = .ok (.ireturn, 1) := by decide +kernel
theorem d_M_feed_15 : decode prog_15_method_17_code 15 = .ok (.iconst 0, 1) := by decide +kernel
theorem d_M_feed_16 : decode prog_15_method_17_code 16 = .ok (.istore 6, 2) := by decide +kernel
theorem d_M_feed_18 : decode prog_15_method_17_code 18 = .ok (.iload 6, 2) := by decide +kernel
theorem d_M_feed_20 : decode prog_15_method_17_code 20 = .ok (.bipush 20, 2) := by decide +kernel
theorem d_M_feed_22 : decode prog_15_method_17_code 22 = .ok (.if_icmp .ge 86, 3) := by decide +kernel
theorem d_M_feed_25 : decode prog_15_method_17_code 25 = .ok (.iload 6, 2) := by decide +kernel
theorem d_M_feed_27 : decode prog_15_method_17_code 27 = .ok (.iconst 4, 1) := by decide +kernel
theorem d_M_feed_28 : decode prog_15_method_17_code 28 = .ok (.if_icmp .ge 7, 3) := by decide +kernel
theorem d_M_feed_31 : decode prog_15_method_17_code 31 = .ok (.iload_n 1, 1) := by decide +kernel
theorem d_M_feed_32 : decode prog_15_method_17_code 32 = .ok (.goto 39, 3) := by decide +kernel
theorem d_M_feed_35 : decode prog_15_method_17_code 35 = .ok (.iload 6, 2) := by decide +kernel
theorem d_M_feed_37 : decode prog_15_method_17_code 37 = .ok (.bipush 8, 2) := by decide +kernel
theorem d_M_feed_39 : decode prog_15_method_17_code 39 = .ok (.if_icmp .ge 7, 3) := by decide +kernel
theorem d_M_feed_42 : decode prog_15_method_17_code 42 = .ok (.iload_n 2, 1) := by decide +kernel
theorem d_M_feed_43 : decode prog_15_method_17_code 43 = .ok (.goto 28, 3) := by decide +kernel
theorem d_M_feed_46 : decode prog_15_method_17_code 46 = .ok (.iload 6, 2) := by decide +kernel
theorem d_M_feed_48 : decode prog_15_method_17_code 48 = .ok (.bipush 12, 2) := by decide +kernel
theorem d_M_feed_50 : decode prog_15_method_17_code 50 = .ok (.if_icmp .ge 7, 3) := by decide +kernel
theorem d_M_feed_53 : decode prog_15_method_17_code 53 = .ok (.iload_n 3, 1) := by decide +kernel
theorem d_M_feed_54 : decode prog_15_method_17_code 54 = .ok (.goto 17, 3) := by decide +kernel
theorem d_M_feed_57 : decode prog_15_method_17_code 57 = .ok (.iload 6, 2) := by decide +kernel
theorem d_M_feed_59 : decode prog_15_method_17_code 59 = .ok (.bipush 16, 2) := by decide +kernel
theorem d_M_feed_61 : decode prog_15_method_17_code 61 = .ok (.if_icmp .ge 8, 3) := by decide +kernel
theorem d_M_feed_64 : decode prog_15_method_17_code 64 = .ok (.iload 4, 2) := by decide +kernel
theorem d_M_feed_66 : decode prog_15_method_17_code 66 = .ok (.goto 5, 3) := by decide +kernel
theorem d_M_feed_69 : decode prog_15_method_17_code 69 = .ok (.iload 5, 2) := by decide +kernel
theorem d_M_feed_71 : decode prog_15_method_17_code 71 = .ok (.istore 7, 2) := by decide +kernel
theorem d_M_feed_73 : decode prog_15_method_17_code 73 = .ok (.aload_n 0, 1) := by decide +kernel
theorem d_M_feed_74 : decode prog_15_method_17_code 74 = .ok (.getfield 9, 3) := by decide +kernel
theorem d_M_feed_77 : decode prog_15_method_17_code 77 = .ok (.aload_n 0, 1) := by decide +kernel
theorem d_M_feed_78 : decode prog_15_method_17_code 78 = .ok (.getfield 168, 3) := by decide +kernel
theorem d_M_feed_81 : decode prog_15_method_17_code 81 = .ok (.iload 6, 2) := by decide +kernel
theorem d_M_feed_83 : decode prog_15_method_17_code 83 = .ok (.iadd, 1) := by decide +kernel
theorem d_M_feed_84 : decode prog_15_method_17_code 84 = .ok (.iload 7, 2) := by decide +kernel
theorem d_M_feed_86 : decode prog_15_method_17_code 86 = .ok (.bipush 24, 2) := by decide +kernel
theorem d_M_feed_88 : decode prog_15_method_17_code 88 = .ok (.bipush 8, 2) := by decide +kernel
theorem d_M_feed_90 : decode prog_15_method_17_code 90 = .ok (.iload 6, 2) := by decide +kernel
theorem d_M_feed_92 : decode prog_15_method_17_code 92 = .ok (.iconst 4, 1) := by decide +kernel
theorem d_M_feed_93 : decode prog_15_method_17_code 93 = .ok (.irem, 1) := by decide +kernel
theorem d_M_feed_94 : decode prog_15_method_17_code 94 = .ok (.imul, 1) := by decide +kernel
theorem d_M_feed_95 : decode prog_15_method_17_code 95 = .ok (.isub, 1) := by decide +kernel
theorem d_M_feed_96 : decode prog_15_method_17_code 96 = .ok (.ishr, 1) := by decide +kernel
theorem d_M_feed_97 : decode prog_15_method_17_code 97 = .ok (.sipush 255, 3) := by decide +kernel
theorem d_M_feed_100 : decode prog_15_method_17_code 100 = .ok (.iand, 1) := by decide +kernel
theorem d_M_feed_101 : decode prog_15_method_17_code 101 = .ok (.iastore, 1) := by decide +kernel
theorem d_M_feed_102 : decode prog_15_method_17_code 102 = .ok (.iinc 6 1, 3) := by decide +kernel
theorem d_M_feed_105 : decode prog_15_method_17_code 105 = .ok (.goto (-87), 3) := by decide +kernel
theorem d_M_feed_108 : decode prog_15_method_17_code 108 = .ok (.aload_n 0, 1) := by decide +kernel
theorem d_M_feed_109 : decode prog_15_method_17_code 109 = .ok (.dup, 1) := by decide +kernel
theorem d_M_feed_110 : decode prog_15_method_17_code 110 = .ok (.getfield 168, 3) := by decide +kernel
theorem d_M_feed_113 : decode prog_15_method_17_code 113 = .ok (.bipush 20, 2) := by decide +kernel
theorem d_M_feed_115 : decode prog_15_method_17_code 115 = .ok (.iadd, 1) := by decide +kernel
theorem d_M_feed_116 : decode prog_15_method_17_code 116 = .ok (.putfield 168, 3) := by decide +kernel
theorem d_M_feed_119 : decode prog_15_method_17_code 119 = .ok (.aload_n 0, 1) := by decide +kernel
theorem d_M_feed_120 : decode prog_15_method_17_code 120 = .ok (.getfield 168, 3) := by decide +kernel
theorem d_M_feed_123 : decode prog_15_method_17_code 123 = .ok (.ireturn, 1) := by decide +kernel
set_option maxRecDepth 20000 in
theorem jc_M_feed_71 (N : Nat) (re18 : Option Nat → Int32 → Int32 → Int32 → Int32 → Int32 → Int32 → Hp → Option (Int32 × Hp)) (hre18 : ∀ y0 y1 y2 y3 y4 y5 y6 h, J p l e R s m args below meth c prog_15_method_17_code 8 "RingingChamberModel" 0 0 (some .int) "feed" D dA B n0 s0 (QM below args s D dA B n0 s0 vI) 18 [(0, vr y0), (1, vi y1), (2, vi y2), (3, vi y3), (4, vi y4), (5, vi y5), (6, vi y6)] [] h (re18 y0 y1 y2 y3 y4 y5 y6 h)) (l0 : Option Nat) (l1 : Int32) (l2 : Int32) (l3 : Int32) (l4 : Int32) (l5 : Int32) (l6 : Int32) (u0 : Int32) (h : Hp) : J p l e R s m args below meth c prog_15_method_17_code 8 "RingingChamberModel" 0 0 (some .int) "feed" D dA B n0 s0 (QM below args s D dA B n0 s0 vI) 71 [(0, vr l0), (1, vi l1), (2, vi l2), (3, vi l3), (4, vi l4), (5, vi l5), (6, vi l6)] [vi u0] h (M_feed_71 N re18 l0 l1 l2 l3 l4 l5 l6 u0 h) := by
  unfold M_feed_71
  refine j_istore (lv' := [(7, vi u0), (0, vr l0), (1, vi l1), (2, vi l2), (3, vi l3), (4, vi l4), (5, vi l5), (6, vi l6)]) d_M_feed_71 (by decide) rfl ?_
  refine j_aload_n d_M_feed_73 1 rfl rfl ?_
  refine j_getR d_M_feed_74 fl_12_9.r (fun x1 => ?_)
  refine j_aload_n d_M_feed_77 1 rfl rfl ?_
  refine j_getI d_M_feed_78 fl_12_168.r (fun x2 => ?_)
  refine j_iload d_M_feed_81 7 rfl ?_
  refine j_iadd d_M_feed_83 ?_
  refine j_iload d_M_feed_84 0 rfl ?_
  refine j_bipush (v := 24) d_M_feed_86 (by decide) ?_
  refine j_bipush (v := 8) d_M_feed_88 (by decide) ?_
  refine j_iload d_M_feed_90 7 rfl ?_
  refine j_iconst (v := 4) d_M_feed_92 (by decide) ?_
  refine j_irem d_M_feed_93 ?_
  refine j_imul d_M_feed_94 ?_
  refine j_isub d_M_feed_95 ?_
  refine j_ishr d_M_feed_96 ?_
  refine j_sipush (v := 255) d_M_feed_97 (by decide) ?_
  refine j_iand d_M_feed_100 ?_
  refine j_iast d_M_feed_101 (fun h3 => ?_)
  refine j_iinc (lvv := fun x4 => [(6, vi x4), (7, vi u0), (0, vr l0), (1, vi l1), (2, vi l2), (3, vi l3), (4, vi l4), (5, vi l5)]) d_M_feed_102 7 rfl rfl (by decide) (fun _ => rfl) (fun x4 => ?_)
  refine j_goto (tgt := 18) d_M_feed_105 (by decide) ?_
  exact J.sub [2, 3, 4, 5, 6, 7, 0] rfl (hre18 l0 l1 l2 l3 l4 l5 x4 h3)
set_option maxRecDepth 20000 in
theorem jc_M_feed_18 (N : Nat) : ∀ (n : Nat) (l0 : Option Nat) (l1 : Int32) (l2 : Int32) (l3 : Int32) (l4 : Int32) (l5 : Int32) (l6 : Int32) (h : Hp), J p l e R s m args below meth c prog_15_method_17_code 8 "RingingChamberModel" 0 0 (some .int) "feed" D dA B n0 s0 (QM below args s D dA B n0 s0 vI) 18 [(0, vr l0), (1, vi l1), (2, vi l2), (3, vi l3), (4, vi l4), (5, vi l5), (6, vi l6)] [] h (M_feed_18 N n l0 l1 l2 l3 l4 l5 l6 h) := by
  intro n
  induction n with
  | zero => intros; exact J.none
  | succ n ih =>
    intro l0 l1 l2 l3 l4 l5 l6 h
    rw [M_feed_18]
    refine j_iload d_M_feed_18 6 rfl ?_
    refine j_bipush (v := 20) d_M_feed_20 (by decide) ?_
    refine j_icmp_ge (tgt := 108) d_M_feed_22 (by decide) ?_ ?_
    · refine j_aload_n d_M_feed_108 0 rfl rfl ?_
      refine j_dup d_M_feed_109 rfl ?_
      refine j_getI d_M_feed_110 fl_12_168.r (fun x1 => ?_)
      refine j_bipush (v := 20) d_M_feed_113 (by decide) ?_
      refine j_iadd d_M_feed_115 ?_
      refine j_putI d_M_feed_116 fl_12_168 (Or.inl rfl) (fun h2 => ?_)
      refine j_aload_n d_M_feed_119 0 rfl rfl ?_
      refine j_getI d_M_feed_120 fl_12_168.r (fun x3 => ?_)
      exact j_retI d_M_feed_123
    · refine j_iload d_M_feed_25 6 rfl ?_
      refine j_iconst (v := 4) d_M_feed_27 (by decide) ?_
      refine j_icmp_ge (tgt := 35) d_M_feed_28 (by decide) ?_ ?_
      · refine j_iload d_M_feed_35 6 rfl ?_
        refine j_bipush (v := 8) d_M_feed_37 (by decide) ?_
        refine j_icmp_ge (tgt := 46) d_M_feed_39 (by decide) ?_ ?_
        · refine j_iload d_M_feed_46 6 rfl ?_
          refine j_bipush (v := 12) d_M_feed_48 (by decide) ?_
          refine j_icmp_ge (tgt := 57) d_M_feed_50 (by decide) ?_ ?_
          · refine j_iload d_M_feed_57 6 rfl ?_
            refine j_bipush (v := 16) d_M_feed_59 (by decide) ?_
            refine j_icmp_ge (tgt := 69) d_M_feed_61 (by decide) ?_ ?_
            · refine j_iload d_M_feed_69 5 rfl ?_
              exact jc_M_feed_71 N (M_feed_18 N n) ih l0 l1 l2 l3 l4 l5 l6 l5 h
            · refine j_iload d_M_feed_64 4 rfl ?_
              refine j_goto (tgt := 71) d_M_feed_66 (by decide) ?_
              exact jc_M_feed_71 N (M_feed_18 N n) ih l0 l1 l2 l3 l4 l5 l6 l4 h
          · refine j_iload_n d_M_feed_53 3 rfl rfl ?_
            refine j_goto (tgt := 71) d_M_feed_54 (by decide) ?_
            exact jc_M_feed_71 N (M_feed_18 N n) ih l0 l1 l2 l3 l4 l5 l6 l3 h
        · refine j_iload_n d_M_feed_42 2 rfl rfl ?_
          refine j_goto (tgt := 71) d_M_feed_43 (by decide) ?_
          exact jc_M_feed_71 N (M_feed_18 N n) ih l0 l1 l2 l3 l4 l5 l6 l2 h
      · refine j_iload_n d_M_feed_31 1 rfl rfl ?_
        refine j_goto (tgt := 71) d_M_feed_32 (by decide) ?_
        exact jc_M_feed_71 N (M_feed_18 N n) ih l0 l1 l2 l3 l4 l5 l6 l1 h
set_option maxRecDepth 20000 in
theorem jc_M_feed (N : Nat) (l0 : Option Nat) (l1 : Int32) (l2 : Int32) (l3 : Int32) (l4 : Int32) (l5 : Int32) (h : Hp) : J p l e R s m args below meth c prog_15_method_17_code 8 "RingingChamberModel" 0 0 (some .int) "feed" D dA B n0 s0 (QM below args s D dA B n0 s0 vI) 0 [(0, vr l0), (1, vi l1), (2, vi l2), (3, vi l3), (4, vi l4), (5, vi l5)] [] h (M_feed N l0 l1 l2 l3 l4 l5 h) := by
  unfold M_feed
  refine j_aload_n d_M_feed_0 0 rfl rfl ?_
  refine j_getI d_M_feed_1 fl_12_168.r (fun x1 => ?_)
  refine j_bipush (v := 20) d_M_feed_4 (by decide) ?_
  refine j_iadd d_M_feed_6 ?_
  refine j_sipush (v := 300) d_M_feed_7 (by decide) ?_
  refine j_icmp_le (tgt := 15) d_M_feed_10 (by decide) ?_ ?_
  · refine j_iconst (v := 0) d_M_feed_15 (by decide) ?_
    refine j_istore (lv' := [(6, vi 0), (0, vr l0), (1, vi l1), (2, vi l2), (3, vi l3), (4, vi l4), (5, vi l5)]) d_M_feed_16 (by decide) rfl ?_
    exact J.sub [1, 2, 3, 4, 5, 6, 0] rfl (jc_M_feed_18 N N l0 l1 l2 l3 l4 l5 0 h)
  · refine j_iconst (v := -1) d_M_feed_13 (by decide) ?_
    exact j_retI d_M_feed_14
set_option maxRecDepth 20000 in
theorem ct_M_feed (N : Nat) (l : Launch) (D : va_G) (dA : Nat → ClassId) (B : Nat) (l0 : Option Nat) (l1 : Int32) (l2 : Int32) (l3 : Int32) (l4 : Int32) (l5 : Int32) (h : Hp) : Ct l (⟨"RingingChamberModel", "feed", "(IIIII)I"⟩ : MethodName) prog_15_method_17_code 8 (some .int) 0 0 D dA B [vr l0, vi l1, vi l2, vi l3, vi l4, vi l5] h vI (M_feed N l0 l1 l2 l3 l4 l5 h) :=
  Ct.of2 (own := "RingingChamberModel") (nme := "feed") (lv := [(0, vr l0), (1, vi l1), (2, vi l2), (3, vi l3), (4, vi l4), (5, vi l5)]) rfl rfl (by decide) (Nat.le_of_ble_eq_true rfl) rfl (fun p e R s m args below meth c => jc_M_feed N l0 l1 l2 l3 l4 l5 h)
theorem d_M_end_0 : decode prog_15_method_18_code 0 = .ok (.iload_n 1, 1) := by decide +kernel
theorem d_M_end_1 : decode prog_15_method_18_code 1 = .ok (.ifCond .lt 11, 3) := by decide +kernel
theorem d_M_end_4 : decode prog_15_method_18_code 4 = .ok (.iload_n 1, 1) := by decide +kernel
theorem d_M_end_5 : decode prog_15_method_18_code 5 = .ok (.aload_n 0, 1) := by decide +kernel
theorem d_M_end_6 : decode prog_15_method_18_code 6 = .ok (.getfield 168, 3) := by decide +kernel
theorem d_M_end_9 : decode prog_15_method_18_code 9 = .ok (.if_icmp .le 5, 3) := by decide +kernel
theorem d_M_end_12 : decode prog_15_method_18_code 12 = .ok (.iconst (-1), 1) := by decide +kernel
theorem d_M_end_13 : decode prog_15_method_18_code 13 = .ok (.ireturn, 1) := by decide +kernel
theorem d_M_end_14 : decode prog_15_method_18_code 14 = .ok (.aload_n 0, 1) := by decide +kernel
theorem d_M_end_15 : decode prog_15_method_18_code 15 = .ok (.iload_n 1, 1) := by decide +kernel
theorem d_M_end_16 : decode prog_15_method_18_code 16 = .ok (.putfield 168, 3) := by decide +kernel
theorem d_M_end_19 : decode prog_15_method_18_code 19 = .ok (.aload_n 0, 1) := by decide +kernel
theorem d_M_end_20 : decode prog_15_method_18_code 20 = .ok (.getfield 168, 3) := by decide +kernel
theorem d_M_end_23 : decode prog_15_method_18_code 23 = .ok (.ireturn, 1) := by decide +kernel
set_option maxRecDepth 20000 in
theorem jc_M_end (N : Nat) (l0 : Option Nat) (l1 : Int32) (h : Hp) : J p l e R s m args below meth c prog_15_method_18_code 2 "RingingChamberModel" 0 0 (some .int) "end" D dA B n0 s0 (QM below args s D dA B n0 s0 vI) 0 [(0, vr l0), (1, vi l1)] [] h (M_end N l0 l1 h) := by
  unfold M_end
  refine j_iload_n d_M_end_0 1 rfl rfl ?_
  refine j_if_lt (tgt := 12) d_M_end_1 (by decide) ?_ ?_
  · refine j_iconst (v := -1) d_M_end_12 (by decide) ?_
    exact j_retI d_M_end_13
  · refine j_iload_n d_M_end_4 1 rfl rfl ?_
    refine j_aload_n d_M_end_5 0 rfl rfl ?_
    refine j_getI d_M_end_6 fl_12_168.r (fun x1 => ?_)
    refine j_icmp_le (tgt := 14) d_M_end_9 (by decide) ?_ ?_
    · refine j_aload_n d_M_end_14 0 rfl rfl ?_
      refine j_iload_n d_M_end_15 1 rfl rfl ?_
      refine j_putI d_M_end_16 fl_12_168 (Or.inl rfl) (fun h2 => ?_)
      refine j_aload_n d_M_end_19 0 rfl rfl ?_
      refine j_getI d_M_end_20 fl_12_168.r (fun x3 => ?_)
      exact j_retI d_M_end_23
    · refine j_iconst (v := -1) d_M_end_12 (by decide) ?_
      exact j_retI d_M_end_13
set_option maxRecDepth 20000 in
theorem ct_M_end (N : Nat) (l : Launch) (D : va_G) (dA : Nat → ClassId) (B : Nat) (l0 : Option Nat) (l1 : Int32) (h : Hp) : Ct l (⟨"RingingChamberModel", "end", "(I)I"⟩ : MethodName) prog_15_method_18_code 2 (some .int) 0 0 D dA B [vr l0, vi l1] h vI (M_end N l0 l1 h) :=
  Ct.of2 (own := "RingingChamberModel") (nme := "end") (lv := [(0, vr l0), (1, vi l1)]) rfl rfl (by decide) (Nat.le_of_ble_eq_true rfl) rfl (fun p e R s m args below meth c => jc_M_end N l0 l1 h)
theorem d_M_bells_0 : decode prog_15_method_19_code 0 = .ok (.iload_n 1, 1) := by decide +kernel
theorem d_M_bells_1 : decode prog_15_method_19_code 1 = .ok (.iconst 4, 1) := by decide +kernel
theorem d_M_bells_2 : decode prog_15_method_19_code 2 = .ok (.if_icmp .lt 9, 3) := by decide +kernel
theorem d_M_bells_5 : decode prog_15_method_19_code 5 = .ok (.iload_n 1, 1) := by decide +kernel
theorem d_M_bells_6 : decode prog_15_method_19_code 6 = .ok (.bipush 12, 2) := by decide +kernel
theorem d_M_bells_8 : decode prog_15_method_19_code 8 = .ok (.if_icmp .le 5, 3) := by decide +kernel
theorem d_M_bells_11 : decode prog_15_method_19_code 11 = .ok (.iconst (-1), 1) := by decide +kernel
theorem d_M_bells_12 : decode prog_15_method_19_code 12 = .ok (.ireturn, 1) := by decide +kernel
theorem d_M_bells_13 : decode prog_15_method_19_code 13 = .ok (.aload_n 0, 1) := by decide +kernel
theorem d_M_bells_14 : decode prog_15_method_19_code 14 = .ok (.iload_n 1, 1) := by decide +kernel
theorem d_M_bells_15 : decode prog_15_method_19_code 15 = .ok (.invokevirtual 101, 3) := by decide +kernel
theorem d_M_bells_18 : decode prog_15_method_19_code 18 = .ok (.iconst 1, 1) := by decide +kernel
theorem d_M_bells_19 : decode prog_15_method_19_code 19 = .ok (.ireturn, 1) := by decide +kernel
set_option maxRecDepth 20000 in
theorem jc_M_bells (N : Nat) (l0 : Option Nat) (l1 : Int32) (h : Hp) : J p l e R s m args below meth c prog_15_method_19_code 2 "RingingChamberModel" 3 65 (some .int) "bells" D dA B n0 s0 (QM below args s D dA B n0 s0 vI) 0 [(0, vr l0), (1, vi l1)] [] h (M_bells N l0 l1 h) := by
  unfold M_bells
  refine j_iload_n d_M_bells_0 1 rfl rfl ?_
  refine j_iconst (v := 4) d_M_bells_1 (by decide) ?_
  refine j_icmp_lt (tgt := 11) d_M_bells_2 (by decide) ?_ ?_
  · refine j_iconst (v := -1) d_M_bells_11 (by decide) ?_
    exact j_retI d_M_bells_12
  · refine j_iload_n d_M_bells_5 1 rfl rfl ?_
    refine j_bipush (v := 12) d_M_bells_6 (by decide) ?_
    refine j_icmp_le (tgt := 13) d_M_bells_8 (by decide) ?_ ?_
    · refine j_aload_n d_M_bells_13 0 rfl rfl ?_
      refine j_iload_n d_M_bells_14 1 rfl rfl ?_
      refine j_vU1 d_M_bells_15 (allQ.cons (VD.mk vt_12_101_12 (ct_M_begin N l D dA B l0 l1 h) (by decide) (by decide)) allQ.nil) (Nat.le_of_ble_eq_true rfl) (fun _ h1 => ?_)
      refine j_iconst (v := 1) d_M_bells_18 (by decide) ?_
      exact j_retI d_M_bells_19
    · refine j_iconst (v := -1) d_M_bells_11 (by decide) ?_
      exact j_retI d_M_bells_12
set_option maxRecDepth 20000 in
theorem ct_M_bells (N : Nat) (l : Launch) (D : va_G) (dA : Nat → ClassId) (B : Nat) (l0 : Option Nat) (l1 : Int32) (h : Hp) : Ct l (⟨"RingingChamberModel", "bells", "(I)I"⟩ : MethodName) prog_15_method_19_code 2 (some .int) 3 65 D dA B [vr l0, vi l1] h vI (M_bells N l0 l1 h) :=
  Ct.of2 (own := "RingingChamberModel") (nme := "bells") (lv := [(0, vr l0), (1, vi l1)]) rfl rfl (by decide) (Nat.le_of_ble_eq_true rfl) rfl (fun p e R s m args below meth c => jc_M_bells N l0 l1 h)
theorem d_M_method_0 : decode prog_15_method_20_code 0 = .ok (.iload_n 1, 1) := by decide +kernel
theorem d_M_method_1 : decode prog_15_method_20_code 1 = .ok (.ifCond .lt 9, 3) := by decide +kernel
theorem d_M_method_4 : decode prog_15_method_20_code 4 = .ok (.iload_n 1, 1) := by decide +kernel
theorem d_M_method_5 : decode prog_15_method_20_code 5 = .ok (.bipush 6, 2) := by decide +kernel
theorem d_M_method_7 : decode prog_15_method_20_code 7 = .ok (.if_icmp .lt 5, 3) := by decide +kernel
theorem d_M_method_10 : decode prog_15_method_20_code 10 = .ok (.iconst (-1), 1) := by decide +kernel
theorem d_M_method_11 : decode prog_15_method_20_code 11 = .ok (.ireturn, 1) := by decide +kernel
theorem d_M_method_12 : decode prog_15_method_20_code 12 = .ok (.aload_n 0, 1) := by decide +kernel
theorem d_M_method_13 : decode prog_15_method_20_code 13 = .ok (.getfield 109, 3) := by decide +kernel
theorem d_M_method_16 : decode prog_15_method_20_code 16 = .ok (.bipush 30, 2) := by decide +kernel
theorem d_M_method_18 : decode prog_15_method_20_code 18 = .ok (.if_icmp .ne 6, 3) := by decide +kernel
theorem d_M_method_21 : decode prog_15_method_20_code 21 = .ok (.bipush (-2), 2) := by decide +kernel
theorem d_M_method_23 : decode prog_15_method_20_code 23 = .ok (.ireturn, 1) := by decide +kernel
theorem d_M_method_24 : decode prog_15_method_20_code 24 = .ok (.aload_n 0, 1) := by decide +kernel
theorem d_M_method_25 : decode prog_15_method_20_code 25 = .ok (.getfield 109, 3) := by decide +kernel
theorem d_M_method_28 : decode prog_15_method_20_code 28 = .ok (.istore_n 2, 1) := by decide +kernel
theorem d_M_method_29 : decode prog_15_method_20_code 29 = .ok (.aload_n 0, 1) := by decide +kernel
theorem d_M_method_30 : decode prog_15_method_20_code 30 = .ok (.getfield 16, 3) := by decide +kernel
theorem d_M_method_33 : decode prog_15_method_20_code 33 = .ok (.iload_n 2, 1) := by decide +kernel
theorem d_M_method_34 : decode prog_15_method_20_code 34 = .ok (.iload_n 1, 1) := by decide +kernel
theorem d_M_method_35 : decode prog_15_method_20_code 35 = .ok (.iastore, 1) := by decide +kernel
theorem d_M_method_36 : decode prog_15_method_20_code 36 = .ok (.aload_n 0, 1) := by decide +kernel
theorem d_M_method_37 : decode prog_15_method_20_code 37 = .ok (.getfield 19, 3) := by decide +kernel
theorem d_M_method_40 : decode prog_15_method_20_code 40 = .ok (.iload_n 2, 1) := by decide +kernel
theorem d_M_method_41 : decode prog_15_method_20_code 41 = .ok (.iconst (-1), 1) := by decide +kernel
theorem d_M_method_42 : decode prog_15_method_20_code 42 = .ok (.iastore, 1) := by decide +kernel
theorem d_M_method_43 : decode prog_15_method_20_code 43 = .ok (.aload_n 0, 1) := by decide +kernel
theorem d_M_method_44 : decode prog_15_method_20_code 44 = .ok (.getfield 25, 3) := by decide +kernel
theorem d_M_method_47 : decode prog_15_method_20_code 47 = .ok (.iconst 3, 1) := by decide +kernel
theorem d_M_method_48 : decode prog_15_method_20_code 48 = .ok (.iload_n 2, 1) := by decide +kernel
theorem d_M_method_49 : decode prog_15_method_20_code 49 = .ok (.imul, 1) := by decide +kernel
theorem d_M_method_50 : decode prog_15_method_20_code 50 = .ok (.iconst 1, 1) := by decide +kernel
theorem d_M_method_51 : decode prog_15_method_20_code 51 = .ok (.iadd, 1) := by decide +kernel
theorem d_M_method_52 : decode prog_15_method_20_code 52 = .ok (.iconst (-1), 1) := by decide +kernel
theorem d_M_method_53 : decode prog_15_method_20_code 53 = .ok (.iastore, 1) := by decide +kernel
theorem d_M_method_54 : decode prog_15_method_20_code 54 = .ok (.aload_n 0, 1) := by decide +kernel
theorem d_M_method_55 : decode prog_15_method_20_code 55 = .ok (.getfield 25, 3) := by decide +kernel
theorem d_M_method_58 : decode prog_15_method_20_code 58 = .ok (.iconst 3, 1) := by decide +kernel
theorem d_M_method_59 : decode prog_15_method_20_code 59 = .ok (.iload_n 2, 1) := by decide +kernel
theorem d_M_method_60 : decode prog_15_method_20_code 60 = .ok (.imul, 1) := by decide +kernel
theorem d_M_method_61 : decode prog_15_method_20_code 61 = .ok (.iconst 2, 1) := by decide +kernel
theorem d_M_method_62 : decode prog_15_method_20_code 62 = .ok (.iadd, 1) := by decide +kernel
theorem d_M_method_63 : decode prog_15_method_20_code 63 = .ok (.iconst (-1), 1) := by decide +kernel
theorem d_M_method_64 : decode prog_15_method_20_code 64 = .ok (.iastore, 1) := by decide +kernel
theorem d_M_method_65 : decode prog_15_method_20_code 65 = .ok (.aload_n 0, 1) := by decide +kernel
theorem d_M_method_66 : decode prog_15_method_20_code 66 = .ok (.getfield 31, 3) := by decide +kernel
theorem d_M_method_69 : decode prog_15_method_20_code 69 = .ok (.iload_n 2, 1) := by decide +kernel
theorem d_M_method_70 : decode prog_15_method_20_code 70 = .ok (.iconst 0, 1) := by decide +kernel
theorem d_M_method_71 : decode prog_15_method_20_code 71 = .ok (.iastore, 1) := by decide +kernel
theorem d_M_method_72 : decode prog_15_method_20_code 72 = .ok (.aload_n 0, 1) := by decide +kernel
theorem d_M_method_73 : decode prog_15_method_20_code 73 = .ok (.getfield 67, 3) := by decide +kernel
theorem d_M_method_76 : decode prog_15_method_20_code 76 = .ok (.iload_n 2, 1) := by decide +kernel
theorem d_M_method_77 : decode prog_15_method_20_code 77 = .ok (.iconst 0, 1) := by decide +kernel
theorem d_M_method_78 : decode prog_15_method_20_code 78 = .ok (.iastore, 1) := by decide +kernel
theorem d_M_method_79 : decode prog_15_method_20_code 79 = .ok (.aload_n 0, 1) := by decide +kernel
theorem d_M_method_80 : decode prog_15_method_20_code 80 = .ok (.dup, 1) := by decide +kernel
theorem d_M_method_81 : decode prog_15_method_20_code 81 = .ok (.getfield 109, 3) := by decide +kernel
theorem d_M_method_84 : decode prog_15_method_20_code 84 = .ok (.iconst 1, 1) := by decide +kernel
theorem d_M_method_85 : decode prog_15_method_20_code 85 = .ok (.iadd, 1) := by decide +kernel
theorem d_M_method_86 : decode prog_15_method_20_code 86 = .ok (.putfield 109, 3) := by decide +kernel
theorem d_M_method_89 : decode prog_15_method_20_code 89 = .ok (.aload_n 0, 1) := by decide +kernel
theorem d_M_method_90 : decode prog_15_method_20_code 90 = .ok (.iconst 1, 1) := by decide +kernel
theorem d_M_method_91 : decode prog_15_method_20_code 91 = .ok (.putfield 121, 3) := by decide +kernel
theorem d_M_method_94 : decode prog_15_method_20_code 94 = .ok (.iload_n 2, 1) := by decide +kernel
theorem d_M_method_95 : decode prog_15_method_20_code 95 = .ok (.ireturn, 1) := by decide +kernel
set_option maxRecDepth 20000 in
theorem jc_M_method (N : Nat) (l0 : Option Nat) (l1 : Int32) (h : Hp) : J p l e R s m args below meth c prog_15_method_20_code 3 "RingingChamberModel" 0 0 (some .int) "method" D dA B n0 s0 (QM below args s D dA B n0 s0 vI) 0 [(0, vr l0), (1, vi l1)] [] h (M_method N l0 l1 h) := by
  unfold M_method
  refine j_iload_n d_M_method_0 1 rfl rfl ?_
  refine j_if_lt (tgt := 10) d_M_method_1 (by decide) ?_ ?_
  · refine j_iconst (v := -1) d_M_method_10 (by decide) ?_
    exact j_retI d_M_method_11
  · refine j_iload_n d_M_method_4 1 rfl rfl ?_
    refine j_bipush (v := 6) d_M_method_5 (by decide) ?_
    refine j_icmp_lt (tgt := 12) d_M_method_7 (by decide) ?_ ?_
    · refine j_aload_n d_M_method_12 0 rfl rfl ?_
      refine j_getI d_M_method_13 fl_12_109.r (fun x1 => ?_)
      refine j_bipush (v := 30) d_M_method_16 (by decide) ?_
      refine j_icmp_ne (tgt := 24) d_M_method_18 (by decide) ?_ ?_
      · refine j_bipush (v := -2) d_M_method_21 (by decide) ?_
        exact j_retI d_M_method_23
      · refine j_aload_n d_M_method_24 0 rfl rfl ?_
        refine j_getI d_M_method_25 fl_12_109.r (fun x2 => ?_)
        refine j_istore_n (lv' := [(2, vi x2), (0, vr l0), (1, vi l1)]) d_M_method_28 rfl (by decide) rfl ?_
        refine j_aload_n d_M_method_29 1 rfl rfl ?_
        refine j_getR d_M_method_30 fl_12_16.r (fun x3 => ?_)
        refine j_iload_n d_M_method_33 0 rfl rfl ?_
        refine j_iload_n d_M_method_34 2 rfl rfl ?_
        refine j_iast d_M_method_35 (fun h4 => ?_)
        refine j_aload_n d_M_method_36 1 rfl rfl ?_
        refine j_getR d_M_method_37 fl_12_19.r (fun x5 => ?_)
        refine j_iload_n d_M_method_40 0 rfl rfl ?_
        refine j_iconst (v := -1) d_M_method_41 (by decide) ?_
        refine j_iast d_M_method_42 (fun h6 => ?_)
        refine j_aload_n d_M_method_43 1 rfl rfl ?_
        refine j_getR d_M_method_44 fl_12_25.r (fun x7 => ?_)
        refine j_iconst (v := 3) d_M_method_47 (by decide) ?_
        refine j_iload_n d_M_method_48 0 rfl rfl ?_
        refine j_imul d_M_method_49 ?_
        refine j_iconst (v := 1) d_M_method_50 (by decide) ?_
        refine j_iadd d_M_method_51 ?_
        refine j_iconst (v := -1) d_M_method_52 (by decide) ?_
        refine j_iast d_M_method_53 (fun h8 => ?_)
        refine j_aload_n d_M_method_54 1 rfl rfl ?_
        refine j_getR d_M_method_55 fl_12_25.r (fun x9 => ?_)
        refine j_iconst (v := 3) d_M_method_58 (by decide) ?_
        refine j_iload_n d_M_method_59 0 rfl rfl ?_
        refine j_imul d_M_method_60 ?_
        refine j_iconst (v := 2) d_M_method_61 (by decide) ?_
        refine j_iadd d_M_method_62 ?_
        refine j_iconst (v := -1) d_M_method_63 (by decide) ?_
        refine j_iast d_M_method_64 (fun h10 => ?_)
        refine j_aload_n d_M_method_65 1 rfl rfl ?_
        refine j_getR d_M_method_66 fl_12_31.r (fun x11 => ?_)
        refine j_iload_n d_M_method_69 0 rfl rfl ?_
        refine j_iconst (v := 0) d_M_method_70 (by decide) ?_
        refine j_iast d_M_method_71 (fun h12 => ?_)
        refine j_aload_n d_M_method_72 1 rfl rfl ?_
        refine j_getR d_M_method_73 fl_12_67.r (fun x13 => ?_)
        refine j_iload_n d_M_method_76 0 rfl rfl ?_
        refine j_iconst (v := 0) d_M_method_77 (by decide) ?_
        refine j_iast d_M_method_78 (fun h14 => ?_)
        refine j_aload_n d_M_method_79 1 rfl rfl ?_
        refine j_dup d_M_method_80 rfl ?_
        refine j_getI d_M_method_81 fl_12_109.r (fun x15 => ?_)
        refine j_iconst (v := 1) d_M_method_84 (by decide) ?_
        refine j_iadd d_M_method_85 ?_
        refine j_putI d_M_method_86 fl_12_109 (Or.inl rfl) (fun h16 => ?_)
        refine j_aload_n d_M_method_89 1 rfl rfl ?_
        refine j_iconst (v := 1) d_M_method_90 (by decide) ?_
        refine j_putZ d_M_method_91 fl_12_121 (Or.inl rfl) (fun h17 => ?_)
        refine j_iload_n d_M_method_94 0 rfl rfl ?_
        exact j_retI d_M_method_95
    · refine j_iconst (v := -1) d_M_method_10 (by decide) ?_
      exact j_retI d_M_method_11
set_option maxRecDepth 20000 in
theorem ct_M_method (N : Nat) (l : Launch) (D : va_G) (dA : Nat → ClassId) (B : Nat) (l0 : Option Nat) (l1 : Int32) (h : Hp) : Ct l (⟨"RingingChamberModel", "method", "(I)I"⟩ : MethodName) prog_15_method_20_code 3 (some .int) 0 0 D dA B [vr l0, vi l1] h vI (M_method N l0 l1 h) :=
  Ct.of2 (own := "RingingChamberModel") (nme := "method") (lv := [(0, vr l0), (1, vi l1)]) rfl rfl (by decide) (Nat.le_of_ble_eq_true rfl) rfl (fun p e R s m args below meth c => jc_M_method N l0 l1 h)
theorem d_M_placeOf_0 : decode prog_15_method_21_code 0 = .ok (.iload_n 0, 1) := by decide +kernel
theorem d_M_placeOf_1 : decode prog_15_method_21_code 1 = .ok (.bipush 49, 2) := by decide +kernel
theorem d_M_placeOf_3 : decode prog_15_method_21_code 3 = .ok (.if_icmp .lt 16, 3) := by decide +kernel
theorem d_M_placeOf_6 : decode prog_15_method_21_code 6 = .ok (.iload_n 0, 1) := by decide +kernel
theorem d_M_placeOf_7 : decode prog_15_method_21_code 7 = .ok (.bipush 57, 2) := by decide +kernel
theorem d_M_placeOf_9 : decode prog_15_method_21_code 9 = .ok (.if_icmp .gt 10, 3) := by decide +kernel
theorem d_M_placeOf_12 : decode prog_15_method_21_code 12 = .ok (.iload_n 0, 1) := by decide +kernel
theorem d_M_placeOf_13 : decode prog_15_method_21_code 13 = .ok (.bipush 48, 2) := by decide +kernel
theorem d_M_placeOf_15 : decode prog_15_method_21_code 15 = .ok (.isub, 1) := by decide +kernel
theorem d_M_placeOf_16 : decode prog_15_method_21_code 16 = .ok (.goto 37, 3) := by decide +kernel
theorem d_M_placeOf_19 : decode prog_15_method_21_code 19 = .ok (.iload_n 0, 1) := by decide +kernel
theorem d_M_placeOf_20 : decode prog_15_method_21_code 20 = .ok (.bipush 48, 2) := by decide +kernel
theorem d_M_placeOf_22 : decode prog_15_method_21_code 22 = .ok (.if_icmp .ne 8, 3) := by decide +kernel
theorem d_M_placeOf_25 : decode prog_15_method_21_code 25 = .ok (.bipush 10, 2) := by decide +kernel
theorem d_M_placeOf_27 : decode prog_15_method_21_code 27 = .ok (.goto 26, 3) := by decide +kernel
theorem d_M_placeOf_30 : decode prog_15_method_21_code 30 = .ok (.iload_n 0, 1) := by decide +kernel
theorem d_M_placeOf_31 : decode prog_15_method_21_code 31 = .ok (.bipush 69, 2) := by decide +kernel
theorem d_M_placeOf_33 : decode prog_15_method_21_code 33 = .ok (.if_icmp .ne 8, 3) := by decide +kernel
theorem d_M_placeOf_36 : decode prog_15_method_21_code 36 = .ok (.bipush 11, 2) := by decide +kernel
theorem d_M_placeOf_38 : decode prog_15_method_21_code 38 = .ok (.goto 15, 3) := by decide +kernel
theorem d_M_placeOf_41 : decode prog_15_method_21_code 41 = .ok (.iload_n 0, 1) := by decide +kernel
theorem d_M_placeOf_42 : decode prog_15_method_21_code 42 = .ok (.bipush 84, 2) := by decide +kernel
theorem d_M_placeOf_44 : decode prog_15_method_21_code 44 = .ok (.if_icmp .ne 8, 3) := by decide +kernel
theorem d_M_placeOf_47 : decode prog_15_method_21_code 47 = .ok (.bipush 12, 2) := by decide +kernel
theorem d_M_placeOf_49 : decode prog_15_method_21_code 49 = .ok (.goto 4, 3) := by decide +kernel
theorem d_M_placeOf_52 : decode prog_15_method_21_code 52 = .ok (.iconst 0, 1) := by decide +kernel
theorem d_M_placeOf_53 : decode prog_15_method_21_code 53 = .ok (.ireturn, 1) := by decide +kernel
set_option maxRecDepth 20000 in
theorem jc_M_placeOf_19 (N : Nat) (l0 : Int32) (h : Hp) : J p l e R s m args below meth c prog_15_method_21_code 1 "RingingChamberModel" 0 0 (some .int) "placeOf" D dA B n0 s0 (QM below args s D dA B n0 s0 vI) 19 [(0, vi l0)] [] h (M_placeOf_19 N l0 h) := by
  unfold M_placeOf_19
  refine j_iload_n d_M_placeOf_19 0 rfl rfl ?_
  refine j_bipush (v := 48) d_M_placeOf_20 (by decide) ?_
  refine j_icmp_ne (tgt := 30) d_M_placeOf_22 (by decide) ?_ ?_
  · refine j_bipush (v := 10) d_M_placeOf_25 (by decide) ?_
    refine j_goto (tgt := 53) d_M_placeOf_27 (by decide) ?_
    exact j_retI d_M_placeOf_53
  · refine j_iload_n d_M_placeOf_30 0 rfl rfl ?_
    refine j_bipush (v := 69) d_M_placeOf_31 (by decide) ?_
    refine j_icmp_ne (tgt := 41) d_M_placeOf_33 (by decide) ?_ ?_
    · refine j_bipush (v := 11) d_M_placeOf_36 (by decide) ?_
      refine j_goto (tgt := 53) d_M_placeOf_38 (by decide) ?_
      exact j_retI d_M_placeOf_53
    · refine j_iload_n d_M_placeOf_41 0 rfl rfl ?_
      refine j_bipush (v := 84) d_M_placeOf_42 (by decide) ?_
      refine j_icmp_ne (tgt := 52) d_M_placeOf_44 (by decide) ?_ ?_
      · refine j_bipush (v := 12) d_M_placeOf_47 (by decide) ?_
        refine j_goto (tgt := 53) d_M_placeOf_49 (by decide) ?_
        exact j_retI d_M_placeOf_53
      · refine j_iconst (v := 0) d_M_placeOf_52 (by decide) ?_
        exact j_retI d_M_placeOf_53
set_option maxRecDepth 20000 in
theorem jc_M_placeOf (N : Nat) (l0 : Int32) (h : Hp) : J p l e R s m args below meth c prog_15_method_21_code 1 "RingingChamberModel" 0 0 (some .int) "placeOf" D dA B n0 s0 (QM below args s D dA B n0 s0 vI) 0 [(0, vi l0)] [] h (M_placeOf N l0 h) := by
  unfold M_placeOf
  refine j_iload_n d_M_placeOf_0 0 rfl rfl ?_
  refine j_bipush (v := 49) d_M_placeOf_1 (by decide) ?_
  refine j_icmp_lt (tgt := 19) d_M_placeOf_3 (by decide) ?_ ?_
  · exact jc_M_placeOf_19 N l0 h
  · refine j_iload_n d_M_placeOf_6 0 rfl rfl ?_
    refine j_bipush (v := 57) d_M_placeOf_7 (by decide) ?_
    refine j_icmp_gt (tgt := 19) d_M_placeOf_9 (by decide) ?_ ?_
    · exact jc_M_placeOf_19 N l0 h
    · refine j_iload_n d_M_placeOf_12 0 rfl rfl ?_
      refine j_bipush (v := 48) d_M_placeOf_13 (by decide) ?_
      refine j_isub d_M_placeOf_15 ?_
      refine j_goto (tgt := 53) d_M_placeOf_16 (by decide) ?_
      exact j_retI d_M_placeOf_53
set_option maxRecDepth 20000 in
theorem ct_M_placeOf (N : Nat) (l : Launch) (D : va_G) (dA : Nat → ClassId) (B : Nat) (l0 : Int32) (h : Hp) : Ct l (⟨"RingingChamberModel", "placeOf", "(I)I"⟩ : MethodName) prog_15_method_21_code 1 (some .int) 0 0 D dA B [vi l0] h vI (M_placeOf N l0 h) :=
  Ct.of2 (own := "RingingChamberModel") (nme := "placeOf") (lv := [(0, vi l0)]) rfl rfl (by decide) (Nat.le_of_ble_eq_true rfl) rfl (fun p e R s m args below meth c => jc_M_placeOf N l0 h)
theorem d_M_cross_0 : decode prog_15_method_23_code 0 = .ok (.iconst 0, 1) := by decide +kernel
theorem d_M_cross_1 : decode prog_15_method_23_code 1 = .ok (.istore_n 1, 1) := by decide +kernel
theorem d_M_cross_2 : decode prog_15_method_23_code 2 = .ok (.iconst 1, 1) := by decide +kernel
theorem d_M_cross_3 : decode prog_15_method_23_code 3 = .ok (.istore_n 2, 1) := by decide +kernel
theorem d_M_cross_4 : decode prog_15_method_23_code 4 = .ok (.iload_n 2, 1) := by decide +kernel
theorem d_M_cross_5 : decode prog_15_method_23_code 5 = .ok (.iconst 1, 1) := by decide +kernel
theorem d_M_cross_6 : decode prog_15_method_23_code 6 = .ok (.iadd, 1) := by decide +kernel
theorem d_M_cross_7 : decode prog_15_method_23_code 7 = .ok (.aload_n 0, 1) := by decide +kernel
theorem d_M_cross_8 : decode prog_15_method_23_code 8 = .ok (.getfield 105, 3) := by decide +kernel
theorem d_M_cross_11 : decode prog_15_method_23_code 11 = .ok (.if_icmp .gt 17, 3) := by decide +kernel
theorem d_M_cross_14 : decode prog_15_method_23_code 14 = .ok (.iload_n 1, 1) := by decide +kernel
theorem d_M_cross_15 : decode prog_15_method_23_code 15 = .ok (.iconst 1, 1) := by decide +kernel
theorem d_M_cross_16 : decode prog_15_method_23_code 16 = .ok (.iload_n 2, 1) := by decide +kernel
theorem d_M_cross_17 : decode prog_15_method_23_code 17 = .ok (.iconst 1, 1) := by decide +kernel
theorem d_M_cross_18 : decode prog_15_method_23_code 18 = .ok (.isub, 1) := by decide +kernel
theorem d_M_cross_19 : decode prog_15_method_23_code 19 = .ok (.ishl, 1) := by decide +kernel
theorem d_M_cross_20 : decode prog_15_method_23_code 20 = .ok (.ior, 1) := by decide +kernel
theorem d_M_cross_21 : decode prog_15_method_23_code 21 = .ok (.istore_n 1, 1) := by decide +kernel
theorem d_M_cross_22 : decode prog_15_method_23_code 22 = .ok (.iinc 2 2, 3) := by decide +kernel
theorem d_M_cross_25 : decode prog_15_method_23_code 25 = .ok (.goto (-21), 3) := by decide +kernel
theorem d_M_cross_28 : decode prog_15_method_23_code 28 = .ok (.iload_n 1, 1) := by decide +kernel
theorem d_M_cross_29 : decode prog_15_method_23_code 29 = .ok (.ireturn, 1) := by decide +kernel
set_option maxRecDepth 20000 in
theorem jc_M_cross_4 (N : Nat) : ∀ (n : Nat) (l0 : Option Nat) (l1 : Int32) (l2 : Int32) (h : Hp), J p l e R s m args below meth c prog_15_method_23_code 3 "RingingChamberModel" 0 0 (some .int) "cross" D dA B n0 s0 (QM below args s D dA B n0 s0 vI) 4 [(0, vr l0), (1, vi l1), (2, vi l2)] [] h (M_cross_4 N n l0 l1 l2 h) := by
  intro n
  induction n with
  | zero => intros; exact J.none
  | succ n ih =>
    intro l0 l1 l2 h
    rw [M_cross_4]
    refine j_iload_n d_M_cross_4 2 rfl rfl ?_
    refine j_iconst (v := 1) d_M_cross_5 (by decide) ?_
    refine j_iadd d_M_cross_6 ?_
    refine j_aload_n d_M_cross_7 0 rfl rfl ?_
    refine j_getI d_M_cross_8 fl_12_105.r (fun x1 => ?_)
    refine j_icmp_gt (tgt := 28) d_M_cross_11 (by decide) ?_ ?_
    · refine j_iload_n d_M_cross_28 1 rfl rfl ?_
      exact j_retI d_M_cross_29
    · refine j_iload_n d_M_cross_14 1 rfl rfl ?_
      refine j_iconst (v := 1) d_M_cross_15 (by decide) ?_
      refine j_iload_n d_M_cross_16 2 rfl rfl ?_
      refine j_iconst (v := 1) d_M_cross_17 (by decide) ?_
      refine j_isub d_M_cross_18 ?_
      refine j_ishl d_M_cross_19 ?_
      refine j_ior d_M_cross_20 ?_
      refine j_nmi (fun x2 => ?_)
      refine j_istore_n (lv' := [(1, vi x2), (0, vr l0), (2, vi l2)]) d_M_cross_21 rfl (by decide) rfl ?_
      refine j_iinc (lvv := fun x3 => [(2, vi x3), (1, vi x2), (0, vr l0)]) d_M_cross_22 2 rfl rfl (by decide) (fun _ => rfl) (fun x3 => ?_)
      refine j_goto (tgt := 4) d_M_cross_25 (by decide) ?_
      exact J.sub [2, 1, 0] rfl (ih l0 x2 x3 h)
set_option maxRecDepth 20000 in
theorem jc_M_cross (N : Nat) (l0 : Option Nat) (h : Hp) : J p l e R s m args below meth c prog_15_method_23_code 3 "RingingChamberModel" 0 0 (some .int) "cross" D dA B n0 s0 (QM below args s D dA B n0 s0 vI) 0 [(0, vr l0)] [] h (M_cross N l0 h) := by
  unfold M_cross
  refine j_iconst (v := 0) d_M_cross_0 (by decide) ?_
  refine j_istore_n (lv' := [(1, vi 0), (0, vr l0)]) d_M_cross_1 rfl (by decide) rfl ?_
  refine j_iconst (v := 1) d_M_cross_2 (by decide) ?_
  refine j_istore_n (lv' := [(2, vi 1), (1, vi 0), (0, vr l0)]) d_M_cross_3 rfl (by decide) rfl ?_
  exact J.sub [2, 1, 0] rfl (jc_M_cross_4 N N l0 0 1 h)
set_option maxRecDepth 20000 in
theorem ct_M_cross (N : Nat) (l : Launch) (D : va_G) (dA : Nat → ClassId) (B : Nat) (l0 : Option Nat) (h : Hp) : Ct l (⟨"RingingChamberModel", "cross", "()I"⟩ : MethodName) prog_15_method_23_code 3 (some .int) 0 0 D dA B [vr l0] h vI (M_cross N l0 h) :=
  Ct.of2 (own := "RingingChamberModel") (nme := "cross") (lv := [(0, vr l0)]) rfl rfl (by decide) (Nat.le_of_ble_eq_true rfl) rfl (fun p e R s m args below meth c => jc_M_cross N l0 h)
theorem d_M_places_0 : decode prog_15_method_24_code 0 = .ok (.iconst 0, 1) := by decide +kernel
theorem d_M_places_1 : decode prog_15_method_24_code 1 = .ok (.istore_n 1, 1) := by decide +kernel
theorem d_M_places_2 : decode prog_15_method_24_code 2 = .ok (.iconst 0, 1) := by decide +kernel
theorem d_M_places_3 : decode prog_15_method_24_code 3 = .ok (.istore_n 2, 1) := by decide +kernel
theorem d_M_places_4 : decode prog_15_method_24_code 4 = .ok (.aload_n 0, 1) := by decide +kernel
theorem d_M_places_5 : decode prog_15_method_24_code 5 = .ok (.getfield 171, 3) := by decide +kernel
theorem d_M_places_8 : decode prog_15_method_24_code 8 = .ok (.aload_n 0, 1) := by decide +kernel
theorem d_M_places_9 : decode prog_15_method_24_code 9 = .ok (.getfield 168, 3) := by decide +kernel
theorem d_M_places_12 : decode prog_15_method_24_code 12 = .ok (.if_icmp .ge 118, 3) := by decide +kernel
theorem d_M_places_15 : decode prog_15_method_24_code 15 = .ok (.aload_n 0, 1) := by decide +kernel
theorem d_M_places_16 : decode prog_15_method_24_code 16 = .ok (.getfield 9, 3) := by decide +kernel
theorem d_M_places_19 : decode prog_15_method_24_code 19 = .ok (.aload_n 0, 1) := by decide +kernel
theorem d_M_places_20 : decode prog_15_method_24_code 20 = .ok (.getfield 171, 3) := by decide +kernel
theorem d_M_places_23 : decode prog_15_method_24_code 23 = .ok (.iaload, 1) := by decide +kernel
theorem d_M_places_24 : decode prog_15_method_24_code 24 = .ok (.invokestatic 174, 3) := by decide +kernel
theorem d_M_places_27 : decode prog_15_method_24_code 27 = .ok (.ifCond .le 103, 3) := by decide +kernel
theorem d_M_places_30 : decode prog_15_method_24_code 30 = .ok (.aload_n 0, 1) := by decide +kernel
theorem d_M_places_31 : decode prog_15_method_24_code 31 = .ok (.getfield 9, 3) := by decide +kernel
theorem d_M_places_34 : decode prog_15_method_24_code 34 = .ok (.aload_n 0, 1) := by decide +kernel
theorem d_M_places_35 : decode prog_15_method_24_code 35 = .ok (.getfield 171, 3) := by decide +kernel
theorem d_M_places_38 : decode prog_15_method_24_code 38 = .ok (.iaload, 1) := by decide +kernel
theorem d_M_places_39 : decode prog_15_method_24_code 39 = .ok (.invokestatic 174, 3) := by decide +kernel
theorem d_M_places_42 : decode prog_15_method_24_code 42 = .ok (.istore_n 3, 1) := by decide +kernel
theorem d_M_places_43 : decode prog_15_method_24_code 43 = .ok (.iload_n 3, 1) := by decide +kernel
theorem d_M_places_44 : decode prog_15_method_24_code 44 = .ok (.iload_n 2, 1) := by decide +kernel
theorem d_M_places_45 : decode prog_15_method_24_code 45 = .ok (.if_icmp .le 26, 3) := by decide +kernel
theorem d_M_places_48 : decode prog_15_method_24_code 48 = .ok (.iload_n 3, 1) := by decide +kernel
theorem d_M_places_49 : decode prog_15_method_24_code 49 = .ok (.aload_n 0, 1) := by decide +kernel
theorem d_M_places_50 : decode prog_15_method_24_code 50 = .ok (.getfield 105, 3) := by decide +kernel
theorem d_M_places_53 : decode prog_15_method_24_code 53 = .ok (.if_icmp .gt 18, 3) := by decide +kernel
theorem d_M_places_56 : decode prog_15_method_24_code 56 = .ok (.iload_n 2, 1) := by decide +kernel
theorem d_M_places_57 : decode prog_15_method_24_code 57 = .ok (.ifCond .le 16, 3) := by decide +kernel
theorem d_M_places_60 : decode prog_15_method_24_code 60 = .ok (.iload_n 3, 1) := by decide +kernel
theorem d_M_places_61 : decode prog_15_method_24_code 61 = .ok (.iload_n 2, 1) := by decide +kernel
theorem d_M_places_62 : decode prog_15_method_24_code 62 = .ok (.isub, 1) := by decide +kernel
theorem d_M_places_63 : decode prog_15_method_24_code 63 = .ok (.iconst 1, 1) := by decide +kernel
theorem d_M_places_64 : decode prog_15_method_24_code 64 = .ok (.isub, 1) := by decide +kernel
theorem d_M_places_65 : decode prog_15_method_24_code 65 = .ok (.iconst 2, 1) := by decide +kernel
theorem d_M_places_66 : decode prog_15_method_24_code 66 = .ok (.irem, 1) := by decide +kernel
theorem d_M_places_67 : decode prog_15_method_24_code 67 = .ok (.iconst 1, 1) := by decide +kernel
theorem d_M_places_68 : decode prog_15_method_24_code 68 = .ok (.if_icmp .ne 5, 3) := by decide +kernel
theorem d_M_places_71 : decode prog_15_method_24_code 71 = .ok (.iconst 0, 1) := by decide +kernel
theorem d_M_places_72 : decode prog_15_method_24_code 72 = .ok (.ireturn, 1) := by decide +kernel
theorem d_M_places_73 : decode prog_15_method_24_code 73 = .ok (.iload_n 2, 1) := by decide +kernel
theorem d_M_places_74 : decode prog_15_method_24_code 74 = .ok (.ifCond .ne 13, 3) := by decide +kernel
theorem d_M_places_77 : decode prog_15_method_24_code 77 = .ok (.iconst 1, 1) := by decide +kernel
theorem d_M_places_78 : decode prog_15_method_24_code 78 = .ok (.iload_n 3, 1) := by decide +kernel
theorem d_M_places_79 : decode prog_15_method_24_code 79 = .ok (.iconst 1, 1) := by decide +kernel
theorem d_M_places_80 : decode prog_15_method_24_code 80 = .ok (.isub, 1) := by decide +kernel
theorem d_M_places_81 : decode prog_15_method_24_code 81 = .ok (.iconst 2, 1) := by decide +kernel
theorem d_M_places_82 : decode prog_15_method_24_code 82 = .ok (.irem, 1) := by decide +kernel
theorem d_M_places_83 : decode prog_15_method_24_code 83 = .ok (.iadd, 1) := by decide +kernel
theorem d_M_places_84 : decode prog_15_method_24_code 84 = .ok (.goto 6, 3) := by decide +kernel
theorem d_M_places_87 : decode prog_15_method_24_code 87 = .ok (.iload_n 2, 1) := by decide +kernel
theorem d_M_places_88 : decode prog_15_method_24_code 88 = .ok (.iconst 1, 1) := by decide +kernel
theorem d_M_places_89 : decode prog_15_method_24_code 89 = .ok (.iadd, 1) := by decide +kernel
theorem d_M_places_90 : decode prog_15_method_24_code 90 = .ok (.istore 4, 2) := by decide +kernel
theorem d_M_places_92 : decode prog_15_method_24_code 92 = .ok (.iload 4, 2) := by decide +kernel
theorem d_M_places_94 : decode prog_15_method_24_code 94 = .ok (.iconst 1, 1) := by decide +kernel
theorem d_M_places_95 : decode prog_15_method_24_code 95 = .ok (.iadd, 1) := by decide +kernel
theorem d_M_places_96 : decode prog_15_method_24_code 96 = .ok (.iload_n 3, 1) := by decide +kernel
theorem d_M_places_97 : decode prog_15_method_24_code 97 = .ok (.if_icmp .ge 18, 3) := by decide +kernel
theorem d_M_places_100 : decode prog_15_method_24_code 100 = .ok (.iload_n 1, 1) := by decide +kernel
theorem d_M_places_101 : decode prog_15_method_24_code 101 = .ok (.iconst 1, 1) := by decide +kernel
theorem d_M_places_102 : decode prog_15_method_24_code 102 = .ok (.iload 4, 2) := by decide +kernel
theorem d_M_places_104 : decode prog_15_method_24_code 104 = .ok (.iconst 1, 1) := by decide +kernel
theorem d_M_places_105 : decode prog_15_method_24_code 105 = .ok (.isub, 1) := by decide +kernel
theorem d_M_places_106 : decode prog_15_method_24_code 106 = .ok (.ishl, 1) := by decide +kernel
theorem d_M_places_107 : decode prog_15_method_24_code 107 = .ok (.ior, 1) := by decide +kernel
theorem d_M_places_108 : decode prog_15_method_24_code 108 = .ok (.istore_n 1, 1) := by decide +kernel
theorem d_M_places_109 : decode prog_15_method_24_code 109 = .ok (.iinc 4 2, 3) := by decide +kernel
theorem d_M_places_112 : decode prog_15_method_24_code 112 = .ok (.goto (-20), 3) := by decide +kernel
theorem d_M_places_115 : decode prog_15_method_24_code 115 = .ok (.iload_n 3, 1) := by decide +kernel
theorem d_M_places_116 : decode prog_15_method_24_code 116 = .ok (.istore_n 2, 1) := by decide +kernel
theorem d_M_places_117 : decode prog_15_method_24_code 117 = .ok (.aload_n 0, 1) := by decide +kernel
theorem d_M_places_118 : decode prog_15_method_24_code 118 = .ok (.dup, 1) := by decide +kernel
theorem d_M_places_119 : decode prog_15_method_24_code 119 = .ok (.getfield 171, 3) := by decide +kernel
theorem d_M_places_122 : decode prog_15_method_24_code 122 = .ok (.iconst 1, 1) := by decide +kernel
theorem d_M_places_123 : decode prog_15_method_24_code 123 = .ok (.iadd, 1) := by decide +kernel
theorem d_M_places_124 : decode prog_15_method_24_code 124 = .ok (.putfield 171, 3) := by decide +kernel
theorem d_M_places_127 : decode prog_15_method_24_code 127 = .ok (.goto (-123), 3) := by decide +kernel
theorem d_M_places_130 : decode prog_15_method_24_code 130 = .ok (.iload_n 2, 1) := by decide +kernel
theorem d_M_places_131 : decode prog_15_method_24_code 131 = .ok (.iconst 1, 1) := by decide +kernel
theorem d_M_places_132 : decode prog_15_method_24_code 132 = .ok (.iadd, 1) := by decide +kernel
theorem d_M_places_133 : decode prog_15_method_24_code 133 = .ok (.istore_n 3, 1) := by decide +kernel
theorem d_M_places_134 : decode prog_15_method_24_code 134 = .ok (.iload_n 3, 1) := by decide +kernel
theorem d_M_places_135 : decode prog_15_method_24_code 135 = .ok (.iconst 1, 1) := by decide +kernel
theorem d_M_places_136 : decode prog_15_method_24_code 136 = .ok (.iadd, 1) := by decide +kernel
theorem d_M_places_137 : decode prog_15_method_24_code 137 = .ok (.aload_n 0, 1) := by decide +kernel
theorem d_M_places_138 : decode prog_15_method_24_code 138 = .ok (.getfield 105, 3) := by decide +kernel
theorem d_M_places_141 : decode prog_15_method_24_code 141 = .ok (.if_icmp .gt 17, 3) := by decide +kernel
theorem d_M_places_144 : decode prog_15_method_24_code 144 = .ok (.iload_n 1, 1) := by decide +kernel
theorem d_M_places_145 : decode prog_15_method_24_code 145 = .ok (.iconst 1, 1) := by decide +kernel
theorem d_M_places_146 : decode prog_15_method_24_code 146 = .ok (.iload_n 3, 1) := by decide +kernel
theorem d_M_places_147 : decode prog_15_method_24_code 147 = .ok (.iconst 1, 1) := by decide +kernel
theorem d_M_places_148 : decode prog_15_method_24_code 148 = .ok (.isub, 1) := by decide +kernel
theorem d_M_places_149 : decode prog_15_method_24_code 149 = .ok (.ishl, 1) := by decide +kernel
theorem d_M_places_150 : decode prog_15_method_24_code 150 = .ok (.ior, 1) := by decide +kernel
theorem d_M_places_151 : decode prog_15_method_24_code 151 = .ok (.istore_n 1, 1) := by decide +kernel
theorem d_M_places_152 : decode prog_15_method_24_code 152 = .ok (.iinc 3 2, 3) := by decide +kernel
theorem d_M_places_155 : decode prog_15_method_24_code 155 = .ok (.goto (-21), 3) := by decide +kernel
theorem d_M_places_158 : decode prog_15_method_24_code 158 = .ok (.aload_n 0, 1) := by decide +kernel
theorem d_M_places_159 : decode prog_15_method_24_code 159 = .ok (.getfield 92, 3) := by decide +kernel
theorem d_M_places_162 : decode prog_15_method_24_code 162 = .ok (.aload_n 0, 1) := by decide +kernel
theorem d_M_places_163 : decode prog_15_method_24_code 163 = .ok (.getfield 178, 3) := by decide +kernel
theorem d_M_places_166 : decode prog_15_method_24_code 166 = .ok (.iload_n 1, 1) := by decide +kernel
theorem d_M_places_167 : decode prog_15_method_24_code 167 = .ok (.iastore, 1) := by decide +kernel
theorem d_M_places_168 : decode prog_15_method_24_code 168 = .ok (.aload_n 0, 1) := by decide +kernel
theorem d_M_places_169 : decode prog_15_method_24_code 169 = .ok (.dup, 1) := by decide +kernel
theorem d_M_places_170 : decode prog_15_method_24_code 170 = .ok (.getfield 178, 3) := by decide +kernel
theorem d_M_places_173 : decode prog_15_method_24_code 173 = .ok (.iconst 1, 1) := by decide +kernel
theorem d_M_places_174 : decode prog_15_method_24_code 174 = .ok (.iadd, 1) := by decide +kernel
theorem d_M_places_175 : decode prog_15_method_24_code 175 = .ok (.putfield 178, 3) := by decide +kernel
theorem d_M_places_178 : decode prog_15_method_24_code 178 = .ok (.iconst 1, 1) := by decide +kernel
theorem d_M_places_179 : decode prog_15_method_24_code 179 = .ok (.ireturn, 1) := by decide +kernel
set_option maxRecDepth 20000 in
theorem jc_M_places_92 (N : Nat) (re4 : Option Nat → Int32 → Int32 → Hp → Option (Int32 × Hp)) (hre4 : ∀ y0 y1 y2 h, J p l e R s m args below meth c prog_15_method_24_code 5 "RingingChamberModel" 1 20 (some .boolean) "places" D dA B n0 s0 (QM below args s D dA B n0 s0 vI) 4 [(0, vr y0), (1, vi y1), (2, vi y2)] [] h (re4 y0 y1 y2 h)) : ∀ (n : Nat) (l0 : Option Nat) (l1 : Int32) (l3 : Int32) (l4 : Int32) (h : Hp), J p l e R s m args below meth c prog_15_method_24_code 5 "RingingChamberModel" 1 20 (some .boolean) "places" D dA B n0 s0 (QM below args s D dA B n0 s0 vI) 92 [(0, vr l0), (1, vi l1), (3, vi l3), (4, vi l4)] [] h (M_places_92 N re4 n l0 l1 l3 l4 h) := by
  intro n
  induction n with
  | zero => intros; exact J.none
  | succ n ih =>
    intro l0 l1 l3 l4 h
    rw [M_places_92]
    refine j_iload d_M_places_92 3 rfl ?_
    refine j_iconst (v := 1) d_M_places_94 (by decide) ?_
    refine j_iadd d_M_places_95 ?_
    refine j_iload_n d_M_places_96 2 rfl rfl ?_
    refine j_icmp_ge (tgt := 115) d_M_places_97 (by decide) ?_ ?_
    · refine j_iload_n d_M_places_115 2 rfl rfl ?_
      refine j_istore_n (lv' := [(2, vi l3), (0, vr l0), (1, vi l1), (3, vi l3), (4, vi l4)]) d_M_places_116 rfl (by decide) rfl ?_
      refine j_aload_n d_M_places_117 1 rfl rfl ?_
      refine j_dup d_M_places_118 rfl ?_
      refine j_getI d_M_places_119 fl_12_171.r (fun x1 => ?_)
      refine j_iconst (v := 1) d_M_places_122 (by decide) ?_
      refine j_iadd d_M_places_123 ?_
      refine j_putI d_M_places_124 fl_12_171 (Or.inl rfl) (fun h2 => ?_)
      refine j_goto (tgt := 4) d_M_places_127 (by decide) ?_
      exact J.sub [1, 2, 0] rfl (hre4 l0 l1 l3 h2)
    · refine j_iload_n d_M_places_100 1 rfl rfl ?_
      refine j_iconst (v := 1) d_M_places_101 (by decide) ?_
      refine j_iload d_M_places_102 3 rfl ?_
      refine j_iconst (v := 1) d_M_places_104 (by decide) ?_
      refine j_isub d_M_places_105 ?_
      refine j_ishl d_M_places_106 ?_
      refine j_ior d_M_places_107 ?_
      refine j_nmi (fun x3 => ?_)
      refine j_istore_n (lv' := [(1, vi x3), (0, vr l0), (3, vi l3), (4, vi l4)]) d_M_places_108 rfl (by decide) rfl ?_
      refine j_iinc (lvv := fun x4 => [(4, vi x4), (1, vi x3), (0, vr l0), (3, vi l3)]) d_M_places_109 3 rfl rfl (by decide) (fun _ => rfl) (fun x4 => ?_)
      refine j_goto (tgt := 92) d_M_places_112 (by decide) ?_
      exact J.sub [2, 1, 3, 0] rfl (ih l0 x3 l3 x4 h)
set_option maxRecDepth 20000 in
theorem jc_M_places_90 (N : Nat) (re4 : Option Nat → Int32 → Int32 → Hp → Option (Int32 × Hp)) (hre4 : ∀ y0 y1 y2 h, J p l e R s m args below meth c prog_15_method_24_code 5 "RingingChamberModel" 1 20 (some .boolean) "places" D dA B n0 s0 (QM below args s D dA B n0 s0 vI) 4 [(0, vr y0), (1, vi y1), (2, vi y2)] [] h (re4 y0 y1 y2 h)) (l0 : Option Nat) (l1 : Int32) (l3 : Int32) (u0 : Int32) (h : Hp) : J p l e R s m args below meth c prog_15_method_24_code 5 "RingingChamberModel" 1 20 (some .boolean) "places" D dA B n0 s0 (QM below args s D dA B n0 s0 vI) 90 [(0, vr l0), (1, vi l1), (3, vi l3)] [vi u0] h (M_places_90 N re4 l0 l1 l3 u0 h) := by
  unfold M_places_90
  refine j_istore (lv' := [(4, vi u0), (0, vr l0), (1, vi l1), (3, vi l3)]) d_M_places_90 (by decide) rfl ?_
  exact J.sub [1, 2, 3, 0] rfl (jc_M_places_92 N re4 hre4 N l0 l1 l3 u0 h)
set_option maxRecDepth 20000 in
theorem jc_M_places_73 (N : Nat) (re4 : Option Nat → Int32 → Int32 → Hp → Option (Int32 × Hp)) (hre4 : ∀ y0 y1 y2 h, J p l e R s m args below meth c prog_15_method_24_code 5 "RingingChamberModel" 1 20 (some .boolean) "places" D dA B n0 s0 (QM below args s D dA B n0 s0 vI) 4 [(0, vr y0), (1, vi y1), (2, vi y2)] [] h (re4 y0 y1 y2 h)) (l0 : Option Nat) (l1 : Int32) (l2 : Int32) (l3 : Int32) (h : Hp) : J p l e R s m args below meth c prog_15_method_24_code 5 "RingingChamberModel" 1 20 (some .boolean) "places" D dA B n0 s0 (QM below args s D dA B n0 s0 vI) 73 [(0, vr l0), (1, vi l1), (2, vi l2), (3, vi l3)] [] h (M_places_73 N re4 l0 l1 l2 l3 h) := by
  unfold M_places_73
  refine j_iload_n d_M_places_73 2 rfl rfl ?_
  refine j_if_ne (tgt := 87) d_M_places_74 (by decide) ?_ ?_
  · refine j_iconst (v := 1) d_M_places_77 (by decide) ?_
    refine j_iload_n d_M_places_78 3 rfl rfl ?_
    refine j_iconst (v := 1) d_M_places_79 (by decide) ?_
    refine j_isub d_M_places_80 ?_
    refine j_iconst (v := 2) d_M_places_81 (by decide) ?_
    refine j_irem d_M_places_82 ?_
    refine j_iadd d_M_places_83 ?_
    refine j_goto (tgt := 90) d_M_places_84 (by decide) ?_
    exact J.sub [0, 1, 3] rfl (jc_M_places_90 N re4 hre4 l0 l1 l3 ((1 : Int32) + ((l3 - (1 : Int32)) - (l3 - (1 : Int32)) / 2 * 2)) h)
  · refine j_iload_n d_M_places_87 2 rfl rfl ?_
    refine j_iconst (v := 1) d_M_places_88 (by decide) ?_
    refine j_iadd d_M_places_89 ?_
    exact J.sub [0, 1, 3] rfl (jc_M_places_90 N re4 hre4 l0 l1 l3 (l2 + (1 : Int32)) h)
set_option maxRecDepth 20000 in
theorem jc_M_places_134 (N : Nat) : ∀ (n : Nat) (l0 : Option Nat) (l1 : Int32) (l3 : Int32) (h : Hp), J p l e R s m args below meth c prog_15_method_24_code 5 "RingingChamberModel" 1 20 (some .boolean) "places" D dA B n0 s0 (QM below args s D dA B n0 s0 vI) 134 [(0, vr l0), (1, vi l1), (3, vi l3)] [] h (M_places_134 N n l0 l1 l3 h) := by
  intro n
  induction n with
  | zero => intros; exact J.none
  | succ n ih =>
    intro l0 l1 l3 h
    rw [M_places_134]
    refine j_iload_n d_M_places_134 2 rfl rfl ?_
    refine j_iconst (v := 1) d_M_places_135 (by decide) ?_
    refine j_iadd d_M_places_136 ?_
    refine j_aload_n d_M_places_137 0 rfl rfl ?_
    refine j_getI d_M_places_138 fl_12_105.r (fun x1 => ?_)
    refine j_icmp_gt (tgt := 158) d_M_places_141 (by decide) ?_ ?_
    · refine j_aload_n d_M_places_158 0 rfl rfl ?_
      refine j_getR d_M_places_159 fl_12_92.r (fun x2 => ?_)
      refine j_aload_n d_M_places_162 0 rfl rfl ?_
      refine j_getI d_M_places_163 fl_12_178.r (fun x3 => ?_)
      refine j_iload_n d_M_places_166 1 rfl rfl ?_
      refine j_iast d_M_places_167 (fun h4 => ?_)
      refine j_aload_n d_M_places_168 0 rfl rfl ?_
      refine j_dup d_M_places_169 rfl ?_
      refine j_getI d_M_places_170 fl_12_178.r (fun x5 => ?_)
      refine j_iconst (v := 1) d_M_places_173 (by decide) ?_
      refine j_iadd d_M_places_174 ?_
      refine j_putI d_M_places_175 fl_12_178 (Or.inl rfl) (fun h6 => ?_)
      refine j_iconst (v := 1) d_M_places_178 (by decide) ?_
      exact j_retZ d_M_places_179
    · refine j_iload_n d_M_places_144 1 rfl rfl ?_
      refine j_iconst (v := 1) d_M_places_145 (by decide) ?_
      refine j_iload_n d_M_places_146 2 rfl rfl ?_
      refine j_iconst (v := 1) d_M_places_147 (by decide) ?_
      refine j_isub d_M_places_148 ?_
      refine j_ishl d_M_places_149 ?_
      refine j_ior d_M_places_150 ?_
      refine j_nmi (fun x7 => ?_)
      refine j_istore_n (lv' := [(1, vi x7), (0, vr l0), (3, vi l3)]) d_M_places_151 rfl (by decide) rfl ?_
      refine j_iinc (lvv := fun x8 => [(3, vi x8), (1, vi x7), (0, vr l0)]) d_M_places_152 2 rfl rfl (by decide) (fun _ => rfl) (fun x8 => ?_)
      refine j_goto (tgt := 134) d_M_places_155 (by decide) ?_
      exact J.sub [2, 1, 0] rfl (ih l0 x7 x8 h)
set_option maxRecDepth 20000 in
theorem jc_M_places_130 (N : Nat) (l0 : Option Nat) (l1 : Int32) (l2 : Int32) (h : Hp) : J p l e R s m args below meth c prog_15_method_24_code 5 "RingingChamberModel" 1 20 (some .boolean) "places" D dA B n0 s0 (QM below args s D dA B n0 s0 vI) 130 [(0, vr l0), (1, vi l1), (2, vi l2)] [] h (M_places_130 N l0 l1 l2 h) := by
  unfold M_places_130
  refine j_iload_n d_M_places_130 2 rfl rfl ?_
  refine j_iconst (v := 1) d_M_places_131 (by decide) ?_
  refine j_iadd d_M_places_132 ?_
  refine j_nmi (fun x1 => ?_)
  refine j_istore_n (lv' := [(3, vi x1), (0, vr l0), (1, vi l1), (2, vi l2)]) d_M_places_133 rfl (by decide) rfl ?_
  exact J.sub [1, 2, 0] rfl (jc_M_places_134 N N l0 l1 x1 h)
set_option maxRecDepth 20000 in
theorem jc_M_places_4 (N : Nat) : ∀ (n : Nat) (l0 : Option Nat) (l1 : Int32) (l2 : Int32) (h : Hp), J p l e R s m args below meth c prog_15_method_24_code 5 "RingingChamberModel" 1 20 (some .boolean) "places" D dA B n0 s0 (QM below args s D dA B n0 s0 vI) 4 [(0, vr l0), (1, vi l1), (2, vi l2)] [] h (M_places_4 N n l0 l1 l2 h) := by
  intro n
  induction n with
  | zero => intros; exact J.none
  | succ n ih =>
    intro l0 l1 l2 h
    rw [M_places_4]
    refine j_aload_n d_M_places_4 0 rfl rfl ?_
    refine j_getI d_M_places_5 fl_12_171.r (fun x1 => ?_)
    refine j_aload_n d_M_places_8 0 rfl rfl ?_
    refine j_getI d_M_places_9 fl_12_168.r (fun x2 => ?_)
    refine j_icmp_ge (tgt := 130) d_M_places_12 (by decide) ?_ ?_
    · exact jc_M_places_130 N l0 l1 l2 h
    · refine j_aload_n d_M_places_15 0 rfl rfl ?_
      refine j_getR d_M_places_16 fl_12_9.r (fun x3 => ?_)
      refine j_aload_n d_M_places_19 0 rfl rfl ?_
      refine j_getI d_M_places_20 fl_12_171.r (fun x4 => ?_)
      refine j_iald d_M_places_23 (fun x5 => ?_)
      refine j_cSI1 d_M_places_24 sl_12_174 ks_M_placeOf (ct_M_placeOf N l D dA B x5 h) (by decide) (by decide) (Nat.le_of_ble_eq_true rfl) (fun x7 h6 => ?_)
      refine j_if_le (tgt := 130) d_M_places_27 (by decide) ?_ ?_
      · exact jc_M_places_130 N l0 l1 l2 h6
      · refine j_aload_n d_M_places_30 0 rfl rfl ?_
        refine j_getR d_M_places_31 fl_12_9.r (fun x8 => ?_)
        refine j_aload_n d_M_places_34 0 rfl rfl ?_
        refine j_getI d_M_places_35 fl_12_171.r (fun x9 => ?_)
        refine j_iald d_M_places_38 (fun x10 => ?_)
        refine j_cSI1 d_M_places_39 sl_12_174 ks_M_placeOf (ct_M_placeOf N l D dA B x10 h6) (by decide) (by decide) (Nat.le_of_ble_eq_true rfl) (fun x12 h11 => ?_)
        refine j_istore_n (lv' := [(3, vi x12), (0, vr l0), (1, vi l1), (2, vi l2)]) d_M_places_42 rfl (by decide) rfl ?_
        refine j_iload_n d_M_places_43 0 rfl rfl ?_
        refine j_iload_n d_M_places_44 3 rfl rfl ?_
        refine j_icmp_le (tgt := 71) d_M_places_45 (by decide) ?_ ?_
        · refine j_iconst (v := 0) d_M_places_71 (by decide) ?_
          exact j_retZ d_M_places_72
        · refine j_iload_n d_M_places_48 0 rfl rfl ?_
          refine j_aload_n d_M_places_49 1 rfl rfl ?_
          refine j_getI d_M_places_50 fl_12_105.r (fun x13 => ?_)
          refine j_icmp_gt (tgt := 71) d_M_places_53 (by decide) ?_ ?_
          · refine j_iconst (v := 0) d_M_places_71 (by decide) ?_
            exact j_retZ d_M_places_72
          · refine j_iload_n d_M_places_56 3 rfl rfl ?_
            refine j_if_le (tgt := 73) d_M_places_57 (by decide) ?_ ?_
            · exact J.sub [1, 2, 3, 0] rfl (jc_M_places_73 N (M_places_4 N n) ih l0 l1 l2 x12 h11)
            · refine j_iload_n d_M_places_60 0 rfl rfl ?_
              refine j_iload_n d_M_places_61 3 rfl rfl ?_
              refine j_isub d_M_places_62 ?_
              refine j_iconst (v := 1) d_M_places_63 (by decide) ?_
              refine j_isub d_M_places_64 ?_
              refine j_iconst (v := 2) d_M_places_65 (by decide) ?_
              refine j_irem d_M_places_66 ?_
              refine j_iconst (v := 1) d_M_places_67 (by decide) ?_
              refine j_icmp_ne (tgt := 73) d_M_places_68 (by decide) ?_ ?_
              · refine j_iconst (v := 0) d_M_places_71 (by decide) ?_
                exact j_retZ d_M_places_72
              · exact J.sub [1, 2, 3, 0] rfl (jc_M_places_73 N (M_places_4 N n) ih l0 l1 l2 x12 h11)
set_option maxRecDepth 20000 in
theorem jc_M_places (N : Nat) (l0 : Option Nat) (h : Hp) : J p l e R s m args below meth c prog_15_method_24_code 5 "RingingChamberModel" 1 20 (some .boolean) "places" D dA B n0 s0 (QM below args s D dA B n0 s0 vI) 0 [(0, vr l0)] [] h (M_places N l0 h) := by
  unfold M_places
  refine j_iconst (v := 0) d_M_places_0 (by decide) ?_
  refine j_istore_n (lv' := [(1, vi 0), (0, vr l0)]) d_M_places_1 rfl (by decide) rfl ?_
  refine j_iconst (v := 0) d_M_places_2 (by decide) ?_
  refine j_istore_n (lv' := [(2, vi 0), (1, vi 0), (0, vr l0)]) d_M_places_3 rfl (by decide) rfl ?_
  exact J.sub [2, 1, 0] rfl (jc_M_places_4 N N l0 0 0 h)
set_option maxRecDepth 20000 in
theorem ct_M_places (N : Nat) (l : Launch) (D : va_G) (dA : Nat → ClassId) (B : Nat) (l0 : Option Nat) (h : Hp) : Ct l (⟨"RingingChamberModel", "places", "()Z"⟩ : MethodName) prog_15_method_24_code 5 (some .boolean) 1 20 D dA B [vr l0] h vI (M_places N l0 h) :=
  Ct.of2 (own := "RingingChamberModel") (nme := "places") (lv := [(0, vr l0)]) rfl rfl (by decide) (Nat.le_of_ble_eq_true rfl) rfl (fun p e R s m args below meth c => jc_M_places N l0 h)
theorem d_M_block_0 : decode prog_15_method_22_code 0 = .ok (.aload_n 0, 1) := by decide +kernel
theorem d_M_block_1 : decode prog_15_method_22_code 1 = .ok (.iload_n 1, 1) := by decide +kernel
theorem d_M_block_2 : decode prog_15_method_22_code 2 = .ok (.putfield 171, 3) := by decide +kernel
theorem d_M_block_5 : decode prog_15_method_22_code 5 = .ok (.iconst 0, 1) := by decide +kernel
theorem d_M_block_6 : decode prog_15_method_22_code 6 = .ok (.istore_n 2, 1) := by decide +kernel
theorem d_M_block_7 : decode prog_15_method_22_code 7 = .ok (.iconst 0, 1) := by decide +kernel
theorem d_M_block_8 : decode prog_15_method_22_code 8 = .ok (.istore_n 3, 1) := by decide +kernel
theorem d_M_block_9 : decode prog_15_method_22_code 9 = .ok (.aload_n 0, 1) := by decide +kernel
theorem d_M_block_10 : decode prog_15_method_22_code 10 = .ok (.getfield 171, 3) := by decide +kernel
theorem d_M_block_13 : decode prog_15_method_22_code 13 = .ok (.aload_n 0, 1) := by decide +kernel
theorem d_M_block_14 : decode prog_15_method_22_code 14 = .ok (.getfield 168, 3) := by decide +kernel
theorem d_M_block_17 : decode prog_15_method_22_code 17 = .ok (.if_icmp .ge 15, 3) := by decide +kernel
theorem d_M_block_20 : decode prog_15_method_22_code 20 = .ok (.aload_n 0, 1) := by decide +kernel
theorem d_M_block_21 : decode prog_15_method_22_code 21 = .ok (.getfield 9, 3) := by decide +kernel
theorem d_M_block_24 : decode prog_15_method_22_code 24 = .ok (.aload_n 0, 1) := by decide +kernel
theorem d_M_block_25 : decode prog_15_method_22_code 25 = .ok (.getfield 171, 3) := by decide +kernel
theorem d_M_block_28 : decode prog_15_method_22_code 28 = .ok (.iaload, 1) := by decide +kernel
theorem d_M_block_29 : decode prog_15_method_22_code 29 = .ok (.goto 4, 3) := by decide +kernel
theorem d_M_block_32 : decode prog_15_method_22_code 32 = .ok (.iconst (-1), 1) := by decide +kernel
theorem d_M_block_33 : decode prog_15_method_22_code 33 = .ok (.istore 4, 2) := by decide +kernel
theorem d_M_block_35 : decode prog_15_method_22_code 35 = .ok (.iload_n 3, 1) := by decide +kernel
theorem d_M_block_36 : decode prog_15_method_22_code 36 = .ok (.ifCond .eq 18, 3) := by decide +kernel
theorem d_M_block_39 : decode prog_15_method_22_code 39 = .ok (.iload 4, 2) := by decide +kernel
theorem d_M_block_41 : decode prog_15_method_22_code 41 = .ok (.iconst (-1), 1) := by decide +kernel
theorem d_M_block_42 : decode prog_15_method_22_code 42 = .ok (.if_icmp .eq 10, 3) := by decide +kernel
theorem d_M_block_45 : decode prog_15_method_22_code 45 = .ok (.iload 4, 2) := by decide +kernel
theorem d_M_block_47 : decode prog_15_method_22_code 47 = .ok (.bipush 44, 2) := by decide +kernel
theorem d_M_block_49 : decode prog_15_method_22_code 49 = .ok (.if_icmp .ne 5, 3) := by decide +kernel
theorem d_M_block_52 : decode prog_15_method_22_code 52 = .ok (.iconst 1, 1) := by decide +kernel
theorem d_M_block_53 : decode prog_15_method_22_code 53 = .ok (.ireturn, 1) := by decide +kernel
theorem d_M_block_54 : decode prog_15_method_22_code 54 = .ok (.iload_n 3, 1) := by decide +kernel
theorem d_M_block_55 : decode prog_15_method_22_code 55 = .ok (.ifCond .eq 60, 3) := by decide +kernel
theorem d_M_block_58 : decode prog_15_method_22_code 58 = .ok (.iload_n 2, 1) := by decide +kernel
theorem d_M_block_59 : decode prog_15_method_22_code 59 = .ok (.ifCond .eq 56, 3) := by decide +kernel
theorem d_M_block_62 : decode prog_15_method_22_code 62 = .ok (.iload 4, 2) := by decide +kernel
theorem d_M_block_64 : decode prog_15_method_22_code 64 = .ok (.bipush 46, 2) := by decide +kernel
theorem d_M_block_66 : decode prog_15_method_22_code 66 = .ok (.if_icmp .ne 49, 3) := by decide +kernel
theorem d_M_block_69 : decode prog_15_method_22_code 69 = .ok (.aload_n 0, 1) := by decide +kernel
theorem d_M_block_70 : decode prog_15_method_22_code 70 = .ok (.dup, 1) := by decide +kernel
theorem d_M_block_71 : decode prog_15_method_22_code 71 = .ok (.getfield 171, 3) := by decide +kernel
theorem d_M_block_74 : decode prog_15_method_22_code 74 = .ok (.iconst 1, 1) := by decide +kernel
theorem d_M_block_75 : decode prog_15_method_22_code 75 = .ok (.iadd, 1) := by decide +kernel
theorem d_M_block_76 : decode prog_15_method_22_code 76 = .ok (.putfield 171, 3) := by decide +kernel
theorem d_M_block_79 : decode prog_15_method_22_code 79 = .ok (.aload_n 0, 1) := by decide +kernel
theorem d_M_block_80 : decode prog_15_method_22_code 80 = .ok (.getfield 171, 3) := by decide +kernel
theorem d_M_block_83 : decode prog_15_method_22_code 83 = .ok (.aload_n 0, 1) := by decide +kernel
theorem d_M_block_84 : decode prog_15_method_22_code 84 = .ok (.getfield 168, 3) := by decide +kernel
theorem d_M_block_87 : decode prog_15_method_22_code 87 = .ok (.if_icmp .ge 15, 3) := by decide +kernel
theorem d_M_block_90 : decode prog_15_method_22_code 90 = .ok (.aload_n 0, 1) := by decide +kernel
theorem d_M_block_91 : decode prog_15_method_22_code 91 = .ok (.getfield 9, 3) := by decide +kernel
theorem d_M_block_94 : decode prog_15_method_22_code 94 = .ok (.aload_n 0, 1) := by decide +kernel
theorem d_M_block_95 : decode prog_15_method_22_code 95 = .ok (.getfield 171, 3) := by decide +kernel
theorem d_M_block_98 : decode prog_15_method_22_code 98 = .ok (.iaload, 1) := by decide +kernel
theorem d_M_block_99 : decode prog_15_method_22_code 99 = .ok (.goto 4, 3) := by decide +kernel
theorem d_M_block_102 : decode prog_15_method_22_code 102 = .ok (.iconst (-1), 1) := by decide +kernel
theorem d_M_block_103 : decode prog_15_method_22_code 103 = .ok (.istore 4, 2) := by decide +kernel
theorem d_M_block_105 : decode prog_15_method_22_code 105 = .ok (.iload 4, 2) := by decide +kernel
theorem d_M_block_107 : decode prog_15_method_22_code 107 = .ok (.invokestatic 174, 3) := by decide +kernel
theorem d_M_block_110 : decode prog_15_method_22_code 110 = .ok (.ifCond .ne 5, 3) := by decide +kernel
theorem d_M_block_113 : decode prog_15_method_22_code 113 = .ok (.iconst 0, 1) := by decide +kernel
theorem d_M_block_114 : decode prog_15_method_22_code 114 = .ok (.ireturn, 1) := by decide +kernel
theorem d_M_block_115 : decode prog_15_method_22_code 115 = .ok (.iload 4, 2) := by decide +kernel
theorem d_M_block_117 : decode prog_15_method_22_code 117 = .ok (.bipush 120, 2) := by decide +kernel
theorem d_M_block_119 : decode prog_15_method_22_code 119 = .ok (.if_icmp .ne 41, 3) := by decide +kernel
theorem d_M_block_122 : decode prog_15_method_22_code 122 = .ok (.aload_n 0, 1) := by decide +kernel
theorem d_M_block_123 : decode prog_15_method_22_code 123 = .ok (.getfield 92, 3) := by decide +kernel
theorem d_M_block_126 : decode prog_15_method_22_code 126 = .ok (.aload_n 0, 1) := by decide +kernel
theorem d_M_block_127 : decode prog_15_method_22_code 127 = .ok (.getfield 178, 3) := by decide +kernel
theorem d_M_block_130 : decode prog_15_method_22_code 130 = .ok (.aload_n 0, 1) := by decide +kernel
theorem d_M_block_131 : decode prog_15_method_22_code 131 = .ok (.invokevirtual 181, 3) := by decide +kernel
theorem d_M_block_134 : decode prog_15_method_22_code 134 = .ok (.iastore, 1) := by decide +kernel
theorem d_M_block_135 : decode prog_15_method_22_code 135 = .ok (.aload_n 0, 1) := by decide +kernel
theorem d_M_block_136 : decode prog_15_method_22_code 136 = .ok (.dup, 1) := by decide +kernel
theorem d_M_block_137 : decode prog_15_method_22_code 137 = .ok (.getfield 178, 3) := by decide +kernel
theorem d_M_block_140 : decode prog_15_method_22_code 140 = .ok (.iconst 1, 1) := by decide +kernel
theorem d_M_block_141 : decode prog_15_method_22_code 141 = .ok (.iadd, 1) := by decide +kernel
theorem d_M_block_142 : decode prog_15_method_22_code 142 = .ok (.putfield 178, 3) := by decide +kernel
theorem d_M_block_145 : decode prog_15_method_22_code 145 = .ok (.aload_n 0, 1) := by decide +kernel
theorem d_M_block_146 : decode prog_15_method_22_code 146 = .ok (.dup, 1) := by decide +kernel
theorem d_M_block_147 : decode prog_15_method_22_code 147 = .ok (.getfield 171, 3) := by decide +kernel
theorem d_M_block_150 : decode prog_15_method_22_code 150 = .ok (.iconst 1, 1) := by decide +kernel
theorem d_M_block_151 : decode prog_15_method_22_code 151 = .ok (.iadd, 1) := by decide +kernel
theorem d_M_block_152 : decode prog_15_method_22_code 152 = .ok (.putfield 171, 3) := by decide +kernel
theorem d_M_block_155 : decode prog_15_method_22_code 155 = .ok (.iconst 0, 1) := by decide +kernel
theorem d_M_block_156 : decode prog_15_method_22_code 156 = .ok (.istore_n 2, 1) := by decide +kernel
theorem d_M_block_157 : decode prog_15_method_22_code 157 = .ok (.goto 27, 3) := by decide +kernel
theorem d_M_block_160 : decode prog_15_method_22_code 160 = .ok (.iload 4, 2) := by decide +kernel
theorem d_M_block_162 : decode prog_15_method_22_code 162 = .ok (.invokestatic 174, 3) := by decide +kernel
theorem d_M_block_165 : decode prog_15_method_22_code 165 = .ok (.ifCond .le 17, 3) := by decide +kernel
theorem d_M_block_168 : decode prog_15_method_22_code 168 = .ok (.aload_n 0, 1) := by decide +kernel
theorem d_M_block_169 : decode prog_15_method_22_code 169 = .ok (.invokevirtual 184, 3) := by decide +kernel
theorem d_M_block_172 : decode prog_15_method_22_code 172 = .ok (.ifCond .ne 5, 3) := by decide +kernel
theorem d_M_block_175 : decode prog_15_method_22_code 175 = .ok (.iconst 0, 1) := by decide +kernel
theorem d_M_block_176 : decode prog_15_method_22_code 176 = .ok (.ireturn, 1) := by decide +kernel
theorem d_M_block_177 : decode prog_15_method_22_code 177 = .ok (.iconst 1, 1) := by decide +kernel
theorem d_M_block_178 : decode prog_15_method_22_code 178 = .ok (.istore_n 2, 1) := by decide +kernel
theorem d_M_block_179 : decode prog_15_method_22_code 179 = .ok (.goto 5, 3) := by decide +kernel
theorem d_M_block_182 : decode prog_15_method_22_code 182 = .ok (.iconst 0, 1) := by decide +kernel
theorem d_M_block_183 : decode prog_15_method_22_code 183 = .ok (.ireturn, 1) := by decide +kernel
theorem d_M_block_184 : decode prog_15_method_22_code 184 = .ok (.iconst 1, 1) := by decide +kernel
theorem d_M_block_185 : decode prog_15_method_22_code 185 = .ok (.istore_n 3, 1) := by decide +kernel
theorem d_M_block_186 : decode prog_15_method_22_code 186 = .ok (.goto (-177), 3) := by decide +kernel
set_option maxRecDepth 20000 in
theorem jc_M_block_184 (N : Nat) (re9 : Option Nat → Int32 → Int32 → Hp → Option (Int32 × Hp)) (hre9 : ∀ y0 y1 y2 h, J p l e R s m args below meth c prog_15_method_22_code 5 "RingingChamberModel" 2 44 (some .boolean) "block" D dA B n0 s0 (QM below args s D dA B n0 s0 vI) 9 [(0, vr y0), (2, vi y1), (3, vi y2)] [] h (re9 y0 y1 y2 h)) (l0 : Option Nat) (l2 : Int32) (h : Hp) : J p l e R s m args below meth c prog_15_method_22_code 5 "RingingChamberModel" 2 44 (some .boolean) "block" D dA B n0 s0 (QM below args s D dA B n0 s0 vI) 184 [(0, vr l0), (2, vi l2)] [] h (M_block_184 N re9 l0 l2 h) := by
  unfold M_block_184
  refine j_iconst (v := 1) d_M_block_184 (by decide) ?_
  refine j_istore_n (lv' := [(3, vi 1), (0, vr l0), (2, vi l2)]) d_M_block_185 rfl (by decide) rfl ?_
  refine j_goto (tgt := 9) d_M_block_186 (by decide) ?_
  exact J.sub [1, 2, 0] rfl (hre9 l0 l2 1 h)
set_option maxRecDepth 20000 in
theorem jc_M_block_115 (N : Nat) (re9 : Option Nat → Int32 → Int32 → Hp → Option (Int32 × Hp)) (hre9 : ∀ y0 y1 y2 h, J p l e R s m args below meth c prog_15_method_22_code 5 "RingingChamberModel" 2 44 (some .boolean) "block" D dA B n0 s0 (QM below args s D dA B n0 s0 vI) 9 [(0, vr y0), (2, vi y1), (3, vi y2)] [] h (re9 y0 y1 y2 h)) (l0 : Option Nat) (l4 : Int32) (h : Hp) : J p l e R s m args below meth c prog_15_method_22_code 5 "RingingChamberModel" 2 44 (some .boolean) "block" D dA B n0 s0 (QM below args s D dA B n0 s0 vI) 115 [(0, vr l0), (4, vi l4)] [] h (M_block_115 N re9 l0 l4 h) := by
  unfold M_block_115
  refine j_iload d_M_block_115 1 rfl ?_
  refine j_bipush (v := 120) d_M_block_117 (by decide) ?_
  refine j_icmp_ne (tgt := 160) d_M_block_119 (by decide) ?_ ?_
  · refine j_aload_n d_M_block_122 0 rfl rfl ?_
    refine j_getR d_M_block_123 fl_12_92.r (fun x5 => ?_)
    refine j_aload_n d_M_block_126 0 rfl rfl ?_
    refine j_getI d_M_block_127 fl_12_178.r (fun x6 => ?_)
    refine j_aload_n d_M_block_130 0 rfl rfl ?_
    refine j_vI0 d_M_block_131 (allQ.cons (VD.mk vt_12_181_12 (ct_M_cross N l D dA B l0 h) (by decide) (by decide)) allQ.nil) (Nat.le_of_ble_eq_true rfl) (fun x8 h7 => ?_)
    refine j_iast d_M_block_134 (fun h9 => ?_)
    refine j_aload_n d_M_block_135 0 rfl rfl ?_
    refine j_dup d_M_block_136 rfl ?_
    refine j_getI d_M_block_137 fl_12_178.r (fun x10 => ?_)
    refine j_iconst (v := 1) d_M_block_140 (by decide) ?_
    refine j_iadd d_M_block_141 ?_
    refine j_putI d_M_block_142 fl_12_178 (Or.inl rfl) (fun h11 => ?_)
    refine j_aload_n d_M_block_145 0 rfl rfl ?_
    refine j_dup d_M_block_146 rfl ?_
    refine j_getI d_M_block_147 fl_12_171.r (fun x12 => ?_)
    refine j_iconst (v := 1) d_M_block_150 (by decide) ?_
    refine j_iadd d_M_block_151 ?_
    refine j_putI d_M_block_152 fl_12_171 (Or.inl rfl) (fun h13 => ?_)
    refine j_iconst (v := 0) d_M_block_155 (by decide) ?_
    refine j_istore_n (lv' := [(2, vi 0), (0, vr l0), (4, vi l4)]) d_M_block_156 rfl (by decide) rfl ?_
    refine j_goto (tgt := 184) d_M_block_157 (by decide) ?_
    exact J.sub [1, 0] rfl (jc_M_block_184 N re9 hre9 l0 0 h13)
  · refine j_iload d_M_block_160 1 rfl ?_
    refine j_cSI1 d_M_block_162 sl_12_174 ks_M_placeOf (ct_M_placeOf N l D dA B l4 h) (by decide) (by decide) (Nat.le_of_ble_eq_true rfl) (fun x2 h1 => ?_)
    refine j_if_le (tgt := 182) d_M_block_165 (by decide) ?_ ?_
    · refine j_iconst (v := 0) d_M_block_182 (by decide) ?_
      exact j_retZ d_M_block_183
    · refine j_aload_n d_M_block_168 0 rfl rfl ?_
      refine j_vI0 d_M_block_169 (allQ.cons (VD.mk vt_12_184_12 (ct_M_places N l D dA B l0 h1) (by decide) (by decide)) allQ.nil) (Nat.le_of_ble_eq_true rfl) (fun x4 h3 => ?_)
      refine j_if_ne (tgt := 177) d_M_block_172 (by decide) ?_ ?_
      · refine j_iconst (v := 0) d_M_block_175 (by decide) ?_
        exact j_retZ d_M_block_176
      · refine j_iconst (v := 1) d_M_block_177 (by decide) ?_
        refine j_istore_n (lv' := [(2, vi 1), (0, vr l0), (4, vi l4)]) d_M_block_178 rfl (by decide) rfl ?_
        refine j_goto (tgt := 184) d_M_block_179 (by decide) ?_
        exact J.sub [1, 0] rfl (jc_M_block_184 N re9 hre9 l0 1 h3)
set_option maxRecDepth 20000 in
theorem jc_M_block_103 (N : Nat) (re9 : Option Nat → Int32 → Int32 → Hp → Option (Int32 × Hp)) (hre9 : ∀ y0 y1 y2 h, J p l e R s m args below meth c prog_15_method_22_code 5 "RingingChamberModel" 2 44 (some .boolean) "block" D dA B n0 s0 (QM below args s D dA B n0 s0 vI) 9 [(0, vr y0), (2, vi y1), (3, vi y2)] [] h (re9 y0 y1 y2 h)) (l0 : Option Nat) (u0 : Int32) (h : Hp) : J p l e R s m args below meth c prog_15_method_22_code 5 "RingingChamberModel" 2 44 (some .boolean) "block" D dA B n0 s0 (QM below args s D dA B n0 s0 vI) 103 [(0, vr l0)] [vi u0] h (M_block_103 N re9 l0 u0 h) := by
  unfold M_block_103
  refine j_istore (lv' := [(4, vi u0), (0, vr l0)]) d_M_block_103 (by decide) rfl ?_
  refine j_iload d_M_block_105 0 rfl ?_
  refine j_cSI1 d_M_block_107 sl_12_174 ks_M_placeOf (ct_M_placeOf N l D dA B u0 h) (by decide) (by decide) (Nat.le_of_ble_eq_true rfl) (fun x2 h1 => ?_)
  refine j_if_ne (tgt := 115) d_M_block_110 (by decide) ?_ ?_
  · refine j_iconst (v := 0) d_M_block_113 (by decide) ?_
    exact j_retZ d_M_block_114
  · exact J.sub [1, 0] rfl (jc_M_block_115 N re9 hre9 l0 u0 h1)
set_option maxRecDepth 20000 in
theorem jc_M_block_54 (N : Nat) (re9 : Option Nat → Int32 → Int32 → Hp → Option (Int32 × Hp)) (hre9 : ∀ y0 y1 y2 h, J p l e R s m args below meth c prog_15_method_22_code 5 "RingingChamberModel" 2 44 (some .boolean) "block" D dA B n0 s0 (QM below args s D dA B n0 s0 vI) 9 [(0, vr y0), (2, vi y1), (3, vi y2)] [] h (re9 y0 y1 y2 h)) (l0 : Option Nat) (l2 : Int32) (l3 : Int32) (l4 : Int32) (h : Hp) : J p l e R s m args below meth c prog_15_method_22_code 5 "RingingChamberModel" 2 44 (some .boolean) "block" D dA B n0 s0 (QM below args s D dA B n0 s0 vI) 54 [(0, vr l0), (2, vi l2), (3, vi l3), (4, vi l4)] [] h (M_block_54 N re9 l0 l2 l3 l4 h) := by
  unfold M_block_54
  refine j_iload_n d_M_block_54 2 rfl rfl ?_
  refine j_if_eq (tgt := 115) d_M_block_55 (by decide) ?_ ?_
  · exact J.sub [0, 3] rfl (jc_M_block_115 N re9 hre9 l0 l4 h)
  · refine j_iload_n d_M_block_58 1 rfl rfl ?_
    refine j_if_eq (tgt := 115) d_M_block_59 (by decide) ?_ ?_
    · exact J.sub [0, 3] rfl (jc_M_block_115 N re9 hre9 l0 l4 h)
    · refine j_iload d_M_block_62 3 rfl ?_
      refine j_bipush (v := 46) d_M_block_64 (by decide) ?_
      refine j_icmp_ne (tgt := 115) d_M_block_66 (by decide) ?_ ?_
      · refine j_aload_n d_M_block_69 0 rfl rfl ?_
        refine j_dup d_M_block_70 rfl ?_
        refine j_getI d_M_block_71 fl_12_171.r (fun x1 => ?_)
        refine j_iconst (v := 1) d_M_block_74 (by decide) ?_
        refine j_iadd d_M_block_75 ?_
        refine j_putI d_M_block_76 fl_12_171 (Or.inl rfl) (fun h2 => ?_)
        refine j_aload_n d_M_block_79 0 rfl rfl ?_
        refine j_getI d_M_block_80 fl_12_171.r (fun x3 => ?_)
        refine j_aload_n d_M_block_83 0 rfl rfl ?_
        refine j_getI d_M_block_84 fl_12_168.r (fun x4 => ?_)
        refine j_icmp_ge (tgt := 102) d_M_block_87 (by decide) ?_ ?_
        · refine j_iconst (v := -1) d_M_block_102 (by decide) ?_
          exact J.sub [0] rfl (jc_M_block_103 N re9 hre9 l0 (-1) h2)
        · refine j_aload_n d_M_block_90 0 rfl rfl ?_
          refine j_getR d_M_block_91 fl_12_9.r (fun x5 => ?_)
          refine j_aload_n d_M_block_94 0 rfl rfl ?_
          refine j_getI d_M_block_95 fl_12_171.r (fun x6 => ?_)
          refine j_iald d_M_block_98 (fun x7 => ?_)
          refine j_goto (tgt := 103) d_M_block_99 (by decide) ?_
          exact J.sub [0] rfl (jc_M_block_103 N re9 hre9 l0 x7 h2)
      · exact J.sub [0, 3] rfl (jc_M_block_115 N re9 hre9 l0 l4 h)
set_option maxRecDepth 20000 in
theorem jc_M_block_33 (N : Nat) (re9 : Option Nat → Int32 → Int32 → Hp → Option (Int32 × Hp)) (hre9 : ∀ y0 y1 y2 h, J p l e R s m args below meth c prog_15_method_22_code 5 "RingingChamberModel" 2 44 (some .boolean) "block" D dA B n0 s0 (QM below args s D dA B n0 s0 vI) 9 [(0, vr y0), (2, vi y1), (3, vi y2)] [] h (re9 y0 y1 y2 h)) (l0 : Option Nat) (l2 : Int32) (l3 : Int32) (u0 : Int32) (h : Hp) : J p l e R s m args below meth c prog_15_method_22_code 5 "RingingChamberModel" 2 44 (some .boolean) "block" D dA B n0 s0 (QM below args s D dA B n0 s0 vI) 33 [(0, vr l0), (2, vi l2), (3, vi l3)] [vi u0] h (M_block_33 N re9 l0 l2 l3 u0 h) := by
  unfold M_block_33
  refine j_istore (lv' := [(4, vi u0), (0, vr l0), (2, vi l2), (3, vi l3)]) d_M_block_33 (by decide) rfl ?_
  refine j_iload_n d_M_block_35 3 rfl rfl ?_
  refine j_if_eq (tgt := 54) d_M_block_36 (by decide) ?_ ?_
  · exact J.sub [1, 2, 3, 0] rfl (jc_M_block_54 N re9 hre9 l0 l2 l3 u0 h)
  · refine j_iload d_M_block_39 0 rfl ?_
    refine j_iconst (v := -1) d_M_block_41 (by decide) ?_
    refine j_icmp_eq (tgt := 52) d_M_block_42 (by decide) ?_ ?_
    · refine j_iconst (v := 1) d_M_block_52 (by decide) ?_
      exact j_retZ d_M_block_53
    · refine j_iload d_M_block_45 0 rfl ?_
      refine j_bipush (v := 44) d_M_block_47 (by decide) ?_
      refine j_icmp_ne (tgt := 54) d_M_block_49 (by decide) ?_ ?_
      · refine j_iconst (v := 1) d_M_block_52 (by decide) ?_
        exact j_retZ d_M_block_53
      · exact J.sub [1, 2, 3, 0] rfl (jc_M_block_54 N re9 hre9 l0 l2 l3 u0 h)
set_option maxRecDepth 20000 in
theorem jc_M_block_9 (N : Nat) : ∀ (n : Nat) (l0 : Option Nat) (l2 : Int32) (l3 : Int32) (h : Hp), J p l e R s m args below meth c prog_15_method_22_code 5 "RingingChamberModel" 2 44 (some .boolean) "block" D dA B n0 s0 (QM below args s D dA B n0 s0 vI) 9 [(0, vr l0), (2, vi l2), (3, vi l3)] [] h (M_block_9 N n l0 l2 l3 h) := by
  intro n
  induction n with
  | zero => intros; exact J.none
  | succ n ih =>
    intro l0 l2 l3 h
    rw [M_block_9]
    refine j_aload_n d_M_block_9 0 rfl rfl ?_
    refine j_getI d_M_block_10 fl_12_171.r (fun x1 => ?_)
    refine j_aload_n d_M_block_13 0 rfl rfl ?_
    refine j_getI d_M_block_14 fl_12_168.r (fun x2 => ?_)
    refine j_icmp_ge (tgt := 32) d_M_block_17 (by decide) ?_ ?_
    · refine j_iconst (v := -1) d_M_block_32 (by decide) ?_
      exact jc_M_block_33 N (M_block_9 N n) ih l0 l2 l3 (-1) h
    · refine j_aload_n d_M_block_20 0 rfl rfl ?_
      refine j_getR d_M_block_21 fl_12_9.r (fun x3 => ?_)
      refine j_aload_n d_M_block_24 0 rfl rfl ?_
      refine j_getI d_M_block_25 fl_12_171.r (fun x4 => ?_)
      refine j_iald d_M_block_28 (fun x5 => ?_)
      refine j_goto (tgt := 33) d_M_block_29 (by decide) ?_
      exact jc_M_block_33 N (M_block_9 N n) ih l0 l2 l3 x5 h
set_option maxRecDepth 20000 in
theorem jc_M_block (N : Nat) (l0 : Option Nat) (l1 : Int32) (h : Hp) : J p l e R s m args below meth c prog_15_method_22_code 5 "RingingChamberModel" 2 44 (some .boolean) "block" D dA B n0 s0 (QM below args s D dA B n0 s0 vI) 0 [(0, vr l0), (1, vi l1)] [] h (M_block N l0 l1 h) := by
  unfold M_block
  refine j_aload_n d_M_block_0 0 rfl rfl ?_
  refine j_iload_n d_M_block_1 1 rfl rfl ?_
  refine j_putI d_M_block_2 fl_12_171 (Or.inl rfl) (fun h1 => ?_)
  refine j_iconst (v := 0) d_M_block_5 (by decide) ?_
  refine j_istore_n (lv' := [(2, vi 0), (0, vr l0), (1, vi l1)]) d_M_block_6 rfl (by decide) rfl ?_
  refine j_iconst (v := 0) d_M_block_7 (by decide) ?_
  refine j_istore_n (lv' := [(3, vi 0), (2, vi 0), (0, vr l0), (1, vi l1)]) d_M_block_8 rfl (by decide) rfl ?_
  exact J.sub [2, 1, 0] rfl (jc_M_block_9 N N l0 0 0 h1)
set_option maxRecDepth 20000 in
theorem ct_M_block (N : Nat) (l : Launch) (D : va_G) (dA : Nat → ClassId) (B : Nat) (l0 : Option Nat) (l1 : Int32) (h : Hp) : Ct l (⟨"RingingChamberModel", "block", "(I)Z"⟩ : MethodName) prog_15_method_22_code 5 (some .boolean) 2 44 D dA B [vr l0, vi l1] h vI (M_block N l0 l1 h) :=
  Ct.of2 (own := "RingingChamberModel") (nme := "block") (lv := [(0, vr l0), (1, vi l1)]) rfl rfl (by decide) (Nat.le_of_ble_eq_true rfl) rfl (fun p e R s m args below meth c => jc_M_block N l0 l1 h)
theorem d_M_turned_0 : decode prog_15_method_25_code 0 = .ok (.aload_n 0, 1) := by decide +kernel
theorem d_M_turned_1 : decode prog_15_method_25_code 1 = .ok (.getfield 178, 3) := by decide +kernel
theorem d_M_turned_4 : decode prog_15_method_25_code 4 = .ok (.iload_n 1, 1) := by decide +kernel
theorem d_M_turned_5 : decode prog_15_method_25_code 5 = .ok (.isub, 1) := by decide +kernel
theorem d_M_turned_6 : decode prog_15_method_25_code 6 = .ok (.istore_n 2, 1) := by decide +kernel
theorem d_M_turned_7 : decode prog_15_method_25_code 7 = .ok (.iload_n 2, 1) := by decide +kernel
theorem d_M_turned_8 : decode prog_15_method_25_code 8 = .ok (.iconst 2, 1) := by decide +kernel
theorem d_M_turned_9 : decode prog_15_method_25_code 9 = .ok (.isub, 1) := by decide +kernel
theorem d_M_turned_10 : decode prog_15_method_25_code 10 = .ok (.istore_n 3, 1) := by decide +kernel
theorem d_M_turned_11 : decode prog_15_method_25_code 11 = .ok (.iload_n 3, 1) := by decide +kernel
theorem d_M_turned_12 : decode prog_15_method_25_code 12 = .ok (.ifCond .lt 36, 3) := by decide +kernel
theorem d_M_turned_15 : decode prog_15_method_25_code 15 = .ok (.aload_n 0, 1) := by decide +kernel
theorem d_M_turned_16 : decode prog_15_method_25_code 16 = .ok (.getfield 92, 3) := by decide +kernel
theorem d_M_turned_19 : decode prog_15_method_25_code 19 = .ok (.aload_n 0, 1) := by decide +kernel
theorem d_M_turned_20 : decode prog_15_method_25_code 20 = .ok (.getfield 178, 3) := by decide +kernel
theorem d_M_turned_23 : decode prog_15_method_25_code 23 = .ok (.aload_n 0, 1) := by decide +kernel
theorem d_M_turned_24 : decode prog_15_method_25_code 24 = .ok (.getfield 92, 3) := by decide +kernel
theorem d_M_turned_27 : decode prog_15_method_25_code 27 = .ok (.iload_n 1, 1) := by decide +kernel
theorem d_M_turned_28 : decode prog_15_method_25_code 28 = .ok (.iload_n 3, 1) := by decide +kernel
theorem d_M_turned_29 : decode prog_15_method_25_code 29 = .ok (.iadd, 1) := by decide +kernel
theorem d_M_turned_30 : decode prog_15_method_25_code 30 = .ok (.iaload, 1) := by decide +kernel
theorem d_M_turned_31 : decode prog_15_method_25_code 31 = .ok (.iastore, 1) := by decide +kernel
theorem d_M_turned_32 : decode prog_15_method_25_code 32 = .ok (.aload_n 0, 1) := by decide +kernel
theorem d_M_turned_33 : decode prog_15_method_25_code 33 = .ok (.dup, 1) := by decide +kernel
theorem d_M_turned_34 : decode prog_15_method_25_code 34 = .ok (.getfield 178, 3) := by decide +kernel
theorem d_M_turned_37 : decode prog_15_method_25_code 37 = .ok (.iconst 1, 1) := by decide +kernel
theorem d_M_turned_38 : decode prog_15_method_25_code 38 = .ok (.iadd, 1) := by decide +kernel
theorem d_M_turned_39 : decode prog_15_method_25_code 39 = .ok (.putfield 178, 3) := by decide +kernel
theorem d_M_turned_42 : decode prog_15_method_25_code 42 = .ok (.iinc 3 (-1), 3) := by decide +kernel
theorem d_M_turned_45 : decode prog_15_method_25_code 45 = .ok (.goto (-34), 3) := by decide +kernel
theorem d_M_turned_48 : decode prog_15_method_25_code 48 = .ok (.return_, 1) := by decide +kernel
set_option maxRecDepth 20000 in
theorem jc_M_turned_11 (N : Nat) : ∀ (n : Nat) (l0 : Option Nat) (l1 : Int32) (l3 : Int32) (h : Hp), J p l e R s m args below meth c prog_15_method_25_code 4 "RingingChamberModel" 0 0 none "turned" D dA B n0 s0 (QM below args s D dA B n0 s0 vU) 11 [(0, vr l0), (1, vi l1), (3, vi l3)] [] h (M_turned_11 N n l0 l1 l3 h) := by
  intro n
  induction n with
  | zero => intros; exact J.none
  | succ n ih =>
    intro l0 l1 l3 h
    rw [M_turned_11]
    refine j_iload_n d_M_turned_11 2 rfl rfl ?_
    refine j_if_lt (tgt := 48) d_M_turned_12 (by decide) ?_ ?_
    · exact j_retU d_M_turned_48
    · refine j_aload_n d_M_turned_15 0 rfl rfl ?_
      refine j_getR d_M_turned_16 fl_12_92.r (fun x1 => ?_)
      refine j_aload_n d_M_turned_19 0 rfl rfl ?_
      refine j_getI d_M_turned_20 fl_12_178.r (fun x2 => ?_)
      refine j_aload_n d_M_turned_23 0 rfl rfl ?_
      refine j_getR d_M_turned_24 fl_12_92.r (fun x3 => ?_)
      refine j_iload_n d_M_turned_27 1 rfl rfl ?_
      refine j_iload_n d_M_turned_28 2 rfl rfl ?_
      refine j_iadd d_M_turned_29 ?_
      refine j_iald d_M_turned_30 (fun x4 => ?_)
      refine j_iast d_M_turned_31 (fun h5 => ?_)
      refine j_aload_n d_M_turned_32 0 rfl rfl ?_
      refine j_dup d_M_turned_33 rfl ?_
      refine j_getI d_M_turned_34 fl_12_178.r (fun x6 => ?_)
      refine j_iconst (v := 1) d_M_turned_37 (by decide) ?_
      refine j_iadd d_M_turned_38 ?_
      refine j_putI d_M_turned_39 fl_12_178 (Or.inl rfl) (fun h7 => ?_)
      refine j_iinc (lvv := fun x8 => [(3, vi x8), (0, vr l0), (1, vi l1)]) d_M_turned_42 2 rfl rfl (by decide) (fun _ => rfl) (fun x8 => ?_)
      refine j_goto (tgt := 11) d_M_turned_45 (by decide) ?_
      exact J.sub [1, 2, 0] rfl (ih l0 l1 x8 h7)
set_option maxRecDepth 20000 in
theorem jc_M_turned (N : Nat) (l0 : Option Nat) (l1 : Int32) (h : Hp) : J p l e R s m args below meth c prog_15_method_25_code 4 "RingingChamberModel" 0 0 none "turned" D dA B n0 s0 (QM below args s D dA B n0 s0 vU) 0 [(0, vr l0), (1, vi l1)] [] h (M_turned N l0 l1 h) := by
  unfold M_turned
  refine j_aload_n d_M_turned_0 0 rfl rfl ?_
  refine j_getI d_M_turned_1 fl_12_178.r (fun x1 => ?_)
  refine j_iload_n d_M_turned_4 1 rfl rfl ?_
  refine j_isub d_M_turned_5 ?_
  refine j_nmi (fun x2 => ?_)
  refine j_istore_n (lv' := [(2, vi x2), (0, vr l0), (1, vi l1)]) d_M_turned_6 rfl (by decide) rfl ?_
  refine j_iload_n d_M_turned_7 0 rfl rfl ?_
  refine j_iconst (v := 2) d_M_turned_8 (by decide) ?_
  refine j_isub d_M_turned_9 ?_
  refine j_nmi (fun x3 => ?_)
  refine j_istore_n (lv' := [(3, vi x3), (2, vi x2), (0, vr l0), (1, vi l1)]) d_M_turned_10 rfl (by decide) rfl ?_
  exact J.sub [2, 3, 0] rfl (jc_M_turned_11 N N l0 l1 x3 h)
set_option maxRecDepth 20000 in
theorem ct_M_turned (N : Nat) (l : Launch) (D : va_G) (dA : Nat → ClassId) (B : Nat) (l0 : Option Nat) (l1 : Int32) (h : Hp) : Ct l (⟨"RingingChamberModel", "turned", "(I)V"⟩ : MethodName) prog_15_method_25_code 4 none 0 0 D dA B [vr l0, vi l1] h vU (M_turned N l0 l1 h) :=
  Ct.of2 (own := "RingingChamberModel") (nme := "turned") (lv := [(0, vr l0), (1, vi l1)]) rfl rfl (by decide) (Nat.le_of_ble_eq_true rfl) rfl (fun p e R s m args below meth c => jc_M_turned N l0 l1 h)
theorem d_M_notation_0 : decode prog_15_method_26_code 0 = .ok (.aload_n 0, 1) := by decide +kernel
theorem d_M_notation_1 : decode prog_15_method_26_code 1 = .ok (.aload_n 0, 1) := by decide +kernel
theorem d_M_notation_2 : decode prog_15_method_26_code 2 = .ok (.iload_n 1, 1) := by decide +kernel
theorem d_M_notation_3 : decode prog_15_method_26_code 3 = .ok (.invokevirtual 187, 3) := by decide +kernel
theorem d_M_notation_6 : decode prog_15_method_26_code 6 = .ok (.ifCond .ne 7, 3) := by decide +kernel
theorem d_M_notation_9 : decode prog_15_method_26_code 9 = .ok (.iconst 4, 1) := by decide +kernel
theorem d_M_notation_10 : decode prog_15_method_26_code 10 = .ok (.goto 18, 3) := by decide +kernel
theorem d_M_notation_13 : decode prog_15_method_26_code 13 = .ok (.aload_n 0, 1) := by decide +kernel
theorem d_M_notation_14 : decode prog_15_method_26_code 14 = .ok (.getfield 16, 3) := by decide +kernel
theorem d_M_notation_17 : decode prog_15_method_26_code 17 = .ok (.iload_n 1, 1) := by decide +kernel
theorem d_M_notation_18 : decode prog_15_method_26_code 18 = .ok (.iaload, 1) := by decide +kernel
theorem d_M_notation_19 : decode prog_15_method_26_code 19 = .ok (.iconst 5, 1) := by decide +kernel
theorem d_M_notation_20 : decode prog_15_method_26_code 20 = .ok (.if_icmp .ne 7, 3) := by decide +kernel
theorem d_M_notation_23 : decode prog_15_method_26_code 23 = .ok (.iconst 3, 1) := by decide +kernel
theorem d_M_notation_24 : decode prog_15_method_26_code 24 = .ok (.goto 4, 3) := by decide +kernel
theorem d_M_notation_27 : decode prog_15_method_26_code 27 = .ok (.iconst 0, 1) := by decide +kernel
theorem d_M_notation_28 : decode prog_15_method_26_code 28 = .ok (.invokevirtual 191, 3) := by decide +kernel
theorem d_M_notation_31 : decode prog_15_method_26_code 31 = .ok (.ifCond .eq 5, 3) := by decide +kernel
theorem d_M_notation_34 : decode prog_15_method_26_code 34 = .ok (.iconst 0, 1) := by decide +kernel
theorem d_M_notation_35 : decode prog_15_method_26_code 35 = .ok (.ireturn, 1) := by decide +kernel
theorem d_M_notation_36 : decode prog_15_method_26_code 36 = .ok (.aload_n 0, 1) := by decide +kernel
theorem d_M_notation_37 : decode prog_15_method_26_code 37 = .ok (.iconst 0, 1) := by decide +kernel
theorem d_M_notation_38 : decode prog_15_method_26_code 38 = .ok (.putfield 178, 3) := by decide +kernel
theorem d_M_notation_41 : decode prog_15_method_26_code 41 = .ok (.aload_n 0, 1) := by decide +kernel
theorem d_M_notation_42 : decode prog_15_method_26_code 42 = .ok (.iconst 0, 1) := by decide +kernel
theorem d_M_notation_43 : decode prog_15_method_26_code 43 = .ok (.invokevirtual 194, 3) := by decide +kernel
theorem d_M_notation_46 : decode prog_15_method_26_code 46 = .ok (.istore_n 2, 1) := by decide +kernel
theorem d_M_notation_47 : decode prog_15_method_26_code 47 = .ok (.iload_n 2, 1) := by decide +kernel
theorem d_M_notation_48 : decode prog_15_method_26_code 48 = .ok (.ifCond .eq 61, 3) := by decide +kernel
theorem d_M_notation_51 : decode prog_15_method_26_code 51 = .ok (.aload_n 0, 1) := by decide +kernel
theorem d_M_notation_52 : decode prog_15_method_26_code 52 = .ok (.getfield 171, 3) := by decide +kernel
theorem d_M_notation_55 : decode prog_15_method_26_code 55 = .ok (.aload_n 0, 1) := by decide +kernel
theorem d_M_notation_56 : decode prog_15_method_26_code 56 = .ok (.getfield 168, 3) := by decide +kernel
theorem d_M_notation_59 : decode prog_15_method_26_code 59 = .ok (.if_icmp .ge 50, 3) := by decide +kernel
theorem d_M_notation_62 : decode prog_15_method_26_code 62 = .ok (.aload_n 0, 1) := by decide +kernel
theorem d_M_notation_63 : decode prog_15_method_26_code 63 = .ok (.iconst 0, 1) := by decide +kernel
theorem d_M_notation_64 : decode prog_15_method_26_code 64 = .ok (.invokevirtual 197, 3) := by decide +kernel
theorem d_M_notation_67 : decode prog_15_method_26_code 67 = .ok (.aload_n 0, 1) := by decide +kernel
theorem d_M_notation_68 : decode prog_15_method_26_code 68 = .ok (.getfield 178, 3) := by decide +kernel
theorem d_M_notation_71 : decode prog_15_method_26_code 71 = .ok (.istore_n 3, 1) := by decide +kernel
theorem d_M_notation_72 : decode prog_15_method_26_code 72 = .ok (.aload_n 0, 1) := by decide +kernel
theorem d_M_notation_73 : decode prog_15_method_26_code 73 = .ok (.aload_n 0, 1) := by decide +kernel
theorem d_M_notation_74 : decode prog_15_method_26_code 74 = .ok (.getfield 171, 3) := by decide +kernel
theorem d_M_notation_77 : decode prog_15_method_26_code 77 = .ok (.iconst 1, 1) := by decide +kernel
theorem d_M_notation_78 : decode prog_15_method_26_code 78 = .ok (.iadd, 1) := by decide +kernel
theorem d_M_notation_79 : decode prog_15_method_26_code 79 = .ok (.invokevirtual 194, 3) := by decide +kernel
theorem d_M_notation_82 : decode prog_15_method_26_code 82 = .ok (.istore_n 2, 1) := by decide +kernel
theorem d_M_notation_83 : decode prog_15_method_26_code 83 = .ok (.iload_n 2, 1) := by decide +kernel
theorem d_M_notation_84 : decode prog_15_method_26_code 84 = .ok (.ifCond .eq 25, 3) := by decide +kernel
theorem d_M_notation_87 : decode prog_15_method_26_code 87 = .ok (.aload_n 0, 1) := by decide +kernel
theorem d_M_notation_88 : decode prog_15_method_26_code 88 = .ok (.iload_n 3, 1) := by decide +kernel
theorem d_M_notation_89 : decode prog_15_method_26_code 89 = .ok (.invokevirtual 197, 3) := by decide +kernel
theorem d_M_notation_92 : decode prog_15_method_26_code 92 = .ok (.aload_n 0, 1) := by decide +kernel
theorem d_M_notation_93 : decode prog_15_method_26_code 93 = .ok (.getfield 171, 3) := by decide +kernel
theorem d_M_notation_96 : decode prog_15_method_26_code 96 = .ok (.aload_n 0, 1) := by decide +kernel
theorem d_M_notation_97 : decode prog_15_method_26_code 97 = .ok (.getfield 168, 3) := by decide +kernel
theorem d_M_notation_100 : decode prog_15_method_26_code 100 = .ok (.if_icmp .ne 7, 3) := by decide +kernel
theorem d_M_notation_103 : decode prog_15_method_26_code 103 = .ok (.iconst 1, 1) := by decide +kernel
theorem d_M_notation_104 : decode prog_15_method_26_code 104 = .ok (.goto 4, 3) := by decide +kernel
theorem d_M_notation_107 : decode prog_15_method_26_code 107 = .ok (.iconst 0, 1) := by decide +kernel
theorem d_M_notation_108 : decode prog_15_method_26_code 108 = .ok (.istore_n 2, 1) := by decide +kernel
theorem d_M_notation_109 : decode prog_15_method_26_code 109 = .ok (.aload_n 0, 1) := by decide +kernel
theorem d_M_notation_110 : decode prog_15_method_26_code 110 = .ok (.iconst 0, 1) := by decide +kernel
theorem d_M_notation_111 : decode prog_15_method_26_code 111 = .ok (.putfield 168, 3) := by decide +kernel
theorem d_M_notation_114 : decode prog_15_method_26_code 114 = .ok (.iload_n 2, 1) := by decide +kernel
theorem d_M_notation_115 : decode prog_15_method_26_code 115 = .ok (.ifCond .ne 10, 3) := by decide +kernel
theorem d_M_notation_118 : decode prog_15_method_26_code 118 = .ok (.iconst (-1), 1) := by decide +kernel
theorem d_M_notation_119 : decode prog_15_method_26_code 119 = .ok (.aload_n 0, 1) := by decide +kernel
theorem d_M_notation_120 : decode prog_15_method_26_code 120 = .ok (.getfield 171, 3) := by decide +kernel
theorem d_M_notation_123 : decode prog_15_method_26_code 123 = .ok (.isub, 1) := by decide +kernel
theorem d_M_notation_124 : decode prog_15_method_26_code 124 = .ok (.ireturn, 1) := by decide +kernel
theorem d_M_notation_125 : decode prog_15_method_26_code 125 = .ok (.aload_n 0, 1) := by decide +kernel
theorem d_M_notation_126 : decode prog_15_method_26_code 126 = .ok (.getfield 178, 3) := by decide +kernel
theorem d_M_notation_129 : decode prog_15_method_26_code 129 = .ok (.bipush 100, 2) := by decide +kernel
theorem d_M_notation_131 : decode prog_15_method_26_code 131 = .ok (.if_icmp .le 7, 3) := by decide +kernel
theorem d_M_notation_134 : decode prog_15_method_26_code 134 = .ok (.sipush (-1000), 3) := by decide +kernel
theorem d_M_notation_137 : decode prog_15_method_26_code 137 = .ok (.ireturn, 1) := by decide +kernel
theorem d_M_notation_138 : decode prog_15_method_26_code 138 = .ok (.iconst 0, 1) := by decide +kernel
theorem d_M_notation_139 : decode prog_15_method_26_code 139 = .ok (.istore_n 3, 1) := by decide +kernel
theorem d_M_notation_140 : decode prog_15_method_26_code 140 = .ok (.iload_n 3, 1) := by decide +kernel
theorem d_M_notation_141 : decode prog_15_method_26_code 141 = .ok (.aload_n 0, 1) := by decide +kernel
theorem d_M_notation_142 : decode prog_15_method_26_code 142 = .ok (.getfield 178, 3) := by decide +kernel
theorem d_M_notation_145 : decode prog_15_method_26_code 145 = .ok (.if_icmp .ge 26, 3) := by decide +kernel
theorem d_M_notation_148 : decode prog_15_method_26_code 148 = .ok (.aload_n 0, 1) := by decide +kernel
theorem d_M_notation_149 : decode prog_15_method_26_code 149 = .ok (.getfield 22, 3) := by decide +kernel
theorem d_M_notation_152 : decode prog_15_method_26_code 152 = .ok (.bipush 100, 2) := by decide +kernel
theorem d_M_notation_154 : decode prog_15_method_26_code 154 = .ok (.iload_n 1, 1) := by decide +kernel
theorem d_M_notation_155 : decode prog_15_method_26_code 155 = .ok (.imul, 1) := by decide +kernel
theorem d_M_notation_156 : decode prog_15_method_26_code 156 = .ok (.iload_n 3, 1) := by decide +kernel
theorem d_M_notation_157 : decode prog_15_method_26_code 157 = .ok (.iadd, 1) := by decide +kernel
theorem d_M_notation_158 : decode prog_15_method_26_code 158 = .ok (.aload_n 0, 1) := by decide +kernel
theorem d_M_notation_159 : decode prog_15_method_26_code 159 = .ok (.getfield 92, 3) := by decide +kernel
theorem d_M_notation_162 : decode prog_15_method_26_code 162 = .ok (.iload_n 3, 1) := by decide +kernel
theorem d_M_notation_163 : decode prog_15_method_26_code 163 = .ok (.iaload, 1) := by decide +kernel
theorem d_M_notation_164 : decode prog_15_method_26_code 164 = .ok (.iastore, 1) := by decide +kernel
theorem d_M_notation_165 : decode prog_15_method_26_code 165 = .ok (.iinc 3 1, 3) := by decide +kernel
theorem d_M_notation_168 : decode prog_15_method_26_code 168 = .ok (.goto (-28), 3) := by decide +kernel
theorem d_M_notation_171 : decode prog_15_method_26_code 171 = .ok (.aload_n 0, 1) := by decide +kernel
theorem d_M_notation_172 : decode prog_15_method_26_code 172 = .ok (.getfield 19, 3) := by decide +kernel
theorem d_M_notation_175 : decode prog_15_method_26_code 175 = .ok (.iload_n 1, 1) := by decide +kernel
theorem d_M_notation_176 : decode prog_15_method_26_code 176 = .ok (.aload_n 0, 1) := by decide +kernel
theorem d_M_notation_177 : decode prog_15_method_26_code 177 = .ok (.getfield 178, 3) := by decide +kernel
theorem d_M_notation_180 : decode prog_15_method_26_code 180 = .ok (.iastore, 1) := by decide +kernel
theorem d_M_notation_181 : decode prog_15_method_26_code 181 = .ok (.aload_n 0, 1) := by decide +kernel
theorem d_M_notation_182 : decode prog_15_method_26_code 182 = .ok (.iconst 1, 1) := by decide +kernel
theorem d_M_notation_183 : decode prog_15_method_26_code 183 = .ok (.putfield 121, 3) := by decide +kernel
theorem d_M_notation_186 : decode prog_15_method_26_code 186 = .ok (.aload_n 0, 1) := by decide +kernel
theorem d_M_notation_187 : decode prog_15_method_26_code 187 = .ok (.getfield 178, 3) := by decide +kernel
theorem d_M_notation_190 : decode prog_15_method_26_code 190 = .ok (.ireturn, 1) := by decide +kernel
set_option maxRecDepth 20000 in
theorem jc_M_notation_140 (N : Nat) : ∀ (n : Nat) (l0 : Option Nat) (l1 : Int32) (l3 : Int32) (h : Hp), J p l e R s m args below meth c prog_15_method_26_code 4 "RingingChamberModel" 3 68 (some .int) "notation" D dA B n0 s0 (QM below args s D dA B n0 s0 vI) 140 [(0, vr l0), (1, vi l1), (3, vi l3)] [] h (M_notation_140 N n l0 l1 l3 h) := by
  intro n
  induction n with
  | zero => intros; exact J.none
  | succ n ih =>
    intro l0 l1 l3 h
    rw [M_notation_140]
    refine j_iload_n d_M_notation_140 2 rfl rfl ?_
    refine j_aload_n d_M_notation_141 0 rfl rfl ?_
    refine j_getI d_M_notation_142 fl_12_178.r (fun x1 => ?_)
    refine j_icmp_ge (tgt := 171) d_M_notation_145 (by decide) ?_ ?_
    · refine j_aload_n d_M_notation_171 0 rfl rfl ?_
      refine j_getR d_M_notation_172 fl_12_19.r (fun x2 => ?_)
      refine j_iload_n d_M_notation_175 1 rfl rfl ?_
      refine j_aload_n d_M_notation_176 0 rfl rfl ?_
      refine j_getI d_M_notation_177 fl_12_178.r (fun x3 => ?_)
      refine j_iast d_M_notation_180 (fun h4 => ?_)
      refine j_aload_n d_M_notation_181 0 rfl rfl ?_
      refine j_iconst (v := 1) d_M_notation_182 (by decide) ?_
      refine j_putZ d_M_notation_183 fl_12_121 (Or.inl rfl) (fun h5 => ?_)
      refine j_aload_n d_M_notation_186 0 rfl rfl ?_
      refine j_getI d_M_notation_187 fl_12_178.r (fun x6 => ?_)
      exact j_retI d_M_notation_190
    · refine j_aload_n d_M_notation_148 0 rfl rfl ?_
      refine j_getR d_M_notation_149 fl_12_22.r (fun x7 => ?_)
      refine j_bipush (v := 100) d_M_notation_152 (by decide) ?_
      refine j_iload_n d_M_notation_154 1 rfl rfl ?_
      refine j_imul d_M_notation_155 ?_
      refine j_iload_n d_M_notation_156 2 rfl rfl ?_
      refine j_iadd d_M_notation_157 ?_
      refine j_aload_n d_M_notation_158 0 rfl rfl ?_
      refine j_getR d_M_notation_159 fl_12_92.r (fun x8 => ?_)
      refine j_iload_n d_M_notation_162 2 rfl rfl ?_
      refine j_iald d_M_notation_163 (fun x9 => ?_)
      refine j_iast d_M_notation_164 (fun h10 => ?_)
      refine j_iinc (lvv := fun x11 => [(3, vi x11), (0, vr l0), (1, vi l1)]) d_M_notation_165 2 rfl rfl (by decide) (fun _ => rfl) (fun x11 => ?_)
      refine j_goto (tgt := 140) d_M_notation_168 (by decide) ?_
      exact J.sub [1, 2, 0] rfl (ih l0 l1 x11 h10)
set_option maxRecDepth 20000 in
theorem jc_M_notation_109 (N : Nat) (l0 : Option Nat) (l1 : Int32) (l2 : Int32) (h : Hp) : J p l e R s m args below meth c prog_15_method_26_code 4 "RingingChamberModel" 3 68 (some .int) "notation" D dA B n0 s0 (QM below args s D dA B n0 s0 vI) 109 [(0, vr l0), (1, vi l1), (2, vi l2)] [] h (M_notation_109 N l0 l1 l2 h) := by
  unfold M_notation_109
  refine j_aload_n d_M_notation_109 0 rfl rfl ?_
  refine j_iconst (v := 0) d_M_notation_110 (by decide) ?_
  refine j_putI d_M_notation_111 fl_12_168 (Or.inl rfl) (fun h1 => ?_)
  refine j_iload_n d_M_notation_114 2 rfl rfl ?_
  refine j_if_ne (tgt := 125) d_M_notation_115 (by decide) ?_ ?_
  · refine j_iconst (v := -1) d_M_notation_118 (by decide) ?_
    refine j_aload_n d_M_notation_119 0 rfl rfl ?_
    refine j_getI d_M_notation_120 fl_12_171.r (fun x3 => ?_)
    refine j_isub d_M_notation_123 ?_
    exact j_retI d_M_notation_124
  · refine j_aload_n d_M_notation_125 0 rfl rfl ?_
    refine j_getI d_M_notation_126 fl_12_178.r (fun x2 => ?_)
    refine j_bipush (v := 100) d_M_notation_129 (by decide) ?_
    refine j_icmp_le (tgt := 138) d_M_notation_131 (by decide) ?_ ?_
    · refine j_iconst (v := 0) d_M_notation_138 (by decide) ?_
      refine j_istore_n (lv' := [(3, vi 0), (0, vr l0), (1, vi l1), (2, vi l2)]) d_M_notation_139 rfl (by decide) rfl ?_
      exact J.sub [1, 2, 0] rfl (jc_M_notation_140 N N l0 l1 0 h1)
    · refine j_sipush (v := -1000) d_M_notation_134 (by decide) ?_
      exact j_retI d_M_notation_137
set_option maxRecDepth 20000 in
theorem jc_M_notation_108 (N : Nat) (l0 : Option Nat) (l1 : Int32) (u0 : Int32) (h : Hp) : J p l e R s m args below meth c prog_15_method_26_code 4 "RingingChamberModel" 3 68 (some .int) "notation" D dA B n0 s0 (QM below args s D dA B n0 s0 vI) 108 [(0, vr l0), (1, vi l1)] [vi u0] h (M_notation_108 N l0 l1 u0 h) := by
  unfold M_notation_108
  refine j_istore_n (lv' := [(2, vi u0), (0, vr l0), (1, vi l1)]) d_M_notation_108 rfl (by decide) rfl ?_
  exact J.sub [1, 2, 0] rfl (jc_M_notation_109 N l0 l1 u0 h)
set_option maxRecDepth 20000 in
theorem jc_M_notation_28 (N : Nat) (l0 : Option Nat) (l1 : Int32) (u0 : Option Nat) (u1 : Int32) (h : Hp) : J p l e R s m args below meth c prog_15_method_26_code 4 "RingingChamberModel" 3 68 (some .int) "notation" D dA B n0 s0 (QM below args s D dA B n0 s0 vI) 28 [(0, vr l0), (1, vi l1)] [vi u1, vr u0] h (M_notation_28 N l0 l1 u0 u1 h) := by
  unfold M_notation_28
  refine j_vI1 d_M_notation_28 (allQ.cons (VD.mk vt_12_191_12 (ct_M_finds N l D dA B u0 u1 h) (by decide) (by decide)) allQ.nil) (Nat.le_of_ble_eq_true rfl) (fun x2 h1 => ?_)
  refine j_if_eq (tgt := 36) d_M_notation_31 (by decide) ?_ ?_
  · refine j_aload_n d_M_notation_36 0 rfl rfl ?_
    refine j_iconst (v := 0) d_M_notation_37 (by decide) ?_
    refine j_putI d_M_notation_38 fl_12_178 (Or.inl rfl) (fun h3 => ?_)
    refine j_aload_n d_M_notation_41 0 rfl rfl ?_
    refine j_iconst (v := 0) d_M_notation_42 (by decide) ?_
    refine j_vI1 d_M_notation_43 (allQ.cons (VD.mk vt_12_194_12 (ct_M_block N l D dA B l0 0 h3) (by decide) (by decide)) allQ.nil) (Nat.le_of_ble_eq_true rfl) (fun x5 h4 => ?_)
    refine j_istore_n (lv' := [(2, vi x5), (0, vr l0), (1, vi l1)]) d_M_notation_46 rfl (by decide) rfl ?_
    refine j_iload_n d_M_notation_47 0 rfl rfl ?_
    refine j_if_eq (tgt := 109) d_M_notation_48 (by decide) ?_ ?_
    · exact J.sub [1, 2, 0] rfl (jc_M_notation_109 N l0 l1 x5 h4)
    · refine j_aload_n d_M_notation_51 1 rfl rfl ?_
      refine j_getI d_M_notation_52 fl_12_171.r (fun x6 => ?_)
      refine j_aload_n d_M_notation_55 1 rfl rfl ?_
      refine j_getI d_M_notation_56 fl_12_168.r (fun x7 => ?_)
      refine j_icmp_ge (tgt := 109) d_M_notation_59 (by decide) ?_ ?_
      · exact J.sub [1, 2, 0] rfl (jc_M_notation_109 N l0 l1 x5 h4)
      · refine j_aload_n d_M_notation_62 1 rfl rfl ?_
        refine j_iconst (v := 0) d_M_notation_63 (by decide) ?_
        refine j_vU1 d_M_notation_64 (allQ.cons (VD.mk vt_12_197_12 (ct_M_turned N l D dA B l0 0 h4) (by decide) (by decide)) allQ.nil) (Nat.le_of_ble_eq_true rfl) (fun _ h8 => ?_)
        refine j_aload_n d_M_notation_67 1 rfl rfl ?_
        refine j_getI d_M_notation_68 fl_12_178.r (fun x9 => ?_)
        refine j_istore_n (lv' := [(3, vi x9), (2, vi x5), (0, vr l0), (1, vi l1)]) d_M_notation_71 rfl (by decide) rfl ?_
        refine j_aload_n d_M_notation_72 2 rfl rfl ?_
        refine j_aload_n d_M_notation_73 2 rfl rfl ?_
        refine j_getI d_M_notation_74 fl_12_171.r (fun x10 => ?_)
        refine j_iconst (v := 1) d_M_notation_77 (by decide) ?_
        refine j_iadd d_M_notation_78 ?_
        refine j_vI1 d_M_notation_79 (allQ.cons (VD.mk vt_12_194_12 (ct_M_block N l D dA B l0 (x10 + (1 : Int32)) h8) (by decide) (by decide)) allQ.nil) (Nat.le_of_ble_eq_true rfl) (fun x12 h11 => ?_)
        refine j_istore_n (lv' := [(2, vi x12), (3, vi x9), (0, vr l0), (1, vi l1)]) d_M_notation_82 rfl (by decide) rfl ?_
        refine j_iload_n d_M_notation_83 0 rfl rfl ?_
        refine j_if_eq (tgt := 109) d_M_notation_84 (by decide) ?_ ?_
        · exact J.sub [2, 3, 0] rfl (jc_M_notation_109 N l0 l1 x12 h11)
        · refine j_aload_n d_M_notation_87 2 rfl rfl ?_
          refine j_iload_n d_M_notation_88 1 rfl rfl ?_
          refine j_vU1 d_M_notation_89 (allQ.cons (VD.mk vt_12_197_12 (ct_M_turned N l D dA B l0 x9 h11) (by decide) (by decide)) allQ.nil) (Nat.le_of_ble_eq_true rfl) (fun _ h13 => ?_)
          refine j_aload_n d_M_notation_92 2 rfl rfl ?_
          refine j_getI d_M_notation_93 fl_12_171.r (fun x14 => ?_)
          refine j_aload_n d_M_notation_96 2 rfl rfl ?_
          refine j_getI d_M_notation_97 fl_12_168.r (fun x15 => ?_)
          refine j_icmp_ne (tgt := 107) d_M_notation_100 (by decide) ?_ ?_
          · refine j_iconst (v := 1) d_M_notation_103 (by decide) ?_
            refine j_goto (tgt := 108) d_M_notation_104 (by decide) ?_
            exact J.sub [2, 3] rfl (jc_M_notation_108 N l0 l1 1 h13)
          · refine j_iconst (v := 0) d_M_notation_107 (by decide) ?_
            exact J.sub [2, 3] rfl (jc_M_notation_108 N l0 l1 0 h13)
  · refine j_iconst (v := 0) d_M_notation_34 (by decide) ?_
    exact j_retI d_M_notation_35
set_option maxRecDepth 20000 in
theorem jc_M_notation (N : Nat) (l0 : Option Nat) (l1 : Int32) (h : Hp) : J p l e R s m args below meth c prog_15_method_26_code 4 "RingingChamberModel" 3 68 (some .int) "notation" D dA B n0 s0 (QM below args s D dA B n0 s0 vI) 0 [(0, vr l0), (1, vi l1)] [] h (M_notation N l0 l1 h) := by
  unfold M_notation
  refine j_aload_n d_M_notation_0 0 rfl rfl ?_
  refine j_aload_n d_M_notation_1 0 rfl rfl ?_
  refine j_iload_n d_M_notation_2 1 rfl rfl ?_
  refine j_vI1 d_M_notation_3 (allQ.cons (VD.mk vt_12_187_12 (ct_M_isMethod N l D dA B l0 l1 h) (by decide) (by decide)) allQ.nil) (Nat.le_of_ble_eq_true rfl) (fun x2 h1 => ?_)
  refine j_if_ne (tgt := 13) d_M_notation_6 (by decide) ?_ ?_
  · refine j_iconst (v := 4) d_M_notation_9 (by decide) ?_
    refine j_goto (tgt := 28) d_M_notation_10 (by decide) ?_
    exact jc_M_notation_28 N l0 l1 l0 4 h1
  · refine j_aload_n d_M_notation_13 0 rfl rfl ?_
    refine j_getR d_M_notation_14 fl_12_16.r (fun x3 => ?_)
    refine j_iload_n d_M_notation_17 1 rfl rfl ?_
    refine j_iald d_M_notation_18 (fun x4 => ?_)
    refine j_iconst (v := 5) d_M_notation_19 (by decide) ?_
    refine j_icmp_ne (tgt := 27) d_M_notation_20 (by decide) ?_ ?_
    · refine j_iconst (v := 3) d_M_notation_23 (by decide) ?_
      refine j_goto (tgt := 28) d_M_notation_24 (by decide) ?_
      exact jc_M_notation_28 N l0 l1 l0 3 h1
    · refine j_iconst (v := 0) d_M_notation_27 (by decide) ?_
      exact jc_M_notation_28 N l0 l1 l0 0 h1
set_option maxRecDepth 20000 in
theorem ct_M_notation (N : Nat) (l : Launch) (D : va_G) (dA : Nat → ClassId) (B : Nat) (l0 : Option Nat) (l1 : Int32) (h : Hp) : Ct l (⟨"RingingChamberModel", "notation", "(I)I"⟩ : MethodName) prog_15_method_26_code 4 (some .int) 3 68 D dA B [vr l0, vi l1] h vI (M_notation N l0 l1 h) :=
  Ct.of2 (own := "RingingChamberModel") (nme := "notation") (lv := [(0, vr l0), (1, vi l1)]) rfl rfl (by decide) (Nat.le_of_ble_eq_true rfl) rfl (fun p e R s m args below meth c => jc_M_notation N l0 l1 h)
theorem d_M_cut_0 : decode prog_15_method_27_code 0 = .ok (.aload_n 0, 1) := by decide +kernel
theorem d_M_cut_1 : decode prog_15_method_27_code 1 = .ok (.aload_n 0, 1) := by decide +kernel
theorem d_M_cut_2 : decode prog_15_method_27_code 2 = .ok (.iload_n 1, 1) := by decide +kernel
theorem d_M_cut_3 : decode prog_15_method_27_code 3 = .ok (.invokevirtual 187, 3) := by decide +kernel
theorem d_M_cut_6 : decode prog_15_method_27_code 6 = .ok (.ifCond .ne 7, 3) := by decide +kernel
theorem d_M_cut_9 : decode prog_15_method_27_code 9 = .ok (.iconst 4, 1) := by decide +kernel
theorem d_M_cut_10 : decode prog_15_method_27_code 10 = .ok (.goto 54, 3) := by decide +kernel
theorem d_M_cut_13 : decode prog_15_method_27_code 13 = .ok (.aload_n 0, 1) := by decide +kernel
theorem d_M_cut_14 : decode prog_15_method_27_code 14 = .ok (.getfield 16, 3) := by decide +kernel
theorem d_M_cut_17 : decode prog_15_method_27_code 17 = .ok (.iload_n 1, 1) := by decide +kernel
theorem d_M_cut_18 : decode prog_15_method_27_code 18 = .ok (.iaload, 1) := by decide +kernel
theorem d_M_cut_19 : decode prog_15_method_27_code 19 = .ok (.iconst 5, 1) := by decide +kernel
theorem d_M_cut_20 : decode prog_15_method_27_code 20 = .ok (.if_icmp .ne 7, 3) := by decide +kernel
theorem d_M_cut_23 : decode prog_15_method_27_code 23 = .ok (.iconst 3, 1) := by decide +kernel
theorem d_M_cut_24 : decode prog_15_method_27_code 24 = .ok (.goto 40, 3) := by decide +kernel
theorem d_M_cut_27 : decode prog_15_method_27_code 27 = .ok (.aload_n 0, 1) := by decide +kernel
theorem d_M_cut_28 : decode prog_15_method_27_code 28 = .ok (.getfield 19, 3) := by decide +kernel
theorem d_M_cut_31 : decode prog_15_method_27_code 31 = .ok (.iload_n 1, 1) := by decide +kernel
theorem d_M_cut_32 : decode prog_15_method_27_code 32 = .ok (.iaload, 1) := by decide +kernel
theorem d_M_cut_33 : decode prog_15_method_27_code 33 = .ok (.ifCond .ge 7, 3) := by decide +kernel
theorem d_M_cut_36 : decode prog_15_method_27_code 36 = .ok (.iconst 1, 1) := by decide +kernel
theorem d_M_cut_37 : decode prog_15_method_27_code 37 = .ok (.goto 27, 3) := by decide +kernel
theorem d_M_cut_40 : decode prog_15_method_27_code 40 = .ok (.iload_n 2, 1) := by decide +kernel
theorem d_M_cut_41 : decode prog_15_method_27_code 41 = .ok (.ifCond .ge 8, 3) := by decide +kernel
theorem d_M_cut_44 : decode prog_15_method_27_code 44 = .ok (.bipush 6, 2) := by decide +kernel
theorem d_M_cut_46 : decode prog_15_method_27_code 46 = .ok (.goto 18, 3) := by decide +kernel
theorem d_M_cut_49 : decode prog_15_method_27_code 49 = .ok (.iload_n 2, 1) := by decide +kernel
theorem d_M_cut_50 : decode prog_15_method_27_code 50 = .ok (.aload_n 0, 1) := by decide +kernel
theorem d_M_cut_51 : decode prog_15_method_27_code 51 = .ok (.getfield 19, 3) := by decide +kernel
theorem d_M_cut_54 : decode prog_15_method_27_code 54 = .ok (.iload_n 1, 1) := by decide +kernel
theorem d_M_cut_55 : decode prog_15_method_27_code 55 = .ok (.iaload, 1) := by decide +kernel
theorem d_M_cut_56 : decode prog_15_method_27_code 56 = .ok (.if_icmp .le 7, 3) := by decide +kernel
theorem d_M_cut_59 : decode prog_15_method_27_code 59 = .ok (.iconst 5, 1) := by decide +kernel
theorem d_M_cut_60 : decode prog_15_method_27_code 60 = .ok (.goto 4, 3) := by decide +kernel
theorem d_M_cut_63 : decode prog_15_method_27_code 63 = .ok (.iconst 0, 1) := by decide +kernel
theorem d_M_cut_64 : decode prog_15_method_27_code 64 = .ok (.invokevirtual 191, 3) := by decide +kernel
theorem d_M_cut_67 : decode prog_15_method_27_code 67 = .ok (.ifCond .eq 5, 3) := by decide +kernel
theorem d_M_cut_70 : decode prog_15_method_27_code 70 = .ok (.iconst 0, 1) := by decide +kernel
theorem d_M_cut_71 : decode prog_15_method_27_code 71 = .ok (.ireturn, 1) := by decide +kernel
theorem d_M_cut_72 : decode prog_15_method_27_code 72 = .ok (.aload_n 0, 1) := by decide +kernel
theorem d_M_cut_73 : decode prog_15_method_27_code 73 = .ok (.getfield 19, 3) := by decide +kernel
theorem d_M_cut_76 : decode prog_15_method_27_code 76 = .ok (.iload_n 1, 1) := by decide +kernel
theorem d_M_cut_77 : decode prog_15_method_27_code 77 = .ok (.iload_n 2, 1) := by decide +kernel
theorem d_M_cut_78 : decode prog_15_method_27_code 78 = .ok (.iastore, 1) := by decide +kernel
theorem d_M_cut_79 : decode prog_15_method_27_code 79 = .ok (.aload_n 0, 1) := by decide +kernel
theorem d_M_cut_80 : decode prog_15_method_27_code 80 = .ok (.iconst 1, 1) := by decide +kernel
theorem d_M_cut_81 : decode prog_15_method_27_code 81 = .ok (.putfield 121, 3) := by decide +kernel
theorem d_M_cut_84 : decode prog_15_method_27_code 84 = .ok (.iload_n 2, 1) := by decide +kernel
theorem d_M_cut_85 : decode prog_15_method_27_code 85 = .ok (.ireturn, 1) := by decide +kernel
set_option maxRecDepth 20000 in
theorem jc_M_cut_64 (N : Nat) (l0 : Option Nat) (l1 : Int32) (l2 : Int32) (u0 : Option Nat) (u1 : Int32) (h : Hp) : J p l e R s m args below meth c prog_15_method_27_code 3 "RingingChamberModel" 1 21 (some .int) "cut" D dA B n0 s0 (QM below args s D dA B n0 s0 vI) 64 [(0, vr l0), (1, vi l1), (2, vi l2)] [vi u1, vr u0] h (M_cut_64 N l0 l1 l2 u0 u1 h) := by
  unfold M_cut_64
  refine j_vI1 d_M_cut_64 (allQ.cons (VD.mk vt_12_191_12 (ct_M_finds N l D dA B u0 u1 h) (by decide) (by decide)) allQ.nil) (Nat.le_of_ble_eq_true rfl) (fun x2 h1 => ?_)
  refine j_if_eq (tgt := 72) d_M_cut_67 (by decide) ?_ ?_
  · refine j_aload_n d_M_cut_72 0 rfl rfl ?_
    refine j_getR d_M_cut_73 fl_12_19.r (fun x3 => ?_)
    refine j_iload_n d_M_cut_76 1 rfl rfl ?_
    refine j_iload_n d_M_cut_77 2 rfl rfl ?_
    refine j_iast d_M_cut_78 (fun h4 => ?_)
    refine j_aload_n d_M_cut_79 0 rfl rfl ?_
    refine j_iconst (v := 1) d_M_cut_80 (by decide) ?_
    refine j_putZ d_M_cut_81 fl_12_121 (Or.inl rfl) (fun h5 => ?_)
    refine j_iload_n d_M_cut_84 2 rfl rfl ?_
    exact j_retI d_M_cut_85
  · refine j_iconst (v := 0) d_M_cut_70 (by decide) ?_
    exact j_retI d_M_cut_71
set_option maxRecDepth 20000 in
theorem jc_M_cut (N : Nat) (l0 : Option Nat) (l1 : Int32) (l2 : Int32) (h : Hp) : J p l e R s m args below meth c prog_15_method_27_code 3 "RingingChamberModel" 1 21 (some .int) "cut" D dA B n0 s0 (QM below args s D dA B n0 s0 vI) 0 [(0, vr l0), (1, vi l1), (2, vi l2)] [] h (M_cut N l0 l1 l2 h) := by
  unfold M_cut
  refine j_aload_n d_M_cut_0 0 rfl rfl ?_
  refine j_aload_n d_M_cut_1 0 rfl rfl ?_
  refine j_iload_n d_M_cut_2 1 rfl rfl ?_
  refine j_vI1 d_M_cut_3 (allQ.cons (VD.mk vt_12_187_12 (ct_M_isMethod N l D dA B l0 l1 h) (by decide) (by decide)) allQ.nil) (Nat.le_of_ble_eq_true rfl) (fun x2 h1 => ?_)
  refine j_if_ne (tgt := 13) d_M_cut_6 (by decide) ?_ ?_
  · refine j_iconst (v := 4) d_M_cut_9 (by decide) ?_
    refine j_goto (tgt := 64) d_M_cut_10 (by decide) ?_
    exact jc_M_cut_64 N l0 l1 l2 l0 4 h1
  · refine j_aload_n d_M_cut_13 0 rfl rfl ?_
    refine j_getR d_M_cut_14 fl_12_16.r (fun x3 => ?_)
    refine j_iload_n d_M_cut_17 1 rfl rfl ?_
    refine j_iald d_M_cut_18 (fun x4 => ?_)
    refine j_iconst (v := 5) d_M_cut_19 (by decide) ?_
    refine j_icmp_ne (tgt := 27) d_M_cut_20 (by decide) ?_ ?_
    · refine j_iconst (v := 3) d_M_cut_23 (by decide) ?_
      refine j_goto (tgt := 64) d_M_cut_24 (by decide) ?_
      exact jc_M_cut_64 N l0 l1 l2 l0 3 h1
    · refine j_aload_n d_M_cut_27 0 rfl rfl ?_
      refine j_getR d_M_cut_28 fl_12_19.r (fun x5 => ?_)
      refine j_iload_n d_M_cut_31 1 rfl rfl ?_
      refine j_iald d_M_cut_32 (fun x6 => ?_)
      refine j_if_ge (tgt := 40) d_M_cut_33 (by decide) ?_ ?_
      · refine j_iload_n d_M_cut_40 2 rfl rfl ?_
        refine j_if_ge (tgt := 49) d_M_cut_41 (by decide) ?_ ?_
        · refine j_iload_n d_M_cut_49 2 rfl rfl ?_
          refine j_aload_n d_M_cut_50 0 rfl rfl ?_
          refine j_getR d_M_cut_51 fl_12_19.r (fun x7 => ?_)
          refine j_iload_n d_M_cut_54 1 rfl rfl ?_
          refine j_iald d_M_cut_55 (fun x8 => ?_)
          refine j_icmp_le (tgt := 63) d_M_cut_56 (by decide) ?_ ?_
          · refine j_iconst (v := 0) d_M_cut_63 (by decide) ?_
            exact jc_M_cut_64 N l0 l1 l2 l0 0 h1
          · refine j_iconst (v := 5) d_M_cut_59 (by decide) ?_
            refine j_goto (tgt := 64) d_M_cut_60 (by decide) ?_
            exact jc_M_cut_64 N l0 l1 l2 l0 5 h1
        · refine j_bipush (v := 6) d_M_cut_44 (by decide) ?_
          refine j_goto (tgt := 64) d_M_cut_46 (by decide) ?_
          exact jc_M_cut_64 N l0 l1 l2 l0 6 h1
      · refine j_iconst (v := 1) d_M_cut_36 (by decide) ?_
        refine j_goto (tgt := 64) d_M_cut_37 (by decide) ?_
        exact jc_M_cut_64 N l0 l1 l2 l0 1 h1
set_option maxRecDepth 20000 in
theorem ct_M_cut (N : Nat) (l : Launch) (D : va_G) (dA : Nat → ClassId) (B : Nat) (l0 : Option Nat) (l1 : Int32) (l2 : Int32) (h : Hp) : Ct l (⟨"RingingChamberModel", "cut", "(II)I"⟩ : MethodName) prog_15_method_27_code 3 (some .int) 1 21 D dA B [vr l0, vi l1, vi l2] h vI (M_cut N l0 l1 l2 h) :=
  Ct.of2 (own := "RingingChamberModel") (nme := "cut") (lv := [(0, vr l0), (1, vi l1), (2, vi l2)]) rfl rfl (by decide) (Nat.le_of_ble_eq_true rfl) rfl (fun p e R s m args below meth c => jc_M_cut N l0 l1 l2 h)
theorem d_M_called_0 : decode prog_15_method_28_code 0 = .ok (.aload_n 0, 1) := by decide +kernel
theorem d_M_called_1 : decode prog_15_method_28_code 1 = .ok (.aload_n 0, 1) := by decide +kernel
theorem d_M_called_2 : decode prog_15_method_28_code 2 = .ok (.iload_n 1, 1) := by decide +kernel
theorem d_M_called_3 : decode prog_15_method_28_code 3 = .ok (.invokevirtual 187, 3) := by decide +kernel
theorem d_M_called_6 : decode prog_15_method_28_code 6 = .ok (.ifCond .ne 7, 3) := by decide +kernel
theorem d_M_called_9 : decode prog_15_method_28_code 9 = .ok (.iconst 4, 1) := by decide +kernel
theorem d_M_called_10 : decode prog_15_method_28_code 10 = .ok (.goto 51, 3) := by decide +kernel
theorem d_M_called_13 : decode prog_15_method_28_code 13 = .ok (.aload_n 0, 1) := by decide +kernel
theorem d_M_called_14 : decode prog_15_method_28_code 14 = .ok (.getfield 16, 3) := by decide +kernel
theorem d_M_called_17 : decode prog_15_method_28_code 17 = .ok (.iload_n 1, 1) := by decide +kernel
theorem d_M_called_18 : decode prog_15_method_28_code 18 = .ok (.iaload, 1) := by decide +kernel
theorem d_M_called_19 : decode prog_15_method_28_code 19 = .ok (.iconst 5, 1) := by decide +kernel
theorem d_M_called_20 : decode prog_15_method_28_code 20 = .ok (.if_icmp .ne 8, 3) := by decide +kernel
theorem d_M_called_23 : decode prog_15_method_28_code 23 = .ok (.bipush 9, 2) := by decide +kernel
theorem d_M_called_25 : decode prog_15_method_28_code 25 = .ok (.goto 36, 3) := by decide +kernel
theorem d_M_called_28 : decode prog_15_method_28_code 28 = .ok (.iload_n 2, 1) := by decide +kernel
theorem d_M_called_29 : decode prog_15_method_28_code 29 = .ok (.iconst 1, 1) := by decide +kernel
theorem d_M_called_30 : decode prog_15_method_28_code 30 = .ok (.if_icmp .lt 12, 3) := by decide +kernel
theorem d_M_called_33 : decode prog_15_method_28_code 33 = .ok (.iload_n 2, 1) := by decide +kernel
theorem d_M_called_34 : decode prog_15_method_28_code 34 = .ok (.iconst 2, 1) := by decide +kernel
theorem d_M_called_35 : decode prog_15_method_28_code 35 = .ok (.if_icmp .gt 7, 3) := by decide +kernel
theorem d_M_called_38 : decode prog_15_method_28_code 38 = .ok (.iload_n 3, 1) := by decide +kernel
theorem d_M_called_39 : decode prog_15_method_28_code 39 = .ok (.ifCond .ge 7, 3) := by decide +kernel
theorem d_M_called_42 : decode prog_15_method_28_code 42 = .ok (.iconst 2, 1) := by decide +kernel
theorem d_M_called_43 : decode prog_15_method_28_code 43 = .ok (.goto 18, 3) := by decide +kernel
theorem d_M_called_46 : decode prog_15_method_28_code 46 = .ok (.aload_n 0, 1) := by decide +kernel
theorem d_M_called_47 : decode prog_15_method_28_code 47 = .ok (.iload 4, 2) := by decide +kernel
theorem d_M_called_49 : decode prog_15_method_28_code 49 = .ok (.invokevirtual 200, 3) := by decide +kernel
theorem d_M_called_52 : decode prog_15_method_28_code 52 = .ok (.ifCond .eq 7, 3) := by decide +kernel
theorem d_M_called_55 : decode prog_15_method_28_code 55 = .ok (.iconst 0, 1) := by decide +kernel
theorem d_M_called_56 : decode prog_15_method_28_code 56 = .ok (.goto 5, 3) := by decide +kernel
theorem d_M_called_59 : decode prog_15_method_28_code 59 = .ok (.bipush 8, 2) := by decide +kernel
theorem d_M_called_61 : decode prog_15_method_28_code 61 = .ok (.invokevirtual 191, 3) := by decide +kernel
theorem d_M_called_64 : decode prog_15_method_28_code 64 = .ok (.ifCond .eq 5, 3) := by decide +kernel
theorem d_M_called_67 : decode prog_15_method_28_code 67 = .ok (.iconst 0, 1) := by decide +kernel
theorem d_M_called_68 : decode prog_15_method_28_code 68 = .ok (.ireturn, 1) := by decide +kernel
theorem d_M_called_69 : decode prog_15_method_28_code 69 = .ok (.aload_n 0, 1) := by decide +kernel
theorem d_M_called_70 : decode prog_15_method_28_code 70 = .ok (.getfield 25, 3) := by decide +kernel
theorem d_M_called_73 : decode prog_15_method_28_code 73 = .ok (.iconst 3, 1) := by decide +kernel
theorem d_M_called_74 : decode prog_15_method_28_code 74 = .ok (.iload_n 1, 1) := by decide +kernel
theorem d_M_called_75 : decode prog_15_method_28_code 75 = .ok (.imul, 1) := by decide +kernel
theorem d_M_called_76 : decode prog_15_method_28_code 76 = .ok (.iload_n 2, 1) := by decide +kernel
theorem d_M_called_77 : decode prog_15_method_28_code 77 = .ok (.iadd, 1) := by decide +kernel
theorem d_M_called_78 : decode prog_15_method_28_code 78 = .ok (.iload_n 3, 1) := by decide +kernel
theorem d_M_called_79 : decode prog_15_method_28_code 79 = .ok (.iastore, 1) := by decide +kernel
theorem d_M_called_80 : decode prog_15_method_28_code 80 = .ok (.aload_n 0, 1) := by decide +kernel
theorem d_M_called_81 : decode prog_15_method_28_code 81 = .ok (.getfield 28, 3) := by decide +kernel
theorem d_M_called_84 : decode prog_15_method_28_code 84 = .ok (.iconst 3, 1) := by decide +kernel
theorem d_M_called_85 : decode prog_15_method_28_code 85 = .ok (.iload_n 1, 1) := by decide +kernel
theorem d_M_called_86 : decode prog_15_method_28_code 86 = .ok (.imul, 1) := by decide +kernel
theorem d_M_called_87 : decode prog_15_method_28_code 87 = .ok (.iload_n 2, 1) := by decide +kernel
theorem d_M_called_88 : decode prog_15_method_28_code 88 = .ok (.iadd, 1) := by decide +kernel
theorem d_M_called_89 : decode prog_15_method_28_code 89 = .ok (.iload 4, 2) := by decide +kernel
theorem d_M_called_91 : decode prog_15_method_28_code 91 = .ok (.iastore, 1) := by decide +kernel
theorem d_M_called_92 : decode prog_15_method_28_code 92 = .ok (.aload_n 0, 1) := by decide +kernel
theorem d_M_called_93 : decode prog_15_method_28_code 93 = .ok (.iconst 1, 1) := by decide +kernel
theorem d_M_called_94 : decode prog_15_method_28_code 94 = .ok (.putfield 121, 3) := by decide +kernel
theorem d_M_called_97 : decode prog_15_method_28_code 97 = .ok (.iconst 1, 1) := by decide +kernel
theorem d_M_called_98 : decode prog_15_method_28_code 98 = .ok (.ireturn, 1) := by decide +kernel
set_option maxRecDepth 20000 in
theorem jc_M_called_61 (N : Nat) (l0 : Option Nat) (l1 : Int32) (l2 : Int32) (l3 : Int32) (l4 : Int32) (u0 : Option Nat) (u1 : Int32) (h : Hp) : J p l e R s m args below meth c prog_15_method_28_code 5 "RingingChamberModel" 1 21 (some .int) "called" D dA B n0 s0 (QM below args s D dA B n0 s0 vI) 61 [(0, vr l0), (1, vi l1), (2, vi l2), (3, vi l3), (4, vi l4)] [vi u1, vr u0] h (M_called_61 N l0 l1 l2 l3 l4 u0 u1 h) := by
  unfold M_called_61
  refine j_vI1 d_M_called_61 (allQ.cons (VD.mk vt_12_191_12 (ct_M_finds N l D dA B u0 u1 h) (by decide) (by decide)) allQ.nil) (Nat.le_of_ble_eq_true rfl) (fun x2 h1 => ?_)
  refine j_if_eq (tgt := 69) d_M_called_64 (by decide) ?_ ?_
  · refine j_aload_n d_M_called_69 0 rfl rfl ?_
    refine j_getR d_M_called_70 fl_12_25.r (fun x3 => ?_)
    refine j_iconst (v := 3) d_M_called_73 (by decide) ?_
    refine j_iload_n d_M_called_74 1 rfl rfl ?_
    refine j_imul d_M_called_75 ?_
    refine j_iload_n d_M_called_76 2 rfl rfl ?_
    refine j_iadd d_M_called_77 ?_
    refine j_iload_n d_M_called_78 3 rfl rfl ?_
    refine j_iast d_M_called_79 (fun h4 => ?_)
    refine j_aload_n d_M_called_80 0 rfl rfl ?_
    refine j_getR d_M_called_81 fl_12_28.r (fun x5 => ?_)
    refine j_iconst (v := 3) d_M_called_84 (by decide) ?_
    refine j_iload_n d_M_called_85 1 rfl rfl ?_
    refine j_imul d_M_called_86 ?_
    refine j_iload_n d_M_called_87 2 rfl rfl ?_
    refine j_iadd d_M_called_88 ?_
    refine j_iload d_M_called_89 4 rfl ?_
    refine j_iast d_M_called_91 (fun h6 => ?_)
    refine j_aload_n d_M_called_92 0 rfl rfl ?_
    refine j_iconst (v := 1) d_M_called_93 (by decide) ?_
    refine j_putZ d_M_called_94 fl_12_121 (Or.inl rfl) (fun h7 => ?_)
    refine j_iconst (v := 1) d_M_called_97 (by decide) ?_
    exact j_retI d_M_called_98
  · refine j_iconst (v := 0) d_M_called_67 (by decide) ?_
    exact j_retI d_M_called_68
set_option maxRecDepth 20000 in
theorem jc_M_called_42 (N : Nat) (l0 : Option Nat) (l1 : Int32) (l2 : Int32) (l3 : Int32) (l4 : Int32) (u0 : Option Nat) (h : Hp) : J p l e R s m args below meth c prog_15_method_28_code 5 "RingingChamberModel" 1 21 (some .int) "called" D dA B n0 s0 (QM below args s D dA B n0 s0 vI) 42 [(0, vr l0), (1, vi l1), (2, vi l2), (3, vi l3), (4, vi l4)] [vr u0] h (M_called_42 N l0 l1 l2 l3 l4 u0 h) := by
  unfold M_called_42
  refine j_iconst (v := 2) d_M_called_42 (by decide) ?_
  refine j_goto (tgt := 61) d_M_called_43 (by decide) ?_
  exact jc_M_called_61 N l0 l1 l2 l3 l4 u0 2 h
set_option maxRecDepth 20000 in
theorem jc_M_called (N : Nat) (l0 : Option Nat) (l1 : Int32) (l2 : Int32) (l3 : Int32) (l4 : Int32) (h : Hp) : J p l e R s m args below meth c prog_15_method_28_code 5 "RingingChamberModel" 1 21 (some .int) "called" D dA B n0 s0 (QM below args s D dA B n0 s0 vI) 0 [(0, vr l0), (1, vi l1), (2, vi l2), (3, vi l3), (4, vi l4)] [] h (M_called N l0 l1 l2 l3 l4 h) := by
  unfold M_called
  refine j_aload_n d_M_called_0 0 rfl rfl ?_
  refine j_aload_n d_M_called_1 0 rfl rfl ?_
  refine j_iload_n d_M_called_2 1 rfl rfl ?_
  refine j_vI1 d_M_called_3 (allQ.cons (VD.mk vt_12_187_12 (ct_M_isMethod N l D dA B l0 l1 h) (by decide) (by decide)) allQ.nil) (Nat.le_of_ble_eq_true rfl) (fun x2 h1 => ?_)
  refine j_if_ne (tgt := 13) d_M_called_6 (by decide) ?_ ?_
  · refine j_iconst (v := 4) d_M_called_9 (by decide) ?_
    refine j_goto (tgt := 61) d_M_called_10 (by decide) ?_
    exact jc_M_called_61 N l0 l1 l2 l3 l4 l0 4 h1
  · refine j_aload_n d_M_called_13 0 rfl rfl ?_
    refine j_getR d_M_called_14 fl_12_16.r (fun x3 => ?_)
    refine j_iload_n d_M_called_17 1 rfl rfl ?_
    refine j_iald d_M_called_18 (fun x4 => ?_)
    refine j_iconst (v := 5) d_M_called_19 (by decide) ?_
    refine j_icmp_ne (tgt := 28) d_M_called_20 (by decide) ?_ ?_
    · refine j_bipush (v := 9) d_M_called_23 (by decide) ?_
      refine j_goto (tgt := 61) d_M_called_25 (by decide) ?_
      exact jc_M_called_61 N l0 l1 l2 l3 l4 l0 9 h1
    · refine j_iload_n d_M_called_28 2 rfl rfl ?_
      refine j_iconst (v := 1) d_M_called_29 (by decide) ?_
      refine j_icmp_lt (tgt := 42) d_M_called_30 (by decide) ?_ ?_
      · exact jc_M_called_42 N l0 l1 l2 l3 l4 l0 h1
      · refine j_iload_n d_M_called_33 2 rfl rfl ?_
        refine j_iconst (v := 2) d_M_called_34 (by decide) ?_
        refine j_icmp_gt (tgt := 42) d_M_called_35 (by decide) ?_ ?_
        · exact jc_M_called_42 N l0 l1 l2 l3 l4 l0 h1
        · refine j_iload_n d_M_called_38 3 rfl rfl ?_
          refine j_if_ge (tgt := 46) d_M_called_39 (by decide) ?_ ?_
          · refine j_aload_n d_M_called_46 0 rfl rfl ?_
            refine j_iload d_M_called_47 4 rfl ?_
            refine j_vI1 d_M_called_49 (allQ.cons (VD.mk vt_12_200_12 (ct_M_isChange N l D dA B l0 l4 h1) (by decide) (by decide)) allQ.nil) (Nat.le_of_ble_eq_true rfl) (fun x6 h5 => ?_)
            refine j_if_eq (tgt := 59) d_M_called_52 (by decide) ?_ ?_
            · refine j_bipush (v := 8) d_M_called_59 (by decide) ?_
              exact jc_M_called_61 N l0 l1 l2 l3 l4 l0 8 h5
            · refine j_iconst (v := 0) d_M_called_55 (by decide) ?_
              refine j_goto (tgt := 61) d_M_called_56 (by decide) ?_
              exact jc_M_called_61 N l0 l1 l2 l3 l4 l0 0 h5
          · exact jc_M_called_42 N l0 l1 l2 l3 l4 l0 h1
set_option maxRecDepth 20000 in
theorem ct_M_called (N : Nat) (l : Launch) (D : va_G) (dA : Nat → ClassId) (B : Nat) (l0 : Option Nat) (l1 : Int32) (l2 : Int32) (l3 : Int32) (l4 : Int32) (h : Hp) : Ct l (⟨"RingingChamberModel", "called", "(IIII)I"⟩ : MethodName) prog_15_method_28_code 5 (some .int) 1 21 D dA B [vr l0, vi l1, vi l2, vi l3, vi l4] h vI (M_called N l0 l1 l2 l3 l4 h) :=
  Ct.of2 (own := "RingingChamberModel") (nme := "called") (lv := [(0, vr l0), (1, vi l1), (2, vi l2), (3, vi l3), (4, vi l4)]) rfl rfl (by decide) (Nat.le_of_ble_eq_true rfl) rfl (fun p e R s m args below meth c => jc_M_called N l0 l1 l2 l3 l4 h)
theorem d_M_part_0 : decode prog_15_method_29_code 0 = .ok (.aload_n 0, 1) := by decide +kernel
theorem d_M_part_1 : decode prog_15_method_29_code 1 = .ok (.aload_n 0, 1) := by decide +kernel
theorem d_M_part_2 : decode prog_15_method_29_code 2 = .ok (.iload_n 1, 1) := by decide +kernel
theorem d_M_part_3 : decode prog_15_method_29_code 3 = .ok (.invokevirtual 187, 3) := by decide +kernel
theorem d_M_part_6 : decode prog_15_method_29_code 6 = .ok (.ifCond .eq 11, 3) := by decide +kernel
theorem d_M_part_9 : decode prog_15_method_29_code 9 = .ok (.aload_n 0, 1) := by decide +kernel
theorem d_M_part_10 : decode prog_15_method_29_code 10 = .ok (.iload_n 2, 1) := by decide +kernel
theorem d_M_part_11 : decode prog_15_method_29_code 11 = .ok (.invokevirtual 187, 3) := by decide +kernel
theorem d_M_part_14 : decode prog_15_method_29_code 14 = .ok (.ifCond .ne 7, 3) := by decide +kernel
theorem d_M_part_17 : decode prog_15_method_29_code 17 = .ok (.iconst 4, 1) := by decide +kernel
theorem d_M_part_18 : decode prog_15_method_29_code 18 = .ok (.goto 48, 3) := by decide +kernel
theorem d_M_part_21 : decode prog_15_method_29_code 21 = .ok (.aload_n 0, 1) := by decide +kernel
theorem d_M_part_22 : decode prog_15_method_29_code 22 = .ok (.getfield 16, 3) := by decide +kernel
theorem d_M_part_25 : decode prog_15_method_29_code 25 = .ok (.iload_n 1, 1) := by decide +kernel
theorem d_M_part_26 : decode prog_15_method_29_code 26 = .ok (.iaload, 1) := by decide +kernel
theorem d_M_part_27 : decode prog_15_method_29_code 27 = .ok (.iconst 5, 1) := by decide +kernel
theorem d_M_part_28 : decode prog_15_method_29_code 28 = .ok (.if_icmp .ne 13, 3) := by decide +kernel
theorem d_M_part_31 : decode prog_15_method_29_code 31 = .ok (.aload_n 0, 1) := by decide +kernel
theorem d_M_part_32 : decode prog_15_method_29_code 32 = .ok (.getfield 16, 3) := by decide +kernel
theorem d_M_part_35 : decode prog_15_method_29_code 35 = .ok (.iload_n 2, 1) := by decide +kernel
theorem d_M_part_36 : decode prog_15_method_29_code 36 = .ok (.iaload, 1) := by decide +kernel
theorem d_M_part_37 : decode prog_15_method_29_code 37 = .ok (.iconst 5, 1) := by decide +kernel
theorem d_M_part_38 : decode prog_15_method_29_code 38 = .ok (.if_icmp .ne 7, 3) := by decide +kernel
theorem d_M_part_41 : decode prog_15_method_29_code 41 = .ok (.iconst 3, 1) := by decide +kernel
theorem d_M_part_42 : decode prog_15_method_29_code 42 = .ok (.goto 24, 3) := by decide +kernel
theorem d_M_part_45 : decode prog_15_method_29_code 45 = .ok (.iload_n 2, 1) := by decide +kernel
theorem d_M_part_46 : decode prog_15_method_29_code 46 = .ok (.iload_n 1, 1) := by decide +kernel
theorem d_M_part_47 : decode prog_15_method_29_code 47 = .ok (.if_icmp .ge 14, 3) := by decide +kernel
theorem d_M_part_50 : decode prog_15_method_29_code 50 = .ok (.aload_n 0, 1) := by decide +kernel
theorem d_M_part_51 : decode prog_15_method_29_code 51 = .ok (.getfield 31, 3) := by decide +kernel
theorem d_M_part_54 : decode prog_15_method_29_code 54 = .ok (.iload_n 1, 1) := by decide +kernel
theorem d_M_part_55 : decode prog_15_method_29_code 55 = .ok (.iaload, 1) := by decide +kernel
theorem d_M_part_56 : decode prog_15_method_29_code 56 = .ok (.bipush 6, 2) := by decide +kernel
theorem d_M_part_58 : decode prog_15_method_29_code 58 = .ok (.if_icmp .ne 7, 3) := by decide +kernel
theorem d_M_part_61 : decode prog_15_method_29_code 61 = .ok (.iconst 2, 1) := by decide +kernel
theorem d_M_part_62 : decode prog_15_method_29_code 62 = .ok (.goto 4, 3) := by decide +kernel
theorem d_M_part_65 : decode prog_15_method_29_code 65 = .ok (.iconst 0, 1) := by decide +kernel
theorem d_M_part_66 : decode prog_15_method_29_code 66 = .ok (.invokevirtual 191, 3) := by decide +kernel
theorem d_M_part_69 : decode prog_15_method_29_code 69 = .ok (.ifCond .eq 5, 3) := by decide +kernel
theorem d_M_part_72 : decode prog_15_method_29_code 72 = .ok (.iconst 0, 1) := by decide +kernel
theorem d_M_part_73 : decode prog_15_method_29_code 73 = .ok (.ireturn, 1) := by decide +kernel
theorem d_M_part_74 : decode prog_15_method_29_code 74 = .ok (.aload_n 0, 1) := by decide +kernel
theorem d_M_part_75 : decode prog_15_method_29_code 75 = .ok (.getfield 34, 3) := by decide +kernel
theorem d_M_part_78 : decode prog_15_method_29_code 78 = .ok (.bipush 6, 2) := by decide +kernel
theorem d_M_part_80 : decode prog_15_method_29_code 80 = .ok (.iload_n 1, 1) := by decide +kernel
theorem d_M_part_81 : decode prog_15_method_29_code 81 = .ok (.imul, 1) := by decide +kernel
theorem d_M_part_82 : decode prog_15_method_29_code 82 = .ok (.aload_n 0, 1) := by decide +kernel
theorem d_M_part_83 : decode prog_15_method_29_code 83 = .ok (.getfield 31, 3) := by decide +kernel
theorem d_M_part_86 : decode prog_15_method_29_code 86 = .ok (.iload_n 1, 1) := by decide +kernel
theorem d_M_part_87 : decode prog_15_method_29_code 87 = .ok (.iaload, 1) := by decide +kernel
theorem d_M_part_88 : decode prog_15_method_29_code 88 = .ok (.iadd, 1) := by decide +kernel
theorem d_M_part_89 : decode prog_15_method_29_code 89 = .ok (.iload_n 2, 1) := by decide +kernel
theorem d_M_part_90 : decode prog_15_method_29_code 90 = .ok (.iastore, 1) := by decide +kernel
theorem d_M_part_91 : decode prog_15_method_29_code 91 = .ok (.aload_n 0, 1) := by decide +kernel
theorem d_M_part_92 : decode prog_15_method_29_code 92 = .ok (.getfield 31, 3) := by decide +kernel
theorem d_M_part_95 : decode prog_15_method_29_code 95 = .ok (.iload_n 1, 1) := by decide +kernel
theorem d_M_part_96 : decode prog_15_method_29_code 96 = .ok (.dup2, 1) := by decide +kernel
theorem d_M_part_97 : decode prog_15_method_29_code 97 = .ok (.iaload, 1) := by decide +kernel
theorem d_M_part_98 : decode prog_15_method_29_code 98 = .ok (.iconst 1, 1) := by decide +kernel
theorem d_M_part_99 : decode prog_15_method_29_code 99 = .ok (.iadd, 1) := by decide +kernel
theorem d_M_part_100 : decode prog_15_method_29_code 100 = .ok (.iastore, 1) := by decide +kernel
theorem d_M_part_101 : decode prog_15_method_29_code 101 = .ok (.aload_n 0, 1) := by decide +kernel
theorem d_M_part_102 : decode prog_15_method_29_code 102 = .ok (.iconst 1, 1) := by decide +kernel
theorem d_M_part_103 : decode prog_15_method_29_code 103 = .ok (.putfield 121, 3) := by decide +kernel
theorem d_M_part_106 : decode prog_15_method_29_code 106 = .ok (.aload_n 0, 1) := by decide +kernel
theorem d_M_part_107 : decode prog_15_method_29_code 107 = .ok (.getfield 31, 3) := by decide +kernel
theorem d_M_part_110 : decode prog_15_method_29_code 110 = .ok (.iload_n 1, 1) := by decide +kernel
theorem d_M_part_111 : decode prog_15_method_29_code 111 = .ok (.iaload, 1) := by decide +kernel
theorem d_M_part_112 : decode prog_15_method_29_code 112 = .ok (.ireturn, 1) := by decide +kernel
set_option maxRecDepth 20000 in
theorem jc_M_part_66 (N : Nat) (l0 : Option Nat) (l1 : Int32) (l2 : Int32) (u0 : Option Nat) (u1 : Int32) (h : Hp) : J p l e R s m args below meth c prog_15_method_29_code 3 "RingingChamberModel" 1 21 (some .int) "part" D dA B n0 s0 (QM below args s D dA B n0 s0 vI) 66 [(0, vr l0), (1, vi l1), (2, vi l2)] [vi u1, vr u0] h (M_part_66 N l0 l1 l2 u0 u1 h) := by
  unfold M_part_66
  refine j_vI1 d_M_part_66 (allQ.cons (VD.mk vt_12_191_12 (ct_M_finds N l D dA B u0 u1 h) (by decide) (by decide)) allQ.nil) (Nat.le_of_ble_eq_true rfl) (fun x2 h1 => ?_)
  refine j_if_eq (tgt := 74) d_M_part_69 (by decide) ?_ ?_
  · refine j_aload_n d_M_part_74 0 rfl rfl ?_
    refine j_getR d_M_part_75 fl_12_34.r (fun x3 => ?_)
    refine j_bipush (v := 6) d_M_part_78 (by decide) ?_
    refine j_iload_n d_M_part_80 1 rfl rfl ?_
    refine j_imul d_M_part_81 ?_
    refine j_aload_n d_M_part_82 0 rfl rfl ?_
    refine j_getR d_M_part_83 fl_12_31.r (fun x4 => ?_)
    refine j_iload_n d_M_part_86 1 rfl rfl ?_
    refine j_iald d_M_part_87 (fun x5 => ?_)
    refine j_iadd d_M_part_88 ?_
    refine j_iload_n d_M_part_89 2 rfl rfl ?_
    refine j_iast d_M_part_90 (fun h6 => ?_)
    refine j_aload_n d_M_part_91 0 rfl rfl ?_
    refine j_getR d_M_part_92 fl_12_31.r (fun x7 => ?_)
    refine j_iload_n d_M_part_95 1 rfl rfl ?_
    refine j_dup2_11 d_M_part_96 rfl rfl ?_
    refine j_iald d_M_part_97 (fun x8 => ?_)
    refine j_iconst (v := 1) d_M_part_98 (by decide) ?_
    refine j_iadd d_M_part_99 ?_
    refine j_iast d_M_part_100 (fun h9 => ?_)
    refine j_aload_n d_M_part_101 0 rfl rfl ?_
    refine j_iconst (v := 1) d_M_part_102 (by decide) ?_
    refine j_putZ d_M_part_103 fl_12_121 (Or.inl rfl) (fun h10 => ?_)
    refine j_aload_n d_M_part_106 0 rfl rfl ?_
    refine j_getR d_M_part_107 fl_12_31.r (fun x11 => ?_)
    refine j_iload_n d_M_part_110 1 rfl rfl ?_
    refine j_iald d_M_part_111 (fun x12 => ?_)
    exact j_retI d_M_part_112
  · refine j_iconst (v := 0) d_M_part_72 (by decide) ?_
    exact j_retI d_M_part_73
set_option maxRecDepth 20000 in
theorem jc_M_part_17 (N : Nat) (l0 : Option Nat) (l1 : Int32) (l2 : Int32) (u0 : Option Nat) (h : Hp) : J p l e R s m args below meth c prog_15_method_29_code 3 "RingingChamberModel" 1 21 (some .int) "part" D dA B n0 s0 (QM below args s D dA B n0 s0 vI) 17 [(0, vr l0), (1, vi l1), (2, vi l2)] [vr u0] h (M_part_17 N l0 l1 l2 u0 h) := by
  unfold M_part_17
  refine j_iconst (v := 4) d_M_part_17 (by decide) ?_
  refine j_goto (tgt := 66) d_M_part_18 (by decide) ?_
  exact jc_M_part_66 N l0 l1 l2 u0 4 h
set_option maxRecDepth 20000 in
theorem jc_M_part_41 (N : Nat) (l0 : Option Nat) (l1 : Int32) (l2 : Int32) (u0 : Option Nat) (h : Hp) : J p l e R s m args below meth c prog_15_method_29_code 3 "RingingChamberModel" 1 21 (some .int) "part" D dA B n0 s0 (QM below args s D dA B n0 s0 vI) 41 [(0, vr l0), (1, vi l1), (2, vi l2)] [vr u0] h (M_part_41 N l0 l1 l2 u0 h) := by
  unfold M_part_41
  refine j_iconst (v := 3) d_M_part_41 (by decide) ?_
  refine j_goto (tgt := 66) d_M_part_42 (by decide) ?_
  exact jc_M_part_66 N l0 l1 l2 u0 3 h
set_option maxRecDepth 20000 in
theorem jc_M_part_61 (N : Nat) (l0 : Option Nat) (l1 : Int32) (l2 : Int32) (u0 : Option Nat) (h : Hp) : J p l e R s m args below meth c prog_15_method_29_code 3 "RingingChamberModel" 1 21 (some .int) "part" D dA B n0 s0 (QM below args s D dA B n0 s0 vI) 61 [(0, vr l0), (1, vi l1), (2, vi l2)] [vr u0] h (M_part_61 N l0 l1 l2 u0 h) := by
  unfold M_part_61
  refine j_iconst (v := 2) d_M_part_61 (by decide) ?_
  refine j_goto (tgt := 66) d_M_part_62 (by decide) ?_
  exact jc_M_part_66 N l0 l1 l2 u0 2 h
set_option maxRecDepth 20000 in
theorem jc_M_part (N : Nat) (l0 : Option Nat) (l1 : Int32) (l2 : Int32) (h : Hp) : J p l e R s m args below meth c prog_15_method_29_code 3 "RingingChamberModel" 1 21 (some .int) "part" D dA B n0 s0 (QM below args s D dA B n0 s0 vI) 0 [(0, vr l0), (1, vi l1), (2, vi l2)] [] h (M_part N l0 l1 l2 h) := by
  unfold M_part
  refine j_aload_n d_M_part_0 0 rfl rfl ?_
  refine j_aload_n d_M_part_1 0 rfl rfl ?_
  refine j_iload_n d_M_part_2 1 rfl rfl ?_
  refine j_vI1 d_M_part_3 (allQ.cons (VD.mk vt_12_187_12 (ct_M_isMethod N l D dA B l0 l1 h) (by decide) (by decide)) allQ.nil) (Nat.le_of_ble_eq_true rfl) (fun x2 h1 => ?_)
  refine j_if_eq (tgt := 17) d_M_part_6 (by decide) ?_ ?_
  · exact jc_M_part_17 N l0 l1 l2 l0 h1
  · refine j_aload_n d_M_part_9 0 rfl rfl ?_
    refine j_iload_n d_M_part_10 2 rfl rfl ?_
    refine j_vI1 d_M_part_11 (allQ.cons (VD.mk vt_12_187_12 (ct_M_isMethod N l D dA B l0 l2 h1) (by decide) (by decide)) allQ.nil) (Nat.le_of_ble_eq_true rfl) (fun x4 h3 => ?_)
    refine j_if_ne (tgt := 21) d_M_part_14 (by decide) ?_ ?_
    · exact jc_M_part_17 N l0 l1 l2 l0 h3
    · refine j_aload_n d_M_part_21 0 rfl rfl ?_
      refine j_getR d_M_part_22 fl_12_16.r (fun x5 => ?_)
      refine j_iload_n d_M_part_25 1 rfl rfl ?_
      refine j_iald d_M_part_26 (fun x6 => ?_)
      refine j_iconst (v := 5) d_M_part_27 (by decide) ?_
      refine j_icmp_ne (tgt := 41) d_M_part_28 (by decide) ?_ ?_
      · refine j_aload_n d_M_part_31 0 rfl rfl ?_
        refine j_getR d_M_part_32 fl_12_16.r (fun x7 => ?_)
        refine j_iload_n d_M_part_35 2 rfl rfl ?_
        refine j_iald d_M_part_36 (fun x8 => ?_)
        refine j_iconst (v := 5) d_M_part_37 (by decide) ?_
        refine j_icmp_ne (tgt := 45) d_M_part_38 (by decide) ?_ ?_
        · exact jc_M_part_41 N l0 l1 l2 l0 h3
        · refine j_iload_n d_M_part_45 2 rfl rfl ?_
          refine j_iload_n d_M_part_46 1 rfl rfl ?_
          refine j_icmp_ge (tgt := 61) d_M_part_47 (by decide) ?_ ?_
          · exact jc_M_part_61 N l0 l1 l2 l0 h3
          · refine j_aload_n d_M_part_50 0 rfl rfl ?_
            refine j_getR d_M_part_51 fl_12_31.r (fun x9 => ?_)
            refine j_iload_n d_M_part_54 1 rfl rfl ?_
            refine j_iald d_M_part_55 (fun x10 => ?_)
            refine j_bipush (v := 6) d_M_part_56 (by decide) ?_
            refine j_icmp_ne (tgt := 65) d_M_part_58 (by decide) ?_ ?_
            · exact jc_M_part_61 N l0 l1 l2 l0 h3
            · refine j_iconst (v := 0) d_M_part_65 (by decide) ?_
              exact jc_M_part_66 N l0 l1 l2 l0 0 h3
      · exact jc_M_part_41 N l0 l1 l2 l0 h3
set_option maxRecDepth 20000 in
theorem ct_M_part (N : Nat) (l : Launch) (D : va_G) (dA : Nat → ClassId) (B : Nat) (l0 : Option Nat) (l1 : Int32) (l2 : Int32) (h : Hp) : Ct l (⟨"RingingChamberModel", "part", "(II)I"⟩ : MethodName) prog_15_method_29_code 3 (some .int) 1 21 D dA B [vr l0, vi l1, vi l2] h vI (M_part N l0 l1 l2 h) :=
  Ct.of2 (own := "RingingChamberModel") (nme := "part") (lv := [(0, vr l0), (1, vi l1), (2, vi l2)]) rfl rfl (by decide) (Nat.le_of_ble_eq_true rfl) rfl (fun p e R s m args below meth c => jc_M_part N l0 l1 l2 h)
theorem d_M_count_0 : decode prog_15_method_30_code 0 = .ok (.aload_n 0, 1) := by decide +kernel
theorem d_M_count_1 : decode prog_15_method_30_code 1 = .ok (.getfield 40, 3) := by decide +kernel
theorem d_M_count_4 : decode prog_15_method_30_code 4 = .ok (.ifCond .eq 17, 3) := by decide +kernel
theorem d_M_count_7 : decode prog_15_method_30_code 7 = .ok (.aload_n 0, 1) := by decide +kernel
theorem d_M_count_8 : decode prog_15_method_30_code 8 = .ok (.getfield 13, 3) := by decide +kernel
theorem d_M_count_11 : decode prog_15_method_30_code 11 = .ok (.iconst 3, 1) := by decide +kernel
theorem d_M_count_12 : decode prog_15_method_30_code 12 = .ok (.iload_n 1, 1) := by decide +kernel
theorem d_M_count_13 : decode prog_15_method_30_code 13 = .ok (.imul, 1) := by decide +kernel
theorem d_M_count_14 : decode prog_15_method_30_code 14 = .ok (.iload_n 2, 1) := by decide +kernel
theorem d_M_count_15 : decode prog_15_method_30_code 15 = .ok (.iadd, 1) := by decide +kernel
theorem d_M_count_16 : decode prog_15_method_30_code 16 = .ok (.dup2, 1) := by decide +kernel
theorem d_M_count_17 : decode prog_15_method_30_code 17 = .ok (.iaload, 1) := by decide +kernel
theorem d_M_count_18 : decode prog_15_method_30_code 18 = .ok (.iconst 1, 1) := by decide +kernel
theorem d_M_count_19 : decode prog_15_method_30_code 19 = .ok (.iadd, 1) := by decide +kernel
theorem d_M_count_20 : decode prog_15_method_30_code 20 = .ok (.iastore, 1) := by decide +kernel
theorem d_M_count_21 : decode prog_15_method_30_code 21 = .ok (.return_, 1) := by decide +kernel
set_option maxRecDepth 20000 in
theorem jc_M_count (N : Nat) (l0 : Option Nat) (l1 : Int32) (l2 : Int32) (h : Hp) : J p l e R s m args below meth c prog_15_method_30_code 3 "RingingChamberModel" 0 0 none "count" D dA B n0 s0 (QM below args s D dA B n0 s0 vU) 0 [(0, vr l0), (1, vi l1), (2, vi l2)] [] h (M_count N l0 l1 l2 h) := by
  unfold M_count
  refine j_aload_n d_M_count_0 0 rfl rfl ?_
  refine j_getI d_M_count_1 fl_12_40.r (fun x1 => ?_)
  refine j_if_eq (tgt := 21) d_M_count_4 (by decide) ?_ ?_
  · exact j_retU d_M_count_21
  · refine j_aload_n d_M_count_7 0 rfl rfl ?_
    refine j_getR d_M_count_8 fl_12_13.r (fun x2 => ?_)
    refine j_iconst (v := 3) d_M_count_11 (by decide) ?_
    refine j_iload_n d_M_count_12 1 rfl rfl ?_
    refine j_imul d_M_count_13 ?_
    refine j_iload_n d_M_count_14 2 rfl rfl ?_
    refine j_iadd d_M_count_15 ?_
    refine j_nmi (fun x3 => ?_)
    refine j_dup2_11 d_M_count_16 rfl rfl ?_
    refine j_iald d_M_count_17 (fun x4 => ?_)
    refine j_iconst (v := 1) d_M_count_18 (by decide) ?_
    refine j_iadd d_M_count_19 ?_
    refine j_iast d_M_count_20 (fun h5 => ?_)
    exact j_retU d_M_count_21
set_option maxRecDepth 20000 in
theorem ct_M_count (N : Nat) (l : Launch) (D : va_G) (dA : Nat → ClassId) (B : Nat) (l0 : Option Nat) (l1 : Int32) (l2 : Int32) (h : Hp) : Ct l (⟨"RingingChamberModel", "count", "(II)V"⟩ : MethodName) prog_15_method_30_code 3 none 0 0 D dA B [vr l0, vi l1, vi l2] h vU (M_count N l0 l1 l2 h) :=
  Ct.of2 (own := "RingingChamberModel") (nme := "count") (lv := [(0, vr l0), (1, vi l1), (2, vi l2)]) rfl rfl (by decide) (Nat.le_of_ble_eq_true rfl) rfl (fun p e R s m args below meth c => jc_M_count N l0 l1 l2 h)
theorem d_M_isAmiss_0 : decode prog_15_method_31_code 0 = .ok (.aload_n 0, 1) := by decide +kernel
theorem d_M_isAmiss_1 : decode prog_15_method_31_code 1 = .ok (.iload_n 1, 1) := by decide +kernel
theorem d_M_isAmiss_2 : decode prog_15_method_31_code 2 = .ok (.putfield 203, 3) := by decide +kernel
theorem d_M_isAmiss_5 : decode prog_15_method_31_code 5 = .ok (.iconst 0, 1) := by decide +kernel
theorem d_M_isAmiss_6 : decode prog_15_method_31_code 6 = .ok (.ireturn, 1) := by decide +kernel
set_option maxRecDepth 20000 in
theorem jc_M_isAmiss (N : Nat) (l0 : Option Nat) (l1 : Int32) (h : Hp) : J p l e R s m args below meth c prog_15_method_31_code 2 "RingingChamberModel" 0 0 (some .boolean) "isAmiss" D dA B n0 s0 (QM below args s D dA B n0 s0 vI) 0 [(0, vr l0), (1, vi l1)] [] h (M_isAmiss N l0 l1 h) := by
  unfold M_isAmiss
  refine j_aload_n d_M_isAmiss_0 0 rfl rfl ?_
  refine j_iload_n d_M_isAmiss_1 1 rfl rfl ?_
  refine j_putI d_M_isAmiss_2 fl_12_203 (Or.inl rfl) (fun h1 => ?_)
  refine j_iconst (v := 0) d_M_isAmiss_5 (by decide) ?_
  exact j_retZ d_M_isAmiss_6
set_option maxRecDepth 20000 in
theorem ct_M_isAmiss (N : Nat) (l : Launch) (D : va_G) (dA : Nat → ClassId) (B : Nat) (l0 : Option Nat) (l1 : Int32) (h : Hp) : Ct l (⟨"RingingChamberModel", "isAmiss", "(I)Z"⟩ : MethodName) prog_15_method_31_code 2 (some .boolean) 0 0 D dA B [vr l0, vi l1] h vI (M_isAmiss N l0 l1 h) :=
  Ct.of2 (own := "RingingChamberModel") (nme := "isAmiss") (lv := [(0, vr l0), (1, vi l1)]) rfl rfl (by decide) (Nat.le_of_ble_eq_true rfl) rfl (fun p e R s m args below meth c => jc_M_isAmiss N l0 l1 h)
theorem d_M_partOf_0 : decode prog_15_method_32_code 0 = .ok (.aload_n 0, 1) := by decide +kernel
theorem d_M_partOf_1 : decode prog_15_method_32_code 1 = .ok (.getfield 34, 3) := by decide +kernel
theorem d_M_partOf_4 : decode prog_15_method_32_code 4 = .ok (.bipush 6, 2) := by decide +kernel
theorem d_M_partOf_6 : decode prog_15_method_32_code 6 = .ok (.iload_n 1, 1) := by decide +kernel
theorem d_M_partOf_7 : decode prog_15_method_32_code 7 = .ok (.imul, 1) := by decide +kernel
theorem d_M_partOf_8 : decode prog_15_method_32_code 8 = .ok (.iload_n 2, 1) := by decide +kernel
theorem d_M_partOf_9 : decode prog_15_method_32_code 9 = .ok (.aload_n 0, 1) := by decide +kernel
theorem d_M_partOf_10 : decode prog_15_method_32_code 10 = .ok (.getfield 31, 3) := by decide +kernel
theorem d_M_partOf_13 : decode prog_15_method_32_code 13 = .ok (.iload_n 1, 1) := by decide +kernel
theorem d_M_partOf_14 : decode prog_15_method_32_code 14 = .ok (.iaload, 1) := by decide +kernel
theorem d_M_partOf_15 : decode prog_15_method_32_code 15 = .ok (.irem, 1) := by decide +kernel
theorem d_M_partOf_16 : decode prog_15_method_32_code 16 = .ok (.iadd, 1) := by decide +kernel
theorem d_M_partOf_17 : decode prog_15_method_32_code 17 = .ok (.iaload, 1) := by decide +kernel
theorem d_M_partOf_18 : decode prog_15_method_32_code 18 = .ok (.ireturn, 1) := by decide +kernel
set_option maxRecDepth 20000 in
theorem jc_M_partOf (N : Nat) (l0 : Option Nat) (l1 : Int32) (l2 : Int32) (h : Hp) : J p l e R s m args below meth c prog_15_method_32_code 3 "RingingChamberModel" 0 0 (some .int) "partOf" D dA B n0 s0 (QM below args s D dA B n0 s0 vI) 0 [(0, vr l0), (1, vi l1), (2, vi l2)] [] h (M_partOf N l0 l1 l2 h) := by
  unfold M_partOf
  refine j_aload_n d_M_partOf_0 0 rfl rfl ?_
  refine j_getR d_M_partOf_1 fl_12_34.r (fun x1 => ?_)
  refine j_bipush (v := 6) d_M_partOf_4 (by decide) ?_
  refine j_iload_n d_M_partOf_6 1 rfl rfl ?_
  refine j_imul d_M_partOf_7 ?_
  refine j_iload_n d_M_partOf_8 2 rfl rfl ?_
  refine j_aload_n d_M_partOf_9 0 rfl rfl ?_
  refine j_getR d_M_partOf_10 fl_12_31.r (fun x2 => ?_)
  refine j_iload_n d_M_partOf_13 1 rfl rfl ?_
  refine j_iald d_M_partOf_14 (fun x3 => ?_)
  refine j_irem d_M_partOf_15 ?_
  refine j_iadd d_M_partOf_16 ?_
  refine j_iald d_M_partOf_17 (fun x4 => ?_)
  exact j_retI d_M_partOf_18
set_option maxRecDepth 20000 in
theorem ct_M_partOf (N : Nat) (l : Launch) (D : va_G) (dA : Nat → ClassId) (B : Nat) (l0 : Option Nat) (l1 : Int32) (l2 : Int32) (h : Hp) : Ct l (⟨"RingingChamberModel", "partOf", "(II)I"⟩ : MethodName) prog_15_method_32_code 3 (some .int) 0 0 D dA B [vr l0, vi l1, vi l2] h vI (M_partOf N l0 l1 l2 h) :=
  Ct.of2 (own := "RingingChamberModel") (nme := "partOf") (lv := [(0, vr l0), (1, vi l1), (2, vi l2)]) rfl rfl (by decide) (Nat.le_of_ble_eq_true rfl) rfl (fun p e R s m args below meth c => jc_M_partOf N l0 l1 l2 h)
theorem d_M_leadOf_0 : decode prog_15_method_33_code 0 = .ok (.iload_n 1, 1) := by decide +kernel
theorem d_M_leadOf_1 : decode prog_15_method_33_code 1 = .ok (.istore_n 3, 1) := by decide +kernel
theorem d_M_leadOf_2 : decode prog_15_method_33_code 2 = .ok (.aload_n 0, 1) := by decide +kernel
theorem d_M_leadOf_3 : decode prog_15_method_33_code 3 = .ok (.getfield 16, 3) := by decide +kernel
theorem d_M_leadOf_6 : decode prog_15_method_33_code 6 = .ok (.iload_n 1, 1) := by decide +kernel
theorem d_M_leadOf_7 : decode prog_15_method_33_code 7 = .ok (.iaload, 1) := by decide +kernel
theorem d_M_leadOf_8 : decode prog_15_method_33_code 8 = .ok (.iconst 5, 1) := by decide +kernel
theorem d_M_leadOf_9 : decode prog_15_method_33_code 9 = .ok (.if_icmp .ne 32, 3) := by decide +kernel
theorem d_M_leadOf_12 : decode prog_15_method_33_code 12 = .ok (.aload_n 0, 1) := by decide +kernel
theorem d_M_leadOf_13 : decode prog_15_method_33_code 13 = .ok (.iconst 5, 1) := by decide +kernel
theorem d_M_leadOf_14 : decode prog_15_method_33_code 14 = .ok (.iconst 0, 1) := by decide +kernel
theorem d_M_leadOf_15 : decode prog_15_method_33_code 15 = .ok (.invokevirtual 206, 3) := by decide +kernel
theorem d_M_leadOf_18 : decode prog_15_method_33_code 18 = .ok (.aload_n 0, 1) := by decide +kernel
theorem d_M_leadOf_19 : decode prog_15_method_33_code 19 = .ok (.getfield 31, 3) := by decide +kernel
theorem d_M_leadOf_22 : decode prog_15_method_33_code 22 = .ok (.iload_n 1, 1) := by decide +kernel
theorem d_M_leadOf_23 : decode prog_15_method_33_code 23 = .ok (.iaload, 1) := by decide +kernel
theorem d_M_leadOf_24 : decode prog_15_method_33_code 24 = .ok (.ifCond .ne 10, 3) := by decide +kernel
theorem d_M_leadOf_27 : decode prog_15_method_33_code 27 = .ok (.aload_n 0, 1) := by decide +kernel
theorem d_M_leadOf_28 : decode prog_15_method_33_code 28 = .ok (.bipush 7, 2) := by decide +kernel
theorem d_M_leadOf_30 : decode prog_15_method_33_code 30 = .ok (.invokevirtual 210, 3) := by decide +kernel
theorem d_M_leadOf_33 : decode prog_15_method_33_code 33 = .ok (.ireturn, 1) := by decide +kernel
theorem d_M_leadOf_34 : decode prog_15_method_33_code 34 = .ok (.aload_n 0, 1) := by decide +kernel
theorem d_M_leadOf_35 : decode prog_15_method_33_code 35 = .ok (.iload_n 1, 1) := by decide +kernel
theorem d_M_leadOf_36 : decode prog_15_method_33_code 36 = .ok (.iload_n 2, 1) := by decide +kernel
theorem d_M_leadOf_37 : decode prog_15_method_33_code 37 = .ok (.invokevirtual 213, 3) := by decide +kernel
theorem d_M_leadOf_40 : decode prog_15_method_33_code 40 = .ok (.istore_n 3, 1) := by decide +kernel
theorem d_M_leadOf_41 : decode prog_15_method_33_code 41 = .ok (.aload_n 0, 1) := by decide +kernel
theorem d_M_leadOf_42 : decode prog_15_method_33_code 42 = .ok (.aload_n 0, 1) := by decide +kernel
theorem d_M_leadOf_43 : decode prog_15_method_33_code 43 = .ok (.getfield 16, 3) := by decide +kernel
theorem d_M_leadOf_46 : decode prog_15_method_33_code 46 = .ok (.iload_n 3, 1) := by decide +kernel
theorem d_M_leadOf_47 : decode prog_15_method_33_code 47 = .ok (.iaload, 1) := by decide +kernel
theorem d_M_leadOf_48 : decode prog_15_method_33_code 48 = .ok (.iconst 4, 1) := by decide +kernel
theorem d_M_leadOf_49 : decode prog_15_method_33_code 49 = .ok (.if_icmp .ne 7, 3) := by decide +kernel
theorem d_M_leadOf_52 : decode prog_15_method_33_code 52 = .ok (.iconst 4, 1) := by decide +kernel
theorem d_M_leadOf_53 : decode prog_15_method_33_code 53 = .ok (.goto 4, 3) := by decide +kernel
theorem d_M_leadOf_56 : decode prog_15_method_33_code 56 = .ok (.iconst 0, 1) := by decide +kernel
theorem d_M_leadOf_57 : decode prog_15_method_33_code 57 = .ok (.iconst 0, 1) := by decide +kernel
theorem d_M_leadOf_58 : decode prog_15_method_33_code 58 = .ok (.invokevirtual 206, 3) := by decide +kernel
theorem d_M_leadOf_61 : decode prog_15_method_33_code 61 = .ok (.aload_n 0, 1) := by decide +kernel
theorem d_M_leadOf_62 : decode prog_15_method_33_code 62 = .ok (.getfield 19, 3) := by decide +kernel
theorem d_M_leadOf_65 : decode prog_15_method_33_code 65 = .ok (.iload_n 3, 1) := by decide +kernel
theorem d_M_leadOf_66 : decode prog_15_method_33_code 66 = .ok (.iaload, 1) := by decide +kernel
theorem d_M_leadOf_67 : decode prog_15_method_33_code 67 = .ok (.ifCond .ge 9, 3) := by decide +kernel
theorem d_M_leadOf_70 : decode prog_15_method_33_code 70 = .ok (.aload_n 0, 1) := by decide +kernel
theorem d_M_leadOf_71 : decode prog_15_method_33_code 71 = .ok (.iconst 1, 1) := by decide +kernel
theorem d_M_leadOf_72 : decode prog_15_method_33_code 72 = .ok (.invokevirtual 210, 3) := by decide +kernel
theorem d_M_leadOf_75 : decode prog_15_method_33_code 75 = .ok (.ireturn, 1) := by decide +kernel
theorem d_M_leadOf_76 : decode prog_15_method_33_code 76 = .ok (.aload_n 0, 1) := by decide +kernel
theorem d_M_leadOf_77 : decode prog_15_method_33_code 77 = .ok (.aload_n 0, 1) := by decide +kernel
theorem d_M_leadOf_78 : decode prog_15_method_33_code 78 = .ok (.getfield 19, 3) := by decide +kernel
theorem d_M_leadOf_81 : decode prog_15_method_33_code 81 = .ok (.iload_n 3, 1) := by decide +kernel
theorem d_M_leadOf_82 : decode prog_15_method_33_code 82 = .ok (.iaload, 1) := by decide +kernel
theorem d_M_leadOf_83 : decode prog_15_method_33_code 83 = .ok (.putfield 217, 3) := by decide +kernel
theorem d_M_leadOf_86 : decode prog_15_method_33_code 86 = .ok (.iconst 0, 1) := by decide +kernel
theorem d_M_leadOf_87 : decode prog_15_method_33_code 87 = .ok (.istore 4, 2) := by decide +kernel
theorem d_M_leadOf_89 : decode prog_15_method_33_code 89 = .ok (.iload 4, 2) := by decide +kernel
theorem d_M_leadOf_91 : decode prog_15_method_33_code 91 = .ok (.aload_n 0, 1) := by decide +kernel
theorem d_M_leadOf_92 : decode prog_15_method_33_code 92 = .ok (.getfield 217, 3) := by decide +kernel
theorem d_M_leadOf_95 : decode prog_15_method_33_code 95 = .ok (.if_icmp .ge 28, 3) := by decide +kernel
theorem d_M_leadOf_98 : decode prog_15_method_33_code 98 = .ok (.aload_n 0, 1) := by decide +kernel
theorem d_M_leadOf_99 : decode prog_15_method_33_code 99 = .ok (.getfield 37, 3) := by decide +kernel
theorem d_M_leadOf_102 : decode prog_15_method_33_code 102 = .ok (.iload 4, 2) := by decide +kernel
theorem d_M_leadOf_104 : decode prog_15_method_33_code 104 = .ok (.aload_n 0, 1) := by decide +kernel
theorem d_M_leadOf_105 : decode prog_15_method_33_code 105 = .ok (.getfield 22, 3) := by decide +kernel
theorem d_M_leadOf_108 : decode prog_15_method_33_code 108 = .ok (.bipush 100, 2) := by decide +kernel
theorem d_M_leadOf_110 : decode prog_15_method_33_code 110 = .ok (.iload_n 3, 1) := by decide +kernel
theorem d_M_leadOf_111 : decode prog_15_method_33_code 111 = .ok (.imul, 1) := by decide +kernel
theorem d_M_leadOf_112 : decode prog_15_method_33_code 112 = .ok (.iload 4, 2) := by decide +kernel
theorem d_M_leadOf_114 : decode prog_15_method_33_code 114 = .ok (.iadd, 1) := by decide +kernel
theorem d_M_leadOf_115 : decode prog_15_method_33_code 115 = .ok (.iaload, 1) := by decide +kernel
theorem d_M_leadOf_116 : decode prog_15_method_33_code 116 = .ok (.iastore, 1) := by decide +kernel
theorem d_M_leadOf_117 : decode prog_15_method_33_code 117 = .ok (.iinc 4 1, 3) := by decide +kernel
theorem d_M_leadOf_120 : decode prog_15_method_33_code 120 = .ok (.goto (-31), 3) := by decide +kernel
theorem d_M_leadOf_123 : decode prog_15_method_33_code 123 = .ok (.iconst 1, 1) := by decide +kernel
theorem d_M_leadOf_124 : decode prog_15_method_33_code 124 = .ok (.ireturn, 1) := by decide +kernel
set_option maxRecDepth 20000 in
theorem jc_M_leadOf_89 (N : Nat) : ∀ (n : Nat) (l0 : Option Nat) (l3 : Int32) (l4 : Int32) (h : Hp), J p l e R s m args below meth c prog_15_method_33_code 5 "RingingChamberModel" 1 22 (some .boolean) "leadOf" D dA B n0 s0 (QM below args s D dA B n0 s0 vI) 89 [(0, vr l0), (3, vi l3), (4, vi l4)] [] h (M_leadOf_89 N n l0 l3 l4 h) := by
  intro n
  induction n with
  | zero => intros; exact J.none
  | succ n ih =>
    intro l0 l3 l4 h
    rw [M_leadOf_89]
    refine j_iload d_M_leadOf_89 2 rfl ?_
    refine j_aload_n d_M_leadOf_91 0 rfl rfl ?_
    refine j_getI d_M_leadOf_92 fl_12_217.r (fun x1 => ?_)
    refine j_icmp_ge (tgt := 123) d_M_leadOf_95 (by decide) ?_ ?_
    · refine j_iconst (v := 1) d_M_leadOf_123 (by decide) ?_
      exact j_retZ d_M_leadOf_124
    · refine j_aload_n d_M_leadOf_98 0 rfl rfl ?_
      refine j_getR d_M_leadOf_99 fl_12_37.r (fun x2 => ?_)
      refine j_iload d_M_leadOf_102 2 rfl ?_
      refine j_aload_n d_M_leadOf_104 0 rfl rfl ?_
      refine j_getR d_M_leadOf_105 fl_12_22.r (fun x3 => ?_)
      refine j_bipush (v := 100) d_M_leadOf_108 (by decide) ?_
      refine j_iload_n d_M_leadOf_110 1 rfl rfl ?_
      refine j_imul d_M_leadOf_111 ?_
      refine j_iload d_M_leadOf_112 2 rfl ?_
      refine j_iadd d_M_leadOf_114 ?_
      refine j_iald d_M_leadOf_115 (fun x4 => ?_)
      refine j_iast d_M_leadOf_116 (fun h5 => ?_)
      refine j_iinc (lvv := fun x6 => [(4, vi x6), (0, vr l0), (3, vi l3)]) d_M_leadOf_117 2 rfl rfl (by decide) (fun _ => rfl) (fun x6 => ?_)
      refine j_goto (tgt := 89) d_M_leadOf_120 (by decide) ?_
      exact J.sub [1, 2, 0] rfl (ih l0 l3 x6 h5)
set_option maxRecDepth 20000 in
theorem jc_M_leadOf_57 (N : Nat) (l0 : Option Nat) (l3 : Int32) (u0 : Option Nat) (u1 : Int32) (h : Hp) : J p l e R s m args below meth c prog_15_method_33_code 5 "RingingChamberModel" 1 22 (some .boolean) "leadOf" D dA B n0 s0 (QM below args s D dA B n0 s0 vI) 57 [(0, vr l0), (3, vi l3)] [vi u1, vr u0] h (M_leadOf_57 N l0 l3 u0 u1 h) := by
  unfold M_leadOf_57
  refine j_iconst (v := 0) d_M_leadOf_57 (by decide) ?_
  refine j_vU2 d_M_leadOf_58 (allQ.cons (VD.mk vt_12_206_12 (ct_M_count N l D dA B u0 u1 0 h) (by decide) (by decide)) allQ.nil) (Nat.le_of_ble_eq_true rfl) (fun _ h1 => ?_)
  refine j_aload_n d_M_leadOf_61 0 rfl rfl ?_
  refine j_getR d_M_leadOf_62 fl_12_19.r (fun x2 => ?_)
  refine j_iload_n d_M_leadOf_65 1 rfl rfl ?_
  refine j_iald d_M_leadOf_66 (fun x3 => ?_)
  refine j_if_ge (tgt := 76) d_M_leadOf_67 (by decide) ?_ ?_
  · refine j_aload_n d_M_leadOf_76 0 rfl rfl ?_
    refine j_aload_n d_M_leadOf_77 0 rfl rfl ?_
    refine j_getR d_M_leadOf_78 fl_12_19.r (fun x4 => ?_)
    refine j_iload_n d_M_leadOf_81 1 rfl rfl ?_
    refine j_iald d_M_leadOf_82 (fun x5 => ?_)
    refine j_putI d_M_leadOf_83 fl_12_217 (Or.inl rfl) (fun h6 => ?_)
    refine j_iconst (v := 0) d_M_leadOf_86 (by decide) ?_
    refine j_istore (lv' := [(4, vi 0), (0, vr l0), (3, vi l3)]) d_M_leadOf_87 (by decide) rfl ?_
    exact J.sub [1, 2, 0] rfl (jc_M_leadOf_89 N N l0 l3 0 h6)
  · refine j_aload_n d_M_leadOf_70 0 rfl rfl ?_
    refine j_iconst (v := 1) d_M_leadOf_71 (by decide) ?_
    refine j_vI1 d_M_leadOf_72 (allQ.cons (VD.mk vt_12_210_12 (ct_M_isAmiss N l D dA B l0 1 h1) (by decide) (by decide)) allQ.nil) (Nat.le_of_ble_eq_true rfl) (fun x8 h7 => ?_)
    exact j_retZ d_M_leadOf_75
set_option maxRecDepth 20000 in
theorem jc_M_leadOf_41 (N : Nat) (l0 : Option Nat) (l3 : Int32) (h : Hp) : J p l e R s m args below meth c prog_15_method_33_code 5 "RingingChamberModel" 1 22 (some .boolean) "leadOf" D dA B n0 s0 (QM below args s D dA B n0 s0 vI) 41 [(0, vr l0), (3, vi l3)] [] h (M_leadOf_41 N l0 l3 h) := by
  unfold M_leadOf_41
  refine j_aload_n d_M_leadOf_41 0 rfl rfl ?_
  refine j_aload_n d_M_leadOf_42 0 rfl rfl ?_
  refine j_getR d_M_leadOf_43 fl_12_16.r (fun x1 => ?_)
  refine j_iload_n d_M_leadOf_46 1 rfl rfl ?_
  refine j_iald d_M_leadOf_47 (fun x2 => ?_)
  refine j_iconst (v := 4) d_M_leadOf_48 (by decide) ?_
  refine j_icmp_ne (tgt := 56) d_M_leadOf_49 (by decide) ?_ ?_
  · refine j_iconst (v := 4) d_M_leadOf_52 (by decide) ?_
    refine j_goto (tgt := 57) d_M_leadOf_53 (by decide) ?_
    exact jc_M_leadOf_57 N l0 l3 l0 4 h
  · refine j_iconst (v := 0) d_M_leadOf_56 (by decide) ?_
    exact jc_M_leadOf_57 N l0 l3 l0 0 h
set_option maxRecDepth 20000 in
theorem jc_M_leadOf (N : Nat) (l0 : Option Nat) (l1 : Int32) (l2 : Int32) (h : Hp) : J p l e R s m args below meth c prog_15_method_33_code 5 "RingingChamberModel" 1 22 (some .boolean) "leadOf" D dA B n0 s0 (QM below args s D dA B n0 s0 vI) 0 [(0, vr l0), (1, vi l1), (2, vi l2)] [] h (M_leadOf N l0 l1 l2 h) := by
  unfold M_leadOf
  refine j_iload_n d_M_leadOf_0 1 rfl rfl ?_
  refine j_istore_n (lv' := [(3, vi l1), (0, vr l0), (1, vi l1), (2, vi l2)]) d_M_leadOf_1 rfl (by decide) rfl ?_
  refine j_aload_n d_M_leadOf_2 1 rfl rfl ?_
  refine j_getR d_M_leadOf_3 fl_12_16.r (fun x1 => ?_)
  refine j_iload_n d_M_leadOf_6 2 rfl rfl ?_
  refine j_iald d_M_leadOf_7 (fun x2 => ?_)
  refine j_iconst (v := 5) d_M_leadOf_8 (by decide) ?_
  refine j_icmp_ne (tgt := 41) d_M_leadOf_9 (by decide) ?_ ?_
  · refine j_aload_n d_M_leadOf_12 1 rfl rfl ?_
    refine j_iconst (v := 5) d_M_leadOf_13 (by decide) ?_
    refine j_iconst (v := 0) d_M_leadOf_14 (by decide) ?_
    refine j_vU2 d_M_leadOf_15 (allQ.cons (VD.mk vt_12_206_12 (ct_M_count N l D dA B l0 5 0 h) (by decide) (by decide)) allQ.nil) (Nat.le_of_ble_eq_true rfl) (fun _ h3 => ?_)
    refine j_aload_n d_M_leadOf_18 1 rfl rfl ?_
    refine j_getR d_M_leadOf_19 fl_12_31.r (fun x4 => ?_)
    refine j_iload_n d_M_leadOf_22 2 rfl rfl ?_
    refine j_iald d_M_leadOf_23 (fun x5 => ?_)
    refine j_if_ne (tgt := 34) d_M_leadOf_24 (by decide) ?_ ?_
    · refine j_aload_n d_M_leadOf_27 1 rfl rfl ?_
      refine j_bipush (v := 7) d_M_leadOf_28 (by decide) ?_
      refine j_vI1 d_M_leadOf_30 (allQ.cons (VD.mk vt_12_210_12 (ct_M_isAmiss N l D dA B l0 7 h3) (by decide) (by decide)) allQ.nil) (Nat.le_of_ble_eq_true rfl) (fun x9 h8 => ?_)
      exact j_retZ d_M_leadOf_33
    · refine j_aload_n d_M_leadOf_34 1 rfl rfl ?_
      refine j_iload_n d_M_leadOf_35 2 rfl rfl ?_
      refine j_iload_n d_M_leadOf_36 3 rfl rfl ?_
      refine j_vI2 d_M_leadOf_37 (allQ.cons (VD.mk vt_12_213_12 (ct_M_partOf N l D dA B l0 l1 l2 h3) (by decide) (by decide)) allQ.nil) (Nat.le_of_ble_eq_true rfl) (fun x7 h6 => ?_)
      refine j_istore_n (lv' := [(3, vi x7), (0, vr l0), (1, vi l1), (2, vi l2)]) d_M_leadOf_40 rfl (by decide) rfl ?_
      exact J.sub [1, 0] rfl (jc_M_leadOf_41 N l0 x7 h6)
  · exact J.sub [1, 0] rfl (jc_M_leadOf_41 N l0 l1 h)
set_option maxRecDepth 20000 in
theorem ct_M_leadOf (N : Nat) (l : Launch) (D : va_G) (dA : Nat → ClassId) (B : Nat) (l0 : Option Nat) (l1 : Int32) (l2 : Int32) (h : Hp) : Ct l (⟨"RingingChamberModel", "leadOf", "(II)Z"⟩ : MethodName) prog_15_method_33_code 5 (some .boolean) 1 22 D dA B [vr l0, vi l1, vi l2] h vI (M_leadOf N l0 l1 l2 h) :=
  Ct.of2 (own := "RingingChamberModel") (nme := "leadOf") (lv := [(0, vr l0), (1, vi l1), (2, vi l2)]) rfl rfl (by decide) (Nat.le_of_ble_eq_true rfl) rfl (fun p e R s m args below meth c => jc_M_leadOf N l0 l1 l2 h)
theorem d_M_calledOf_0 : decode prog_15_method_34_code 0 = .ok (.iload_n 1, 1) := by decide +kernel
theorem d_M_calledOf_1 : decode prog_15_method_34_code 1 = .ok (.istore 4, 2) := by decide +kernel
theorem d_M_calledOf_3 : decode prog_15_method_34_code 3 = .ok (.aload_n 0, 1) := by decide +kernel
theorem d_M_calledOf_4 : decode prog_15_method_34_code 4 = .ok (.getfield 16, 3) := by decide +kernel
theorem d_M_calledOf_7 : decode prog_15_method_34_code 7 = .ok (.iload_n 1, 1) := by decide +kernel
theorem d_M_calledOf_8 : decode prog_15_method_34_code 8 = .ok (.iaload, 1) := by decide +kernel
theorem d_M_calledOf_9 : decode prog_15_method_34_code 9 = .ok (.iconst 5, 1) := by decide +kernel
theorem d_M_calledOf_10 : decode prog_15_method_34_code 10 = .ok (.if_icmp .ne 33, 3) := by decide +kernel
theorem d_M_calledOf_13 : decode prog_15_method_34_code 13 = .ok (.aload_n 0, 1) := by decide +kernel
theorem d_M_calledOf_14 : decode prog_15_method_34_code 14 = .ok (.iconst 5, 1) := by decide +kernel
theorem d_M_calledOf_15 : decode prog_15_method_34_code 15 = .ok (.iconst 1, 1) := by decide +kernel
theorem d_M_calledOf_16 : decode prog_15_method_34_code 16 = .ok (.invokevirtual 206, 3) := by decide +kernel
theorem d_M_calledOf_19 : decode prog_15_method_34_code 19 = .ok (.aload_n 0, 1) := by decide +kernel
theorem d_M_calledOf_20 : decode prog_15_method_34_code 20 = .ok (.getfield 31, 3) := by decide +kernel
theorem d_M_calledOf_23 : decode prog_15_method_34_code 23 = .ok (.iload_n 1, 1) := by decide +kernel
theorem d_M_calledOf_24 : decode prog_15_method_34_code 24 = .ok (.iaload, 1) := by decide +kernel
theorem d_M_calledOf_25 : decode prog_15_method_34_code 25 = .ok (.ifCond .ne 10, 3) := by decide +kernel
theorem d_M_calledOf_28 : decode prog_15_method_34_code 28 = .ok (.aload_n 0, 1) := by decide +kernel
theorem d_M_calledOf_29 : decode prog_15_method_34_code 29 = .ok (.bipush 7, 2) := by decide +kernel
theorem d_M_calledOf_31 : decode prog_15_method_34_code 31 = .ok (.invokevirtual 210, 3) := by decide +kernel
theorem d_M_calledOf_34 : decode prog_15_method_34_code 34 = .ok (.ireturn, 1) := by decide +kernel
theorem d_M_calledOf_35 : decode prog_15_method_34_code 35 = .ok (.aload_n 0, 1) := by decide +kernel
theorem d_M_calledOf_36 : decode prog_15_method_34_code 36 = .ok (.iload_n 1, 1) := by decide +kernel
theorem d_M_calledOf_37 : decode prog_15_method_34_code 37 = .ok (.iload_n 2, 1) := by decide +kernel
theorem d_M_calledOf_38 : decode prog_15_method_34_code 38 = .ok (.invokevirtual 213, 3) := by decide +kernel
theorem d_M_calledOf_41 : decode prog_15_method_34_code 41 = .ok (.istore 4, 2) := by decide +kernel
theorem d_M_calledOf_43 : decode prog_15_method_34_code 43 = .ok (.iload_n 3, 1) := by decide +kernel
theorem d_M_calledOf_44 : decode prog_15_method_34_code 44 = .ok (.istore 5, 2) := by decide +kernel
theorem d_M_calledOf_46 : decode prog_15_method_34_code 46 = .ok (.iload_n 3, 1) := by decide +kernel
theorem d_M_calledOf_47 : decode prog_15_method_34_code 47 = .ok (.ifCond .ne 7, 3) := by decide +kernel
theorem d_M_calledOf_50 : decode prog_15_method_34_code 50 = .ok (.iconst 0, 1) := by decide +kernel
theorem d_M_calledOf_51 : decode prog_15_method_34_code 51 = .ok (.goto 14, 3) := by decide +kernel
theorem d_M_calledOf_54 : decode prog_15_method_34_code 54 = .ok (.aload_n 0, 1) := by decide +kernel
theorem d_M_calledOf_55 : decode prog_15_method_34_code 55 = .ok (.getfield 25, 3) := by decide +kernel
theorem d_M_calledOf_58 : decode prog_15_method_34_code 58 = .ok (.iconst 3, 1) := by decide +kernel
theorem d_M_calledOf_59 : decode prog_15_method_34_code 59 = .ok (.iload 4, 2) := by decide +kernel
theorem d_M_calledOf_61 : decode prog_15_method_34_code 61 = .ok (.imul, 1) := by decide +kernel
theorem d_M_calledOf_62 : decode prog_15_method_34_code 62 = .ok (.iload_n 3, 1) := by decide +kernel
theorem d_M_calledOf_63 : decode prog_15_method_34_code 63 = .ok (.iadd, 1) := by decide +kernel
theorem d_M_calledOf_64 : decode prog_15_method_34_code 64 = .ok (.iaload, 1) := by decide +kernel
theorem d_M_calledOf_65 : decode prog_15_method_34_code 65 = .ok (.istore 6, 2) := by decide +kernel
theorem d_M_calledOf_67 : decode prog_15_method_34_code 67 = .ok (.aload_n 0, 1) := by decide +kernel
theorem d_M_calledOf_68 : decode prog_15_method_34_code 68 = .ok (.getfield 16, 3) := by decide +kernel
theorem d_M_calledOf_71 : decode prog_15_method_34_code 71 = .ok (.iload 4, 2) := by decide +kernel
theorem d_M_calledOf_73 : decode prog_15_method_34_code 73 = .ok (.iaload, 1) := by decide +kernel
theorem d_M_calledOf_74 : decode prog_15_method_34_code 74 = .ok (.iconst 1, 1) := by decide +kernel
theorem d_M_calledOf_75 : decode prog_15_method_34_code 75 = .ok (.if_icmp .ne 36, 3) := by decide +kernel
theorem d_M_calledOf_78 : decode prog_15_method_34_code 78 = .ok (.aload_n 0, 1) := by decide +kernel
theorem d_M_calledOf_79 : decode prog_15_method_34_code 79 = .ok (.iconst 1, 1) := by decide +kernel
theorem d_M_calledOf_80 : decode prog_15_method_34_code 80 = .ok (.iconst 1, 1) := by decide +kernel
theorem d_M_calledOf_81 : decode prog_15_method_34_code 81 = .ok (.invokevirtual 206, 3) := by decide +kernel
theorem d_M_calledOf_84 : decode prog_15_method_34_code 84 = .ok (.iload 5, 2) := by decide +kernel
theorem d_M_calledOf_86 : decode prog_15_method_34_code 86 = .ok (.iconst 2, 1) := by decide +kernel
theorem d_M_calledOf_87 : decode prog_15_method_34_code 87 = .ok (.if_icmp .ne 24, 3) := by decide +kernel
theorem d_M_calledOf_90 : decode prog_15_method_34_code 90 = .ok (.iload 6, 2) := by decide +kernel
theorem d_M_calledOf_92 : decode prog_15_method_34_code 92 = .ok (.ifCond .ge 19, 3) := by decide +kernel
theorem d_M_calledOf_95 : decode prog_15_method_34_code 95 = .ok (.iconst 1, 1) := by decide +kernel
theorem d_M_calledOf_96 : decode prog_15_method_34_code 96 = .ok (.istore 5, 2) := by decide +kernel
theorem d_M_calledOf_98 : decode prog_15_method_34_code 98 = .ok (.aload_n 0, 1) := by decide +kernel
theorem d_M_calledOf_99 : decode prog_15_method_34_code 99 = .ok (.getfield 25, 3) := by decide +kernel
theorem d_M_calledOf_102 : decode prog_15_method_34_code 102 = .ok (.iconst 3, 1) := by decide +kernel
theorem d_M_calledOf_103 : decode prog_15_method_34_code 103 = .ok (.iload 4, 2) := by decide +kernel
theorem d_M_calledOf_105 : decode prog_15_method_34_code 105 = .ok (.imul, 1) := by decide +kernel
theorem d_M_calledOf_106 : decode prog_15_method_34_code 106 = .ok (.iconst 1, 1) := by decide +kernel
theorem d_M_calledOf_107 : decode prog_15_method_34_code 107 = .ok (.iadd, 1) := by decide +kernel
theorem d_M_calledOf_108 : decode prog_15_method_34_code 108 = .ok (.iaload, 1) := by decide +kernel
theorem d_M_calledOf_109 : decode prog_15_method_34_code 109 = .ok (.istore 6, 2) := by decide +kernel
theorem d_M_calledOf_111 : decode prog_15_method_34_code 111 = .ok (.aload_n 0, 1) := by decide +kernel
theorem d_M_calledOf_112 : decode prog_15_method_34_code 112 = .ok (.getfield 16, 3) := by decide +kernel
theorem d_M_calledOf_115 : decode prog_15_method_34_code 115 = .ok (.iload 4, 2) := by decide +kernel
theorem d_M_calledOf_117 : decode prog_15_method_34_code 117 = .ok (.iaload, 1) := by decide +kernel
theorem d_M_calledOf_118 : decode prog_15_method_34_code 118 = .ok (.iconst 3, 1) := by decide +kernel
theorem d_M_calledOf_119 : decode prog_15_method_34_code 119 = .ok (.if_icmp .ne 55, 3) := by decide +kernel
theorem d_M_calledOf_122 : decode prog_15_method_34_code 122 = .ok (.aload_n 0, 1) := by decide +kernel
theorem d_M_calledOf_123 : decode prog_15_method_34_code 123 = .ok (.iconst 3, 1) := by decide +kernel
theorem d_M_calledOf_124 : decode prog_15_method_34_code 124 = .ok (.iconst 1, 1) := by decide +kernel
theorem d_M_calledOf_125 : decode prog_15_method_34_code 125 = .ok (.invokevirtual 206, 3) := by decide +kernel
theorem d_M_calledOf_128 : decode prog_15_method_34_code 128 = .ok (.iload 5, 2) := by decide +kernel
theorem d_M_calledOf_130 : decode prog_15_method_34_code 130 = .ok (.ifCond .eq 15, 3) := by decide +kernel
theorem d_M_calledOf_133 : decode prog_15_method_34_code 133 = .ok (.aload_n 0, 1) := by decide +kernel
theorem d_M_calledOf_134 : decode prog_15_method_34_code 134 = .ok (.iload 4, 2) := by decide +kernel
theorem d_M_calledOf_136 : decode prog_15_method_34_code 136 = .ok (.iload_n 2, 1) := by decide +kernel
theorem d_M_calledOf_137 : decode prog_15_method_34_code 137 = .ok (.invokevirtual 220, 3) := by decide +kernel
theorem d_M_calledOf_140 : decode prog_15_method_34_code 140 = .ok (.ifCond .ne 5, 3) := by decide +kernel
theorem d_M_calledOf_143 : decode prog_15_method_34_code 143 = .ok (.iconst 0, 1) := by decide +kernel
theorem d_M_calledOf_144 : decode prog_15_method_34_code 144 = .ok (.ireturn, 1) := by decide +kernel
theorem d_M_calledOf_145 : decode prog_15_method_34_code 145 = .ok (.iload 5, 2) := by decide +kernel
theorem d_M_calledOf_147 : decode prog_15_method_34_code 147 = .ok (.ifCond .eq 27, 3) := by decide +kernel
theorem d_M_calledOf_150 : decode prog_15_method_34_code 150 = .ok (.iload 6, 2) := by decide +kernel
theorem d_M_calledOf_152 : decode prog_15_method_34_code 152 = .ok (.aload_n 0, 1) := by decide +kernel
theorem d_M_calledOf_153 : decode prog_15_method_34_code 153 = .ok (.getfield 217, 3) := by decide +kernel
theorem d_M_calledOf_156 : decode prog_15_method_34_code 156 = .ok (.if_icmp .lt 18, 3) := by decide +kernel
theorem d_M_calledOf_159 : decode prog_15_method_34_code 159 = .ok (.aload_n 0, 1) := by decide +kernel
theorem d_M_calledOf_160 : decode prog_15_method_34_code 160 = .ok (.getfield 217, 3) := by decide +kernel
theorem d_M_calledOf_163 : decode prog_15_method_34_code 163 = .ok (.ifCond .le 11, 3) := by decide +kernel
theorem d_M_calledOf_166 : decode prog_15_method_34_code 166 = .ok (.aload_n 0, 1) := by decide +kernel
theorem d_M_calledOf_167 : decode prog_15_method_34_code 167 = .ok (.getfield 217, 3) := by decide +kernel
theorem d_M_calledOf_170 : decode prog_15_method_34_code 170 = .ok (.iconst 1, 1) := by decide +kernel
theorem d_M_calledOf_171 : decode prog_15_method_34_code 171 = .ok (.isub, 1) := by decide +kernel
theorem d_M_calledOf_172 : decode prog_15_method_34_code 172 = .ok (.istore 6, 2) := by decide +kernel
theorem d_M_calledOf_174 : decode prog_15_method_34_code 174 = .ok (.aload_n 0, 1) := by decide +kernel
theorem d_M_calledOf_175 : decode prog_15_method_34_code 175 = .ok (.aload_n 0, 1) := by decide +kernel
theorem d_M_calledOf_176 : decode prog_15_method_34_code 176 = .ok (.getfield 16, 3) := by decide +kernel
theorem d_M_calledOf_179 : decode prog_15_method_34_code 179 = .ok (.iload 4, 2) := by decide +kernel
theorem d_M_calledOf_181 : decode prog_15_method_34_code 181 = .ok (.iaload, 1) := by decide +kernel
theorem d_M_calledOf_182 : decode prog_15_method_34_code 182 = .ok (.iconst 4, 1) := by decide +kernel
theorem d_M_calledOf_183 : decode prog_15_method_34_code 183 = .ok (.if_icmp .ne 7, 3) := by decide +kernel
theorem d_M_calledOf_186 : decode prog_15_method_34_code 186 = .ok (.iconst 4, 1) := by decide +kernel
theorem d_M_calledOf_187 : decode prog_15_method_34_code 187 = .ok (.goto 4, 3) := by decide +kernel
theorem d_M_calledOf_190 : decode prog_15_method_34_code 190 = .ok (.iconst 0, 1) := by decide +kernel
theorem d_M_calledOf_191 : decode prog_15_method_34_code 191 = .ok (.iconst 1, 1) := by decide +kernel
theorem d_M_calledOf_192 : decode prog_15_method_34_code 192 = .ok (.invokevirtual 206, 3) := by decide +kernel
theorem d_M_calledOf_195 : decode prog_15_method_34_code 195 = .ok (.aload_n 0, 1) := by decide +kernel
theorem d_M_calledOf_196 : decode prog_15_method_34_code 196 = .ok (.iload 4, 2) := by decide +kernel
theorem d_M_calledOf_198 : decode prog_15_method_34_code 198 = .ok (.iload_n 2, 1) := by decide +kernel
theorem d_M_calledOf_199 : decode prog_15_method_34_code 199 = .ok (.invokevirtual 220, 3) := by decide +kernel
theorem d_M_calledOf_202 : decode prog_15_method_34_code 202 = .ok (.ifCond .ne 5, 3) := by decide +kernel
theorem d_M_calledOf_205 : decode prog_15_method_34_code 205 = .ok (.iconst 0, 1) := by decide +kernel
theorem d_M_calledOf_206 : decode prog_15_method_34_code 206 = .ok (.ireturn, 1) := by decide +kernel
theorem d_M_calledOf_207 : decode prog_15_method_34_code 207 = .ok (.iload 5, 2) := by decide +kernel
theorem d_M_calledOf_209 : decode prog_15_method_34_code 209 = .ok (.ifCond .ne 5, 3) := by decide +kernel
theorem d_M_calledOf_212 : decode prog_15_method_34_code 212 = .ok (.iconst 1, 1) := by decide +kernel
theorem d_M_calledOf_213 : decode prog_15_method_34_code 213 = .ok (.ireturn, 1) := by decide +kernel
theorem d_M_calledOf_214 : decode prog_15_method_34_code 214 = .ok (.iload 6, 2) := by decide +kernel
theorem d_M_calledOf_216 : decode prog_15_method_34_code 216 = .ok (.ifCond .ge 9, 3) := by decide +kernel
theorem d_M_calledOf_219 : decode prog_15_method_34_code 219 = .ok (.aload_n 0, 1) := by decide +kernel
theorem d_M_calledOf_220 : decode prog_15_method_34_code 220 = .ok (.iconst 1, 1) := by decide +kernel
theorem d_M_calledOf_221 : decode prog_15_method_34_code 221 = .ok (.invokevirtual 210, 3) := by decide +kernel
theorem d_M_calledOf_224 : decode prog_15_method_34_code 224 = .ok (.ireturn, 1) := by decide +kernel
theorem d_M_calledOf_225 : decode prog_15_method_34_code 225 = .ok (.iload 6, 2) := by decide +kernel
theorem d_M_calledOf_227 : decode prog_15_method_34_code 227 = .ok (.aload_n 0, 1) := by decide +kernel
theorem d_M_calledOf_228 : decode prog_15_method_34_code 228 = .ok (.getfield 217, 3) := by decide +kernel
theorem d_M_calledOf_231 : decode prog_15_method_34_code 231 = .ok (.if_icmp .lt 9, 3) := by decide +kernel
theorem d_M_calledOf_234 : decode prog_15_method_34_code 234 = .ok (.aload_n 0, 1) := by decide +kernel
theorem d_M_calledOf_235 : decode prog_15_method_34_code 235 = .ok (.iconst 2, 1) := by decide +kernel
theorem d_M_calledOf_236 : decode prog_15_method_34_code 236 = .ok (.invokevirtual 210, 3) := by decide +kernel
theorem d_M_calledOf_239 : decode prog_15_method_34_code 239 = .ok (.ireturn, 1) := by decide +kernel
theorem d_M_calledOf_240 : decode prog_15_method_34_code 240 = .ok (.aload_n 0, 1) := by decide +kernel
theorem d_M_calledOf_241 : decode prog_15_method_34_code 241 = .ok (.getfield 37, 3) := by decide +kernel
theorem d_M_calledOf_244 : decode prog_15_method_34_code 244 = .ok (.aload_n 0, 1) := by decide +kernel
theorem d_M_calledOf_245 : decode prog_15_method_34_code 245 = .ok (.getfield 16, 3) := by decide +kernel
theorem d_M_calledOf_248 : decode prog_15_method_34_code 248 = .ok (.iload 4, 2) := by decide +kernel
theorem d_M_calledOf_250 : decode prog_15_method_34_code 250 = .ok (.iaload, 1) := by decide +kernel
theorem d_M_calledOf_251 : decode prog_15_method_34_code 251 = .ok (.iconst 4, 1) := by decide +kernel
theorem d_M_calledOf_252 : decode prog_15_method_34_code 252 = .ok (.if_icmp .ne 15, 3) := by decide +kernel
theorem d_M_calledOf_255 : decode prog_15_method_34_code 255 = .ok (.aload_n 0, 1) := by decide +kernel
theorem d_M_calledOf_256 : decode prog_15_method_34_code 256 = .ok (.getfield 217, 3) := by decide +kernel
theorem d_M_calledOf_259 : decode prog_15_method_34_code 259 = .ok (.iconst 1, 1) := by decide +kernel
theorem d_M_calledOf_260 : decode prog_15_method_34_code 260 = .ok (.isub, 1) := by decide +kernel
theorem d_M_calledOf_261 : decode prog_15_method_34_code 261 = .ok (.iload 6, 2) := by decide +kernel
theorem d_M_calledOf_263 : decode prog_15_method_34_code 263 = .ok (.isub, 1) := by decide +kernel
theorem d_M_calledOf_264 : decode prog_15_method_34_code 264 = .ok (.goto 5, 3) := by decide +kernel
theorem d_M_calledOf_267 : decode prog_15_method_34_code 267 = .ok (.iload 6, 2) := by decide +kernel
theorem d_M_calledOf_269 : decode prog_15_method_34_code 269 = .ok (.aload_n 0, 1) := by decide +kernel
theorem d_M_calledOf_270 : decode prog_15_method_34_code 270 = .ok (.getfield 28, 3) := by decide +kernel
theorem d_M_calledOf_273 : decode prog_15_method_34_code 273 = .ok (.iconst 3, 1) := by decide +kernel
theorem d_M_calledOf_274 : decode prog_15_method_34_code 274 = .ok (.iload 4, 2) := by decide +kernel
theorem d_M_calledOf_276 : decode prog_15_method_34_code 276 = .ok (.imul, 1) := by decide +kernel
theorem d_M_calledOf_277 : decode prog_15_method_34_code 277 = .ok (.iload 5, 2) := by decide +kernel
theorem d_M_calledOf_279 : decode prog_15_method_34_code 279 = .ok (.iadd, 1) := by decide +kernel
theorem d_M_calledOf_280 : decode prog_15_method_34_code 280 = .ok (.iaload, 1) := by decide +kernel
theorem d_M_calledOf_281 : decode prog_15_method_34_code 281 = .ok (.iastore, 1) := by decide +kernel
theorem d_M_calledOf_282 : decode prog_15_method_34_code 282 = .ok (.iconst 1, 1) := by decide +kernel
theorem d_M_calledOf_283 : decode prog_15_method_34_code 283 = .ok (.ireturn, 1) := by decide +kernel
set_option maxRecDepth 20000 in
theorem jc_M_calledOf_269 (N : Nat) (l0 : Option Nat) (l4 : Int32) (l5 : Int32) (u0 : Option Nat) (u1 : Int32) (h : Hp) : J p l e R s m args below meth c prog_15_method_34_code 7 "RingingChamberModel" 2 46 (some .boolean) "calledOf" D dA B n0 s0 (QM below args s D dA B n0 s0 vI) 269 [(0, vr l0), (4, vi l4), (5, vi l5)] [vi u1, vr u0] h (M_calledOf_269 N l0 l4 l5 u0 u1 h) := by
  unfold M_calledOf_269
  refine j_aload_n d_M_calledOf_269 0 rfl rfl ?_
  refine j_getR d_M_calledOf_270 fl_12_28.r (fun x1 => ?_)
  refine j_iconst (v := 3) d_M_calledOf_273 (by decide) ?_
  refine j_iload d_M_calledOf_274 1 rfl ?_
  refine j_imul d_M_calledOf_276 ?_
  refine j_iload d_M_calledOf_277 2 rfl ?_
  refine j_iadd d_M_calledOf_279 ?_
  refine j_iald d_M_calledOf_280 (fun x2 => ?_)
  refine j_iast d_M_calledOf_281 (fun h3 => ?_)
  refine j_iconst (v := 1) d_M_calledOf_282 (by decide) ?_
  exact j_retZ d_M_calledOf_283
set_option maxRecDepth 20000 in
theorem jc_M_calledOf_191 (N : Nat) (l0 : Option Nat) (l2 : Int32) (l4 : Int32) (l5 : Int32) (l6 : Int32) (u0 : Option Nat) (u1 : Int32) (h : Hp) : J p l e R s m args below meth c prog_15_method_34_code 7 "RingingChamberModel" 2 46 (some .boolean) "calledOf" D dA B n0 s0 (QM below args s D dA B n0 s0 vI) 191 [(0, vr l0), (2, vi l2), (4, vi l4), (5, vi l5), (6, vi l6)] [vi u1, vr u0] h (M_calledOf_191 N l0 l2 l4 l5 l6 u0 u1 h) := by
  unfold M_calledOf_191
  refine j_iconst (v := 1) d_M_calledOf_191 (by decide) ?_
  refine j_vU2 d_M_calledOf_192 (allQ.cons (VD.mk vt_12_206_12 (ct_M_count N l D dA B u0 u1 1 h) (by decide) (by decide)) allQ.nil) (Nat.le_of_ble_eq_true rfl) (fun _ h1 => ?_)
  refine j_aload_n d_M_calledOf_195 0 rfl rfl ?_
  refine j_iload d_M_calledOf_196 2 rfl ?_
  refine j_iload_n d_M_calledOf_198 1 rfl rfl ?_
  refine j_vI2 d_M_calledOf_199 (allQ.cons (VD.mk vt_12_220_12 (ct_M_leadOf N l D dA B l0 l4 l2 h1) (by decide) (by decide)) allQ.nil) (Nat.le_of_ble_eq_true rfl) (fun x3 h2 => ?_)
  refine j_if_ne (tgt := 207) d_M_calledOf_202 (by decide) ?_ ?_
  · refine j_iconst (v := 0) d_M_calledOf_205 (by decide) ?_
    exact j_retZ d_M_calledOf_206
  · refine j_iload d_M_calledOf_207 3 rfl ?_
    refine j_if_ne (tgt := 214) d_M_calledOf_209 (by decide) ?_ ?_
    · refine j_iconst (v := 1) d_M_calledOf_212 (by decide) ?_
      exact j_retZ d_M_calledOf_213
    · refine j_iload d_M_calledOf_214 4 rfl ?_
      refine j_if_ge (tgt := 225) d_M_calledOf_216 (by decide) ?_ ?_
      · refine j_iload d_M_calledOf_225 4 rfl ?_
        refine j_aload_n d_M_calledOf_227 0 rfl rfl ?_
        refine j_getI d_M_calledOf_228 fl_12_217.r (fun x4 => ?_)
        refine j_icmp_lt (tgt := 240) d_M_calledOf_231 (by decide) ?_ ?_
        · refine j_aload_n d_M_calledOf_240 0 rfl rfl ?_
          refine j_getR d_M_calledOf_241 fl_12_37.r (fun x5 => ?_)
          refine j_aload_n d_M_calledOf_244 0 rfl rfl ?_
          refine j_getR d_M_calledOf_245 fl_12_16.r (fun x6 => ?_)
          refine j_iload d_M_calledOf_248 2 rfl ?_
          refine j_iald d_M_calledOf_250 (fun x7 => ?_)
          refine j_iconst (v := 4) d_M_calledOf_251 (by decide) ?_
          refine j_icmp_ne (tgt := 267) d_M_calledOf_252 (by decide) ?_ ?_
          · refine j_aload_n d_M_calledOf_255 0 rfl rfl ?_
            refine j_getI d_M_calledOf_256 fl_12_217.r (fun x8 => ?_)
            refine j_iconst (v := 1) d_M_calledOf_259 (by decide) ?_
            refine j_isub d_M_calledOf_260 ?_
            refine j_iload d_M_calledOf_261 4 rfl ?_
            refine j_isub d_M_calledOf_263 ?_
            refine j_goto (tgt := 269) d_M_calledOf_264 (by decide) ?_
            exact J.sub [0, 2, 3] rfl (jc_M_calledOf_269 N l0 l4 l5 x5 ((x8 - (1 : Int32)) - l6) h2)
          · refine j_iload d_M_calledOf_267 4 rfl ?_
            exact J.sub [0, 2, 3] rfl (jc_M_calledOf_269 N l0 l4 l5 x5 l6 h2)
        · refine j_aload_n d_M_calledOf_234 0 rfl rfl ?_
          refine j_iconst (v := 2) d_M_calledOf_235 (by decide) ?_
          refine j_vI1 d_M_calledOf_236 (allQ.cons (VD.mk vt_12_210_12 (ct_M_isAmiss N l D dA B l0 2 h2) (by decide) (by decide)) allQ.nil) (Nat.le_of_ble_eq_true rfl) (fun x10 h9 => ?_)
          exact j_retZ d_M_calledOf_239
      · refine j_aload_n d_M_calledOf_219 0 rfl rfl ?_
        refine j_iconst (v := 1) d_M_calledOf_220 (by decide) ?_
        refine j_vI1 d_M_calledOf_221 (allQ.cons (VD.mk vt_12_210_12 (ct_M_isAmiss N l D dA B l0 1 h2) (by decide) (by decide)) allQ.nil) (Nat.le_of_ble_eq_true rfl) (fun x12 h11 => ?_)
        exact j_retZ d_M_calledOf_224
set_option maxRecDepth 20000 in
theorem jc_M_calledOf_174 (N : Nat) (l0 : Option Nat) (l2 : Int32) (l4 : Int32) (l5 : Int32) (l6 : Int32) (h : Hp) : J p l e R s m args below meth c prog_15_method_34_code 7 "RingingChamberModel" 2 46 (some .boolean) "calledOf" D dA B n0 s0 (QM below args s D dA B n0 s0 vI) 174 [(0, vr l0), (2, vi l2), (4, vi l4), (5, vi l5), (6, vi l6)] [] h (M_calledOf_174 N l0 l2 l4 l5 l6 h) := by
  unfold M_calledOf_174
  refine j_aload_n d_M_calledOf_174 0 rfl rfl ?_
  refine j_aload_n d_M_calledOf_175 0 rfl rfl ?_
  refine j_getR d_M_calledOf_176 fl_12_16.r (fun x1 => ?_)
  refine j_iload d_M_calledOf_179 2 rfl ?_
  refine j_iald d_M_calledOf_181 (fun x2 => ?_)
  refine j_iconst (v := 4) d_M_calledOf_182 (by decide) ?_
  refine j_icmp_ne (tgt := 190) d_M_calledOf_183 (by decide) ?_ ?_
  · refine j_iconst (v := 4) d_M_calledOf_186 (by decide) ?_
    refine j_goto (tgt := 191) d_M_calledOf_187 (by decide) ?_
    exact jc_M_calledOf_191 N l0 l2 l4 l5 l6 l0 4 h
  · refine j_iconst (v := 0) d_M_calledOf_190 (by decide) ?_
    exact jc_M_calledOf_191 N l0 l2 l4 l5 l6 l0 0 h
set_option maxRecDepth 20000 in
theorem jc_M_calledOf_145 (N : Nat) (l0 : Option Nat) (l2 : Int32) (l4 : Int32) (l5 : Int32) (l6 : Int32) (h : Hp) : J p l e R s m args below meth c prog_15_method_34_code 7 "RingingChamberModel" 2 46 (some .boolean) "calledOf" D dA B n0 s0 (QM below args s D dA B n0 s0 vI) 145 [(0, vr l0), (2, vi l2), (4, vi l4), (5, vi l5), (6, vi l6)] [] h (M_calledOf_145 N l0 l2 l4 l5 l6 h) := by
  unfold M_calledOf_145
  refine j_iload d_M_calledOf_145 3 rfl ?_
  refine j_if_eq (tgt := 174) d_M_calledOf_147 (by decide) ?_ ?_
  · exact jc_M_calledOf_174 N l0 l2 l4 l5 l6 h
  · refine j_iload d_M_calledOf_150 4 rfl ?_
    refine j_aload_n d_M_calledOf_152 0 rfl rfl ?_
    refine j_getI d_M_calledOf_153 fl_12_217.r (fun x1 => ?_)
    refine j_icmp_lt (tgt := 174) d_M_calledOf_156 (by decide) ?_ ?_
    · exact jc_M_calledOf_174 N l0 l2 l4 l5 l6 h
    · refine j_aload_n d_M_calledOf_159 0 rfl rfl ?_
      refine j_getI d_M_calledOf_160 fl_12_217.r (fun x2 => ?_)
      refine j_if_le (tgt := 174) d_M_calledOf_163 (by decide) ?_ ?_
      · exact jc_M_calledOf_174 N l0 l2 l4 l5 l6 h
      · refine j_aload_n d_M_calledOf_166 0 rfl rfl ?_
        refine j_getI d_M_calledOf_167 fl_12_217.r (fun x3 => ?_)
        refine j_iconst (v := 1) d_M_calledOf_170 (by decide) ?_
        refine j_isub d_M_calledOf_171 ?_
        refine j_nmi (fun x4 => ?_)
        refine j_istore (lv' := [(6, vi x4), (0, vr l0), (2, vi l2), (4, vi l4), (5, vi l5)]) d_M_calledOf_172 (by decide) rfl ?_
        exact J.sub [1, 2, 3, 4, 0] rfl (jc_M_calledOf_174 N l0 l2 l4 l5 x4 h)
set_option maxRecDepth 20000 in
theorem jc_M_calledOf_111 (N : Nat) (l0 : Option Nat) (l2 : Int32) (l4 : Int32) (l5 : Int32) (l6 : Int32) (h : Hp) : J p l e R s m args below meth c prog_15_method_34_code 7 "RingingChamberModel" 2 46 (some .boolean) "calledOf" D dA B n0 s0 (QM below args s D dA B n0 s0 vI) 111 [(0, vr l0), (2, vi l2), (4, vi l4), (5, vi l5), (6, vi l6)] [] h (M_calledOf_111 N l0 l2 l4 l5 l6 h) := by
  unfold M_calledOf_111
  refine j_aload_n d_M_calledOf_111 0 rfl rfl ?_
  refine j_getR d_M_calledOf_112 fl_12_16.r (fun x1 => ?_)
  refine j_iload d_M_calledOf_115 2 rfl ?_
  refine j_iald d_M_calledOf_117 (fun x2 => ?_)
  refine j_iconst (v := 3) d_M_calledOf_118 (by decide) ?_
  refine j_icmp_ne (tgt := 174) d_M_calledOf_119 (by decide) ?_ ?_
  · refine j_aload_n d_M_calledOf_122 0 rfl rfl ?_
    refine j_iconst (v := 3) d_M_calledOf_123 (by decide) ?_
    refine j_iconst (v := 1) d_M_calledOf_124 (by decide) ?_
    refine j_vU2 d_M_calledOf_125 (allQ.cons (VD.mk vt_12_206_12 (ct_M_count N l D dA B l0 3 1 h) (by decide) (by decide)) allQ.nil) (Nat.le_of_ble_eq_true rfl) (fun _ h3 => ?_)
    refine j_iload d_M_calledOf_128 3 rfl ?_
    refine j_if_eq (tgt := 145) d_M_calledOf_130 (by decide) ?_ ?_
    · exact jc_M_calledOf_145 N l0 l2 l4 l5 l6 h3
    · refine j_aload_n d_M_calledOf_133 0 rfl rfl ?_
      refine j_iload d_M_calledOf_134 2 rfl ?_
      refine j_iload_n d_M_calledOf_136 1 rfl rfl ?_
      refine j_vI2 d_M_calledOf_137 (allQ.cons (VD.mk vt_12_220_12 (ct_M_leadOf N l D dA B l0 l4 l2 h3) (by decide) (by decide)) allQ.nil) (Nat.le_of_ble_eq_true rfl) (fun x5 h4 => ?_)
      refine j_if_ne (tgt := 145) d_M_calledOf_140 (by decide) ?_ ?_
      · refine j_iconst (v := 0) d_M_calledOf_143 (by decide) ?_
        exact j_retZ d_M_calledOf_144
      · exact jc_M_calledOf_145 N l0 l2 l4 l5 l6 h4
  · exact jc_M_calledOf_174 N l0 l2 l4 l5 l6 h
set_option maxRecDepth 20000 in
theorem jc_M_calledOf_65 (N : Nat) (l0 : Option Nat) (l2 : Int32) (l4 : Int32) (l5 : Int32) (u0 : Int32) (h : Hp) : J p l e R s m args below meth c prog_15_method_34_code 7 "RingingChamberModel" 2 46 (some .boolean) "calledOf" D dA B n0 s0 (QM below args s D dA B n0 s0 vI) 65 [(0, vr l0), (2, vi l2), (4, vi l4), (5, vi l5)] [vi u0] h (M_calledOf_65 N l0 l2 l4 l5 u0 h) := by
  unfold M_calledOf_65
  refine j_istore (lv' := [(6, vi u0), (0, vr l0), (2, vi l2), (4, vi l4), (5, vi l5)]) d_M_calledOf_65 (by decide) rfl ?_
  refine j_aload_n d_M_calledOf_67 1 rfl rfl ?_
  refine j_getR d_M_calledOf_68 fl_12_16.r (fun x1 => ?_)
  refine j_iload d_M_calledOf_71 3 rfl ?_
  refine j_iald d_M_calledOf_73 (fun x2 => ?_)
  refine j_iconst (v := 1) d_M_calledOf_74 (by decide) ?_
  refine j_icmp_ne (tgt := 111) d_M_calledOf_75 (by decide) ?_ ?_
  · refine j_aload_n d_M_calledOf_78 1 rfl rfl ?_
    refine j_iconst (v := 1) d_M_calledOf_79 (by decide) ?_
    refine j_iconst (v := 1) d_M_calledOf_80 (by decide) ?_
    refine j_vU2 d_M_calledOf_81 (allQ.cons (VD.mk vt_12_206_12 (ct_M_count N l D dA B l0 1 1 h) (by decide) (by decide)) allQ.nil) (Nat.le_of_ble_eq_true rfl) (fun _ h3 => ?_)
    refine j_iload d_M_calledOf_84 4 rfl ?_
    refine j_iconst (v := 2) d_M_calledOf_86 (by decide) ?_
    refine j_icmp_ne (tgt := 111) d_M_calledOf_87 (by decide) ?_ ?_
    · refine j_iload d_M_calledOf_90 0 rfl ?_
      refine j_if_ge (tgt := 111) d_M_calledOf_92 (by decide) ?_ ?_
      · exact J.sub [1, 2, 3, 4, 0] rfl (jc_M_calledOf_111 N l0 l2 l4 l5 u0 h3)
      · refine j_iconst (v := 1) d_M_calledOf_95 (by decide) ?_
        refine j_istore (lv' := [(5, vi 1), (6, vi u0), (0, vr l0), (2, vi l2), (4, vi l4)]) d_M_calledOf_96 (by decide) rfl ?_
        refine j_aload_n d_M_calledOf_98 2 rfl rfl ?_
        refine j_getR d_M_calledOf_99 fl_12_25.r (fun x4 => ?_)
        refine j_iconst (v := 3) d_M_calledOf_102 (by decide) ?_
        refine j_iload d_M_calledOf_103 4 rfl ?_
        refine j_imul d_M_calledOf_105 ?_
        refine j_iconst (v := 1) d_M_calledOf_106 (by decide) ?_
        refine j_iadd d_M_calledOf_107 ?_
        refine j_iald d_M_calledOf_108 (fun x5 => ?_)
        refine j_istore (lv' := [(6, vi x5), (5, vi 1), (0, vr l0), (2, vi l2), (4, vi l4)]) d_M_calledOf_109 (by decide) rfl ?_
        exact J.sub [2, 3, 4, 1, 0] rfl (jc_M_calledOf_111 N l0 l2 l4 1 x5 h3)
    · exact J.sub [1, 2, 3, 4, 0] rfl (jc_M_calledOf_111 N l0 l2 l4 l5 u0 h3)
  · exact J.sub [1, 2, 3, 4, 0] rfl (jc_M_calledOf_111 N l0 l2 l4 l5 u0 h)
set_option maxRecDepth 20000 in
theorem jc_M_calledOf_43 (N : Nat) (l0 : Option Nat) (l2 : Int32) (l3 : Int32) (l4 : Int32) (h : Hp) : J p l e R s m args below meth c prog_15_method_34_code 7 "RingingChamberModel" 2 46 (some .boolean) "calledOf" D dA B n0 s0 (QM below args s D dA B n0 s0 vI) 43 [(0, vr l0), (2, vi l2), (3, vi l3), (4, vi l4)] [] h (M_calledOf_43 N l0 l2 l3 l4 h) := by
  unfold M_calledOf_43
  refine j_iload_n d_M_calledOf_43 2 rfl rfl ?_
  refine j_istore (lv' := [(5, vi l3), (0, vr l0), (2, vi l2), (3, vi l3), (4, vi l4)]) d_M_calledOf_44 (by decide) rfl ?_
  refine j_iload_n d_M_calledOf_46 3 rfl rfl ?_
  refine j_if_ne (tgt := 54) d_M_calledOf_47 (by decide) ?_ ?_
  · refine j_iconst (v := 0) d_M_calledOf_50 (by decide) ?_
    refine j_goto (tgt := 65) d_M_calledOf_51 (by decide) ?_
    exact J.sub [1, 2, 4, 0] rfl (jc_M_calledOf_65 N l0 l2 l4 l3 0 h)
  · refine j_aload_n d_M_calledOf_54 1 rfl rfl ?_
    refine j_getR d_M_calledOf_55 fl_12_25.r (fun x1 => ?_)
    refine j_iconst (v := 3) d_M_calledOf_58 (by decide) ?_
    refine j_iload d_M_calledOf_59 4 rfl ?_
    refine j_imul d_M_calledOf_61 ?_
    refine j_iload_n d_M_calledOf_62 3 rfl rfl ?_
    refine j_iadd d_M_calledOf_63 ?_
    refine j_iald d_M_calledOf_64 (fun x2 => ?_)
    exact J.sub [1, 2, 4, 0] rfl (jc_M_calledOf_65 N l0 l2 l4 l3 x2 h)
set_option maxRecDepth 20000 in
theorem jc_M_calledOf (N : Nat) (l0 : Option Nat) (l1 : Int32) (l2 : Int32) (l3 : Int32) (h : Hp) : J p l e R s m args below meth c prog_15_method_34_code 7 "RingingChamberModel" 2 46 (some .boolean) "calledOf" D dA B n0 s0 (QM below args s D dA B n0 s0 vI) 0 [(0, vr l0), (1, vi l1), (2, vi l2), (3, vi l3)] [] h (M_calledOf N l0 l1 l2 l3 h) := by
  unfold M_calledOf
  refine j_iload_n d_M_calledOf_0 1 rfl rfl ?_
  refine j_istore (lv' := [(4, vi l1), (0, vr l0), (1, vi l1), (2, vi l2), (3, vi l3)]) d_M_calledOf_1 (by decide) rfl ?_
  refine j_aload_n d_M_calledOf_3 1 rfl rfl ?_
  refine j_getR d_M_calledOf_4 fl_12_16.r (fun x1 => ?_)
  refine j_iload_n d_M_calledOf_7 2 rfl rfl ?_
  refine j_iald d_M_calledOf_8 (fun x2 => ?_)
  refine j_iconst (v := 5) d_M_calledOf_9 (by decide) ?_
  refine j_icmp_ne (tgt := 43) d_M_calledOf_10 (by decide) ?_ ?_
  · refine j_aload_n d_M_calledOf_13 1 rfl rfl ?_
    refine j_iconst (v := 5) d_M_calledOf_14 (by decide) ?_
    refine j_iconst (v := 1) d_M_calledOf_15 (by decide) ?_
    refine j_vU2 d_M_calledOf_16 (allQ.cons (VD.mk vt_12_206_12 (ct_M_count N l D dA B l0 5 1 h) (by decide) (by decide)) allQ.nil) (Nat.le_of_ble_eq_true rfl) (fun _ h3 => ?_)
    refine j_aload_n d_M_calledOf_19 1 rfl rfl ?_
    refine j_getR d_M_calledOf_20 fl_12_31.r (fun x4 => ?_)
    refine j_iload_n d_M_calledOf_23 2 rfl rfl ?_
    refine j_iald d_M_calledOf_24 (fun x5 => ?_)
    refine j_if_ne (tgt := 35) d_M_calledOf_25 (by decide) ?_ ?_
    · refine j_aload_n d_M_calledOf_28 1 rfl rfl ?_
      refine j_bipush (v := 7) d_M_calledOf_29 (by decide) ?_
      refine j_vI1 d_M_calledOf_31 (allQ.cons (VD.mk vt_12_210_12 (ct_M_isAmiss N l D dA B l0 7 h3) (by decide) (by decide)) allQ.nil) (Nat.le_of_ble_eq_true rfl) (fun x9 h8 => ?_)
      exact j_retZ d_M_calledOf_34
    · refine j_aload_n d_M_calledOf_35 1 rfl rfl ?_
      refine j_iload_n d_M_calledOf_36 2 rfl rfl ?_
      refine j_iload_n d_M_calledOf_37 3 rfl rfl ?_
      refine j_vI2 d_M_calledOf_38 (allQ.cons (VD.mk vt_12_213_12 (ct_M_partOf N l D dA B l0 l1 l2 h3) (by decide) (by decide)) allQ.nil) (Nat.le_of_ble_eq_true rfl) (fun x7 h6 => ?_)
      refine j_istore (lv' := [(4, vi x7), (0, vr l0), (1, vi l1), (2, vi l2), (3, vi l3)]) d_M_calledOf_41 (by decide) rfl ?_
      exact J.sub [1, 3, 4, 0] rfl (jc_M_calledOf_43 N l0 l2 l3 x7 h6)
  · exact J.sub [1, 3, 4, 0] rfl (jc_M_calledOf_43 N l0 l2 l3 l1 h)
set_option maxRecDepth 20000 in
theorem ct_M_calledOf (N : Nat) (l : Launch) (D : va_G) (dA : Nat → ClassId) (B : Nat) (l0 : Option Nat) (l1 : Int32) (l2 : Int32) (l3 : Int32) (h : Hp) : Ct l (⟨"RingingChamberModel", "calledOf", "(III)Z"⟩ : MethodName) prog_15_method_34_code 7 (some .boolean) 2 46 D dA B [vr l0, vi l1, vi l2, vi l3] h vI (M_calledOf N l0 l1 l2 l3 h) :=
  Ct.of2 (own := "RingingChamberModel") (nme := "calledOf") (lv := [(0, vr l0), (1, vi l1), (2, vi l2), (3, vi l3)]) rfl rfl (by decide) (Nat.le_of_ble_eq_true rfl) rfl (fun p e R s m args below meth c => jc_M_calledOf N l0 l1 l2 l3 h)
theorem d_M_behind_0 : decode prog_15_method_35_code 0 = .ok (.lload_n 1, 1) := by decide +kernel
theorem d_M_behind_1 : decode prog_15_method_35_code 1 = .ok (.lstore 4, 2) := by decide +kernel
theorem d_M_behind_3 : decode prog_15_method_35_code 3 = .ok (.iconst 0, 1) := by decide +kernel
theorem d_M_behind_4 : decode prog_15_method_35_code 4 = .ok (.istore 6, 2) := by decide +kernel
theorem d_M_behind_6 : decode prog_15_method_35_code 6 = .ok (.iload 6, 2) := by decide +kernel
theorem d_M_behind_8 : decode prog_15_method_35_code 8 = .ok (.iload_n 3, 1) := by decide +kernel
theorem d_M_behind_9 : decode prog_15_method_35_code 9 = .ok (.if_icmp .ge 23, 3) := by decide +kernel
theorem d_M_behind_12 : decode prog_15_method_35_code 12 = .ok (.lload 4, 2) := by decide +kernel
theorem d_M_behind_14 : decode prog_15_method_35_code 14 = .ok (.aload_n 0, 1) := by decide +kernel
theorem d_M_behind_15 : decode prog_15_method_35_code 15 = .ok (.getfield 37, 3) := by decide +kernel
theorem d_M_behind_18 : decode prog_15_method_35_code 18 = .ok (.iload 6, 2) := by decide +kernel
theorem d_M_behind_20 : decode prog_15_method_35_code 20 = .ok (.iaload, 1) := by decide +kernel
theorem d_M_behind_21 : decode prog_15_method_35_code 21 = .ok (.invokestatic 224, 3) := by decide +kernel
theorem d_M_behind_24 : decode prog_15_method_35_code 24 = .ok (.lstore 4, 2) := by decide +kernel
theorem d_M_behind_26 : decode prog_15_method_35_code 26 = .ok (.iinc 6 1, 3) := by decide +kernel
theorem d_M_behind_29 : decode prog_15_method_35_code 29 = .ok (.goto (-23), 3) := by decide +kernel
theorem d_M_behind_32 : decode prog_15_method_35_code 32 = .ok (.lload 4, 2) := by decide +kernel
theorem d_M_behind_34 : decode prog_15_method_35_code 34 = .ok (.lreturn, 1) := by decide +kernel
set_option maxRecDepth 20000 in
theorem jc_M_behind_6 (N : Nat) : ∀ (n : Nat) (l0 : Option Nat) (l3 : Int32) (l4 : Int64) (l6 : Int32) (h : Hp), J p l e R s m args below meth c prog_15_method_35_code 7 "RingingChamberModel" 2 51 (some .long) "behind" D dA B n0 s0 (QM below args s D dA B n0 s0 vL) 6 [(0, vr l0), (3, vi l3), (4, vl l4), (6, vi l6)] [] h (M_behind_6 N n l0 l3 l4 l6 h) := by
  intro n
  induction n with
  | zero => intros; exact J.none
  | succ n ih =>
    intro l0 l3 l4 l6 h
    rw [M_behind_6]
    refine j_iload d_M_behind_6 3 rfl ?_
    refine j_iload_n d_M_behind_8 1 rfl rfl ?_
    refine j_icmp_ge (tgt := 32) d_M_behind_9 (by decide) ?_ ?_
    · refine j_lload d_M_behind_32 2 rfl ?_
      exact j_retL d_M_behind_34
    · refine j_lload d_M_behind_12 2 rfl ?_
      refine j_aload_n d_M_behind_14 0 rfl rfl ?_
      refine j_getR d_M_behind_15 fl_12_37.r (fun x1 => ?_)
      refine j_iload d_M_behind_18 3 rfl ?_
      refine j_iald d_M_behind_20 (fun x2 => ?_)
      refine j_cSL2 d_M_behind_21 sl_12_224 ks_M_done (ct_M_done N l D dA B l4 x2 h) (by decide) (by decide) (Nat.le_of_ble_eq_true rfl) (fun x4 h3 => ?_)
      refine j_lstore (lv' := [(4, vl x4), (0, vr l0), (3, vi l3), (6, vi l6)]) d_M_behind_24 (by decide) rfl ?_
      refine j_iinc (lvv := fun x5 => [(6, vi x5), (4, vl x4), (0, vr l0), (3, vi l3)]) d_M_behind_26 3 rfl rfl (by decide) (fun _ => rfl) (fun x5 => ?_)
      refine j_goto (tgt := 6) d_M_behind_29 (by decide) ?_
      exact J.sub [2, 3, 1, 0] rfl (ih l0 l3 x4 x5 h3)
set_option maxRecDepth 20000 in
theorem jc_M_behind (N : Nat) (l0 : Option Nat) (l1 : Int64) (l3 : Int32) (h : Hp) : J p l e R s m args below meth c prog_15_method_35_code 7 "RingingChamberModel" 2 51 (some .long) "behind" D dA B n0 s0 (QM below args s D dA B n0 s0 vL) 0 [(0, vr l0), (1, vl l1), (3, vi l3)] [] h (M_behind N l0 l1 l3 h) := by
  unfold M_behind
  refine j_lload_n d_M_behind_0 1 rfl rfl ?_
  refine j_lstore (lv' := [(4, vl l1), (0, vr l0), (1, vl l1), (3, vi l3)]) d_M_behind_1 (by decide) rfl ?_
  refine j_iconst (v := 0) d_M_behind_3 (by decide) ?_
  refine j_istore (lv' := [(6, vi 0), (4, vl l1), (0, vr l0), (1, vl l1), (3, vi l3)]) d_M_behind_4 (by decide) rfl ?_
  exact J.sub [2, 4, 1, 0] rfl (jc_M_behind_6 N N l0 l3 l1 0 h)
set_option maxRecDepth 20000 in
theorem ct_M_behind (N : Nat) (l : Launch) (D : va_G) (dA : Nat → ClassId) (B : Nat) (l0 : Option Nat) (l1 : Int64) (l3 : Int32) (h : Hp) : Ct l (⟨"RingingChamberModel", "behind", "(JI)J"⟩ : MethodName) prog_15_method_35_code 7 (some .long) 2 51 D dA B [vr l0, vl l1, vi l3] h vL (M_behind N l0 l1 l3 h) :=
  Ct.of2 (own := "RingingChamberModel") (nme := "behind") (lv := [(0, vr l0), (1, vl l1), (3, vi l3)]) rfl rfl (by decide) (Nat.le_of_ble_eq_true rfl) rfl (fun p e R s m args below meth c => jc_M_behind N l0 l1 l3 h)
end
