section
variable {p : Program} {l : Launch} {e : Env} {R : Room} {s : State} {m : MethodId} {args : Array Value} {below : List Frame} {meth : Method} {c : Code} {D : va_G} {dA : Nat → ClassId} {B n0 s0 : Nat}
theorem d_Search_openPlace_0 : decode prog_8_method_8_code 0 = .ok (.aload_n 0, 1) := by decide +kernel
theorem d_Search_openPlace_1 : decode prog_8_method_8_code 1 = .ok (.getfield 42, 3) := by decide +kernel
theorem d_Search_openPlace_4 : decode prog_8_method_8_code 4 = .ok (.aload_n 0, 1) := by decide +kernel
theorem d_Search_openPlace_5 : decode prog_8_method_8_code 5 = .ok (.getfield 93, 3) := by decide +kernel
theorem d_Search_openPlace_8 : decode prog_8_method_8_code 8 = .ok (.iconst (-1), 1) := by decide +kernel
theorem d_Search_openPlace_9 : decode prog_8_method_8_code 9 = .ok (.iastore, 1) := by decide +kernel
theorem d_Search_openPlace_10 : decode prog_8_method_8_code 10 = .ok (.aload_n 0, 1) := by decide +kernel
theorem d_Search_openPlace_11 : decode prog_8_method_8_code 11 = .ok (.getfield 45, 3) := by decide +kernel
theorem d_Search_openPlace_14 : decode prog_8_method_8_code 14 = .ok (.aload_n 0, 1) := by decide +kernel
theorem d_Search_openPlace_15 : decode prog_8_method_8_code 15 = .ok (.getfield 93, 3) := by decide +kernel
theorem d_Search_openPlace_18 : decode prog_8_method_8_code 18 = .ok (.aload_n 0, 1) := by decide +kernel
theorem d_Search_openPlace_19 : decode prog_8_method_8_code 19 = .ok (.getfield 35, 3) := by decide +kernel
theorem d_Search_openPlace_22 : decode prog_8_method_8_code 22 = .ok (.getfield 120, 3) := by decide +kernel
theorem d_Search_openPlace_25 : decode prog_8_method_8_code 25 = .ok (.iastore, 1) := by decide +kernel
theorem d_Search_openPlace_26 : decode prog_8_method_8_code 26 = .ok (.aload_n 0, 1) := by decide +kernel
theorem d_Search_openPlace_27 : decode prog_8_method_8_code 27 = .ok (.aconst_null, 1) := by decide +kernel
theorem d_Search_openPlace_28 : decode prog_8_method_8_code 28 = .ok (.putfield 104, 3) := by decide +kernel
theorem d_Search_openPlace_31 : decode prog_8_method_8_code 31 = .ok (.return_, 1) := by decide +kernel
set_option maxRecDepth 20000 in
theorem jc_Search_openPlace (N : Nat) (l0 : Option Nat) (h : Hp) : J p l e R s m args below meth c prog_8_method_8_code 1 "RingingChamber$Search" 0 0 none "openPlace" D dA B n0 s0 (QM below args s D dA B n0 s0 vU) 0 [(0, vr l0)] [] h (Search_openPlace N l0 h) := by
  unfold Search_openPlace
  refine j_aload_n d_Search_openPlace_0 0 rfl rfl ?_
  refine j_getR d_Search_openPlace_1 fl_5_42.r (fun x1 => ?_)
  refine j_aload_n d_Search_openPlace_4 0 rfl rfl ?_
  refine j_getI d_Search_openPlace_5 fl_5_93.r (fun x2 => ?_)
  refine j_iconst (v := -1) d_Search_openPlace_8 (by decide) ?_
  refine j_iast d_Search_openPlace_9 (fun h3 => ?_)
  refine j_aload_n d_Search_openPlace_10 0 rfl rfl ?_
  refine j_getR d_Search_openPlace_11 fl_5_45.r (fun x4 => ?_)
  refine j_aload_n d_Search_openPlace_14 0 rfl rfl ?_
  refine j_getI d_Search_openPlace_15 fl_5_93.r (fun x5 => ?_)
  refine j_aload_n d_Search_openPlace_18 0 rfl rfl ?_
  refine j_getR d_Search_openPlace_19 fl_5_35.r (fun x6 => ?_)
  refine j_getI d_Search_openPlace_22 fl_5_120.r (fun x7 => ?_)
  refine j_iast d_Search_openPlace_25 (fun h8 => ?_)
  refine j_aload_n d_Search_openPlace_26 0 rfl rfl ?_
  refine j_null d_Search_openPlace_27 ?_
  refine j_putR d_Search_openPlace_28 fl_5_104 (Or.inl rfl) (Or.inl ⟨_, rfl⟩) (fun h9 => ?_)
  exact j_retU d_Search_openPlace_31
set_option maxRecDepth 20000 in
theorem ct_Search_openPlace (N : Nat) (l : Launch) (D : va_G) (dA : Nat → ClassId) (B : Nat) (l0 : Option Nat) (h : Hp) : Ct l (⟨"RingingChamber$Search", "openPlace", "()V"⟩ : MethodName) prog_8_method_8_code 1 none 0 0 D dA B [vr l0] h vU (Search_openPlace N l0 h) :=
  Ct.of2 (own := "RingingChamber$Search") (nme := "openPlace") (lv := [(0, vr l0)]) rfl rfl (by decide) (Nat.le_of_ble_eq_true rfl) rfl (fun p e R s m args below meth c => jc_Search_openPlace N l0 h)
theorem d_Search_begin_0 : decode prog_8_method_3_code 0 = .ok (.aload_n 0, 1) := by decide +kernel
theorem d_Search_begin_1 : decode prog_8_method_3_code 1 = .ok (.iload_n 2, 1) := by decide +kernel
theorem d_Search_begin_2 : decode prog_8_method_3_code 2 = .ok (.putfield 55, 3) := by decide +kernel
theorem d_Search_begin_5 : decode prog_8_method_3_code 5 = .ok (.aload_n 0, 1) := by decide +kernel
theorem d_Search_begin_6 : decode prog_8_method_3_code 6 = .ok (.iload_n 3, 1) := by decide +kernel
theorem d_Search_begin_7 : decode prog_8_method_3_code 7 = .ok (.putfield 58, 3) := by decide +kernel
theorem d_Search_begin_10 : decode prog_8_method_3_code 10 = .ok (.aload_n 0, 1) := by decide +kernel
theorem d_Search_begin_11 : decode prog_8_method_3_code 11 = .ok (.lload 4, 2) := by decide +kernel
theorem d_Search_begin_13 : decode prog_8_method_3_code 13 = .ok (.putfield 61, 3) := by decide +kernel
theorem d_Search_begin_16 : decode prog_8_method_3_code 16 = .ok (.aload_n 0, 1) := by decide +kernel
theorem d_Search_begin_17 : decode prog_8_method_3_code 17 = .ok (.lload 4, 2) := by decide +kernel
theorem d_Search_begin_19 : decode prog_8_method_3_code 19 = .ok (.invokestatic 65, 3) := by decide +kernel
theorem d_Search_begin_22 : decode prog_8_method_3_code 22 = .ok (.putfield 69, 3) := by decide +kernel
theorem d_Search_begin_25 : decode prog_8_method_3_code 25 = .ok (.aload_n 0, 1) := by decide +kernel
theorem d_Search_begin_26 : decode prog_8_method_3_code 26 = .ok (.iload_n 1, 1) := by decide +kernel
theorem d_Search_begin_27 : decode prog_8_method_3_code 27 = .ok (.invokestatic 71, 3) := by decide +kernel
theorem d_Search_begin_30 : decode prog_8_method_3_code 30 = .ok (.putfield 75, 3) := by decide +kernel
theorem d_Search_begin_33 : decode prog_8_method_3_code 33 = .ok (.aload_n 0, 1) := by decide +kernel
theorem d_Search_begin_34 : decode prog_8_method_3_code 34 = .ok (.iconst 0, 1) := by decide +kernel
theorem d_Search_begin_35 : decode prog_8_method_3_code 35 = .ok (.putfield 77, 3) := by decide +kernel
theorem d_Search_begin_38 : decode prog_8_method_3_code 38 = .ok (.aload_n 0, 1) := by decide +kernel
theorem d_Search_begin_39 : decode prog_8_method_3_code 39 = .ok (.getfield 27, 3) := by decide +kernel
theorem d_Search_begin_42 : decode prog_8_method_3_code 42 = .ok (.iconst 0, 1) := by decide +kernel
theorem d_Search_begin_43 : decode prog_8_method_3_code 43 = .ok (.invokestatic 80, 3) := by decide +kernel
theorem d_Search_begin_46 : decode prog_8_method_3_code 46 = .ok (.aload_n 0, 1) := by decide +kernel
theorem d_Search_begin_47 : decode prog_8_method_3_code 47 = .ok (.getfield 35, 3) := by decide +kernel
theorem d_Search_begin_50 : decode prog_8_method_3_code 50 = .ok (.iconst 0, 1) := by decide +kernel
theorem d_Search_begin_51 : decode prog_8_method_3_code 51 = .ok (.invokevirtual 86, 3) := by decide +kernel
theorem d_Search_begin_54 : decode prog_8_method_3_code 54 = .ok (.aload_n 0, 1) := by decide +kernel
theorem d_Search_begin_55 : decode prog_8_method_3_code 55 = .ok (.getfield 35, 3) := by decide +kernel
theorem d_Search_begin_58 : decode prog_8_method_3_code 58 = .ok (.aload_n 0, 1) := by decide +kernel
theorem d_Search_begin_59 : decode prog_8_method_3_code 59 = .ok (.getfield 75, 3) := by decide +kernel
theorem d_Search_begin_62 : decode prog_8_method_3_code 62 = .ok (.invokevirtual 89, 3) := by decide +kernel
theorem d_Search_begin_65 : decode prog_8_method_3_code 65 = .ok (.aload_n 0, 1) := by decide +kernel
theorem d_Search_begin_66 : decode prog_8_method_3_code 66 = .ok (.iconst 0, 1) := by decide +kernel
theorem d_Search_begin_67 : decode prog_8_method_3_code 67 = .ok (.putfield 93, 3) := by decide +kernel
theorem d_Search_begin_70 : decode prog_8_method_3_code 70 = .ok (.aload_n 0, 1) := by decide +kernel
theorem d_Search_begin_71 : decode prog_8_method_3_code 71 = .ok (.invokevirtual 96, 3) := by decide +kernel
theorem d_Search_begin_74 : decode prog_8_method_3_code 74 = .ok (.aload_n 0, 1) := by decide +kernel
theorem d_Search_begin_75 : decode prog_8_method_3_code 75 = .ok (.iconst 2, 1) := by decide +kernel
theorem d_Search_begin_76 : decode prog_8_method_3_code 76 = .ok (.putfield 48, 3) := by decide +kernel
theorem d_Search_begin_79 : decode prog_8_method_3_code 79 = .ok (.aload_n 0, 1) := by decide +kernel
theorem d_Search_begin_80 : decode prog_8_method_3_code 80 = .ok (.iconst 0, 1) := by decide +kernel
theorem d_Search_begin_81 : decode prog_8_method_3_code 81 = .ok (.putfield 52, 3) := by decide +kernel
theorem d_Search_begin_84 : decode prog_8_method_3_code 84 = .ok (.aload_n 0, 1) := by decide +kernel
theorem d_Search_begin_85 : decode prog_8_method_3_code 85 = .ok (.iconst 0, 1) := by decide +kernel
theorem d_Search_begin_86 : decode prog_8_method_3_code 86 = .ok (.putfield 99, 3) := by decide +kernel
theorem d_Search_begin_89 : decode prog_8_method_3_code 89 = .ok (.return_, 1) := by decide +kernel
set_option maxRecDepth 20000 in
theorem jc_Search_begin (N : Nat) (l0 : Option Nat) (l1 : Int32) (l2 : Int32) (l3 : Int32) (l4 : Int64) (h : Hp) : J p l e R s m args below meth c prog_8_method_3_code 6 "RingingChamber$Search" 2 46 none "begin" D dA B n0 s0 (QM below args s D dA B n0 s0 vU) 0 [(0, vr l0), (1, vi l1), (2, vi l2), (3, vi l3), (4, vl l4)] [] h (Search_begin N l0 l1 l2 l3 l4 h) := by
  unfold Search_begin
  refine j_aload_n d_Search_begin_0 0 rfl rfl ?_
  refine j_iload_n d_Search_begin_1 2 rfl rfl ?_
  refine j_putI d_Search_begin_2 fl_5_55 (Or.inl rfl) (fun h1 => ?_)
  refine j_aload_n d_Search_begin_5 0 rfl rfl ?_
  refine j_iload_n d_Search_begin_6 3 rfl rfl ?_
  refine j_putI d_Search_begin_7 fl_5_58 (Or.inl rfl) (fun h2 => ?_)
  refine j_aload_n d_Search_begin_10 0 rfl rfl ?_
  refine j_lload d_Search_begin_11 4 rfl ?_
  refine j_putL d_Search_begin_13 fl_5_61 (Or.inl rfl) (fun h3 => ?_)
  refine j_aload_n d_Search_begin_16 0 rfl rfl ?_
  refine j_lload d_Search_begin_17 4 rfl ?_
  refine j_cSL1 d_Search_begin_19 sl_5_65 ks_Rows_toldDigits (ct_Rows_toldDigits N l D dA B l4 h3) (by decide) (by decide) (Nat.le_of_ble_eq_true rfl) (fun x5 h4 => ?_)
  refine j_putL d_Search_begin_22 fl_5_69 (Or.inl rfl) (fun h6 => ?_)
  refine j_aload_n d_Search_begin_25 0 rfl rfl ?_
  refine j_iload_n d_Search_begin_26 1 rfl rfl ?_
  refine j_cSL1 d_Search_begin_27 sl_5_71 ks_Rows_rounds (ct_Rows_rounds N l D dA B l1 h6) (by decide) (by decide) (Nat.le_of_ble_eq_true rfl) (fun x8 h7 => ?_)
  refine j_putL d_Search_begin_30 fl_5_75 (Or.inl rfl) (fun h9 => ?_)
  refine j_aload_n d_Search_begin_33 0 rfl rfl ?_
  refine j_iconst (v := 0) d_Search_begin_34 (by decide) ?_
  refine j_putI d_Search_begin_35 fl_5_77 (Or.inl rfl) (fun h10 => ?_)
  refine j_aload_n d_Search_begin_38 0 rfl rfl ?_
  refine j_getR d_Search_begin_39 fl_5_27.r (fun x11 => ?_)
  refine j_iconst (v := 0) d_Search_begin_42 (by decide) ?_
  refine j_cSU2 d_Search_begin_43 sl_5_80 ks_Jk_fill (ct_Jk_fill N l D dA B x11 0 h10) (by decide) (by decide) (Nat.le_of_ble_eq_true rfl) (fun _ h12 => ?_)
  refine j_aload_n d_Search_begin_46 0 rfl rfl ?_
  refine j_getR d_Search_begin_47 fl_5_35.r (fun x13 => ?_)
  refine j_iconst (v := 0) d_Search_begin_50 (by decide) ?_
  refine j_vU1 d_Search_begin_51 (allQ.cons (VD.mk vt_5_86_4 (ct_Rows_keepFirst N l D dA B x13 0 h12) (by decide) (by decide)) allQ.nil) (Nat.le_of_ble_eq_true rfl) (fun _ h14 => ?_)
  refine j_aload_n d_Search_begin_54 0 rfl rfl ?_
  refine j_getR d_Search_begin_55 fl_5_35.r (fun x15 => ?_)
  refine j_aload_n d_Search_begin_58 0 rfl rfl ?_
  refine j_getL d_Search_begin_59 fl_5_75.r (fun x16 => ?_)
  refine j_vU1 d_Search_begin_62 (allQ.cons (VD.mk vt_5_89_4 (ct_Rows_add N l D dA B x15 x16 h14) (by decide) (by decide)) allQ.nil) (Nat.le_of_ble_eq_true rfl) (fun _ h17 => ?_)
  refine j_aload_n d_Search_begin_65 0 rfl rfl ?_
  refine j_iconst (v := 0) d_Search_begin_66 (by decide) ?_
  refine j_putI d_Search_begin_67 fl_5_93 (Or.inl rfl) (fun h18 => ?_)
  refine j_aload_n d_Search_begin_70 0 rfl rfl ?_
  refine j_vU0 d_Search_begin_71 (allQ.cons (VD.mk vt_5_96_5 (ct_Search_openPlace N l D dA B l0 h18) (by decide) (by decide)) allQ.nil) (Nat.le_of_ble_eq_true rfl) (fun _ h19 => ?_)
  refine j_aload_n d_Search_begin_74 0 rfl rfl ?_
  refine j_iconst (v := 2) d_Search_begin_75 (by decide) ?_
  refine j_putI d_Search_begin_76 fl_5_48 (Or.inl rfl) (fun h20 => ?_)
  refine j_aload_n d_Search_begin_79 0 rfl rfl ?_
  refine j_iconst (v := 0) d_Search_begin_80 (by decide) ?_
  refine j_putI d_Search_begin_81 fl_5_52 (Or.inl rfl) (fun h21 => ?_)
  refine j_aload_n d_Search_begin_84 0 rfl rfl ?_
  refine j_iconst (v := 0) d_Search_begin_85 (by decide) ?_
  refine j_putZ d_Search_begin_86 fl_5_99 (Or.inl rfl) (fun h22 => ?_)
  exact j_retU d_Search_begin_89
set_option maxRecDepth 20000 in
theorem ct_Search_begin (N : Nat) (l : Launch) (D : va_G) (dA : Nat → ClassId) (B : Nat) (l0 : Option Nat) (l1 : Int32) (l2 : Int32) (l3 : Int32) (l4 : Int64) (h : Hp) : Ct l (⟨"RingingChamber$Search", "begin", "(IIIJ)V"⟩ : MethodName) prog_8_method_3_code 6 none 2 46 D dA B [vr l0, vi l1, vi l2, vi l3, vl l4] h vU (Search_begin N l0 l1 l2 l3 l4 h) :=
  Ct.of2 (own := "RingingChamber$Search") (nme := "begin") (lv := [(0, vr l0), (1, vi l1), (2, vi l2), (3, vi l3), (4, vl l4)]) rfl rfl (by decide) (Nat.le_of_ble_eq_true rfl) rfl (fun p e R s m args below meth c => jc_Search_begin N l0 l1 l2 l3 l4 h)
theorem d_Search_offer_0 : decode prog_8_method_4_code 0 = .ok (.aload_n 0, 1) := by decide +kernel
theorem d_Search_offer_1 : decode prog_8_method_4_code 1 = .ok (.getfield 77, 3) := by decide +kernel
theorem d_Search_offer_4 : decode prog_8_method_4_code 4 = .ok (.bipush 90, 2) := by decide +kernel
theorem d_Search_offer_6 : decode prog_8_method_4_code 6 = .ok (.if_icmp .ge 33, 3) := by decide +kernel
theorem d_Search_offer_9 : decode prog_8_method_4_code 9 = .ok (.aload_n 0, 1) := by decide +kernel
theorem d_Search_offer_10 : decode prog_8_method_4_code 10 = .ok (.getfield 11, 3) := by decide +kernel
theorem d_Search_offer_13 : decode prog_8_method_4_code 13 = .ok (.aload_n 0, 1) := by decide +kernel
theorem d_Search_offer_14 : decode prog_8_method_4_code 14 = .ok (.getfield 77, 3) := by decide +kernel
theorem d_Search_offer_17 : decode prog_8_method_4_code 17 = .ok (.iload_n 2, 1) := by decide +kernel
theorem d_Search_offer_18 : decode prog_8_method_4_code 18 = .ok (.iastore, 1) := by decide +kernel
theorem d_Search_offer_19 : decode prog_8_method_4_code 19 = .ok (.aload_n 0, 1) := by decide +kernel
theorem d_Search_offer_20 : decode prog_8_method_4_code 20 = .ok (.getfield 17, 3) := by decide +kernel
theorem d_Search_offer_23 : decode prog_8_method_4_code 23 = .ok (.aload_n 0, 1) := by decide +kernel
theorem d_Search_offer_24 : decode prog_8_method_4_code 24 = .ok (.getfield 77, 3) := by decide +kernel
theorem d_Search_offer_27 : decode prog_8_method_4_code 27 = .ok (.aload_n 1, 1) := by decide +kernel
theorem d_Search_offer_28 : decode prog_8_method_4_code 28 = .ok (.aastore, 1) := by decide +kernel
theorem d_Search_offer_29 : decode prog_8_method_4_code 29 = .ok (.aload_n 0, 1) := by decide +kernel
theorem d_Search_offer_30 : decode prog_8_method_4_code 30 = .ok (.dup, 1) := by decide +kernel
theorem d_Search_offer_31 : decode prog_8_method_4_code 31 = .ok (.getfield 77, 3) := by decide +kernel
theorem d_Search_offer_34 : decode prog_8_method_4_code 34 = .ok (.iconst 1, 1) := by decide +kernel
theorem d_Search_offer_35 : decode prog_8_method_4_code 35 = .ok (.iadd, 1) := by decide +kernel
theorem d_Search_offer_36 : decode prog_8_method_4_code 36 = .ok (.putfield 77, 3) := by decide +kernel
theorem d_Search_offer_39 : decode prog_8_method_4_code 39 = .ok (.return_, 1) := by decide +kernel
set_option maxRecDepth 20000 in
theorem jc_Search_offer (N : Nat) (l0 : Option Nat) (l1 : Option Nat) (l2 : Int32) (h : Hp) : J p l e R s m args below meth c prog_8_method_4_code 3 "RingingChamber$Search" 0 0 none "offer" D dA B n0 s0 (QM below args s D dA B n0 s0 vU) 0 [(0, vr l0), (1, vr l1), (2, vi l2)] [] h (Search_offer N l0 l1 l2 h) := by
  unfold Search_offer
  refine j_aload_n d_Search_offer_0 0 rfl rfl ?_
  refine j_getI d_Search_offer_1 fl_5_77.r (fun x1 => ?_)
  refine j_bipush (v := 90) d_Search_offer_4 (by decide) ?_
  refine j_icmp_ge (tgt := 39) d_Search_offer_6 (by decide) ?_ ?_
  · exact j_retU d_Search_offer_39
  · refine j_aload_n d_Search_offer_9 0 rfl rfl ?_
    refine j_getR d_Search_offer_10 fl_5_11.r (fun x2 => ?_)
    refine j_aload_n d_Search_offer_13 0 rfl rfl ?_
    refine j_getI d_Search_offer_14 fl_5_77.r (fun x3 => ?_)
    refine j_iload_n d_Search_offer_17 2 rfl rfl ?_
    refine j_iast d_Search_offer_18 (fun h4 => ?_)
    refine j_aload_n d_Search_offer_19 0 rfl rfl ?_
    refine j_getR d_Search_offer_20 fl_5_17.r (fun x5 => ?_)
    refine j_aload_n d_Search_offer_23 0 rfl rfl ?_
    refine j_getI d_Search_offer_24 fl_5_77.r (fun x6 => ?_)
    refine j_aload_n d_Search_offer_27 1 rfl rfl ?_
    refine j_ast18 d_Search_offer_28 (fun h7 => ?_)
    refine j_aload_n d_Search_offer_29 0 rfl rfl ?_
    refine j_dup d_Search_offer_30 rfl ?_
    refine j_getI d_Search_offer_31 fl_5_77.r (fun x8 => ?_)
    refine j_iconst (v := 1) d_Search_offer_34 (by decide) ?_
    refine j_iadd d_Search_offer_35 ?_
    refine j_putI d_Search_offer_36 fl_5_77 (Or.inl rfl) (fun h9 => ?_)
    exact j_retU d_Search_offer_39
set_option maxRecDepth 20000 in
theorem ct_Search_offer (N : Nat) (l : Launch) (D : va_G) (dA : Nat → ClassId) (B : Nat) (l0 : Option Nat) (l1 : Option Nat) (l2 : Int32) (h : Hp) : Ct l (⟨"RingingChamber$Search", "offer", "(LRingingChamber$Method;I)V"⟩ : MethodName) prog_8_method_4_code 3 none 0 0 D dA B [vr l0, vr l1, vi l2] h vU (Search_offer N l0 l1 l2 h) :=
  Ct.of2 (own := "RingingChamber$Search") (nme := "offer") (lv := [(0, vr l0), (1, vr l1), (2, vi l2)]) rfl rfl (by decide) (Nat.le_of_ble_eq_true rfl) rfl (fun p e R s m args below meth c => jc_Search_offer N l0 l1 l2 h)
theorem d_Search_isThere_0 : decode prog_8_method_5_code 0 = .ok (.aload_n 0, 1) := by decide +kernel
theorem d_Search_isThere_1 : decode prog_8_method_5_code 1 = .ok (.getfield 48, 3) := by decide +kernel
theorem d_Search_isThere_4 : decode prog_8_method_5_code 4 = .ok (.iconst (-1), 1) := by decide +kernel
theorem d_Search_isThere_5 : decode prog_8_method_5_code 5 = .ok (.if_icmp .eq 7, 3) := by decide +kernel
theorem d_Search_isThere_8 : decode prog_8_method_5_code 8 = .ok (.iconst 1, 1) := by decide +kernel
theorem d_Search_isThere_9 : decode prog_8_method_5_code 9 = .ok (.goto 4, 3) := by decide +kernel
theorem d_Search_isThere_12 : decode prog_8_method_5_code 12 = .ok (.iconst 0, 1) := by decide +kernel
theorem d_Search_isThere_13 : decode prog_8_method_5_code 13 = .ok (.ireturn, 1) := by decide +kernel
set_option maxRecDepth 20000 in
theorem jc_Search_isThere (N : Nat) (l0 : Option Nat) (h : Hp) : J p l e R s m args below meth c prog_8_method_5_code 1 "RingingChamber$Search" 0 0 (some .boolean) "isThere" D dA B n0 s0 (QM below args s D dA B n0 s0 vI) 0 [(0, vr l0)] [] h (Search_isThere N l0 h) := by
  unfold Search_isThere
  refine j_aload_n d_Search_isThere_0 0 rfl rfl ?_
  refine j_getI d_Search_isThere_1 fl_5_48.r (fun x1 => ?_)
  refine j_iconst (v := -1) d_Search_isThere_4 (by decide) ?_
  refine j_icmp_eq (tgt := 12) d_Search_isThere_5 (by decide) ?_ ?_
  · refine j_iconst (v := 0) d_Search_isThere_12 (by decide) ?_
    exact j_retZ d_Search_isThere_13
  · refine j_iconst (v := 1) d_Search_isThere_8 (by decide) ?_
    refine j_goto (tgt := 13) d_Search_isThere_9 (by decide) ?_
    exact j_retZ d_Search_isThere_13
set_option maxRecDepth 20000 in
theorem ct_Search_isThere (N : Nat) (l : Launch) (D : va_G) (dA : Nat → ClassId) (B : Nat) (l0 : Option Nat) (h : Hp) : Ct l (⟨"RingingChamber$Search", "isThere", "()Z"⟩ : MethodName) prog_8_method_5_code 1 (some .boolean) 0 0 D dA B [vr l0] h vI (Search_isThere N l0 h) :=
  Ct.of2 (own := "RingingChamber$Search") (nme := "isThere") (lv := [(0, vr l0)]) rfl rfl (by decide) (Nat.le_of_ble_eq_true rfl) rfl (fun p e R s m args below meth c => jc_Search_isThere N l0 h)
theorem d_Search_itemFound_0 : decode prog_8_method_6_code 0 = .ok (.aload_n 0, 1) := by decide +kernel
theorem d_Search_itemFound_1 : decode prog_8_method_6_code 1 = .ok (.getfield 48, 3) := by decide +kernel
theorem d_Search_itemFound_4 : decode prog_8_method_6_code 4 = .ok (.iconst 1, 1) := by decide +kernel
theorem d_Search_itemFound_5 : decode prog_8_method_6_code 5 = .ok (.if_icmp .ne 15, 3) := by decide +kernel
theorem d_Search_itemFound_8 : decode prog_8_method_6_code 8 = .ok (.iload_n 1, 1) := by decide +kernel
theorem d_Search_itemFound_9 : decode prog_8_method_6_code 9 = .ok (.ifCond .lt 11, 3) := by decide +kernel
theorem d_Search_itemFound_12 : decode prog_8_method_6_code 12 = .ok (.iload_n 1, 1) := by decide +kernel
theorem d_Search_itemFound_13 : decode prog_8_method_6_code 13 = .ok (.aload_n 0, 1) := by decide +kernel
theorem d_Search_itemFound_14 : decode prog_8_method_6_code 14 = .ok (.getfield 55, 3) := by decide +kernel
theorem d_Search_itemFound_17 : decode prog_8_method_6_code 17 = .ok (.if_icmp .lt 7, 3) := by decide +kernel
theorem d_Search_itemFound_20 : decode prog_8_method_6_code 20 = .ok (.iconst (-1), 1) := by decide +kernel
theorem d_Search_itemFound_21 : decode prog_8_method_6_code 21 = .ok (.goto 14, 3) := by decide +kernel
theorem d_Search_itemFound_24 : decode prog_8_method_6_code 24 = .ok (.aload_n 0, 1) := by decide +kernel
theorem d_Search_itemFound_25 : decode prog_8_method_6_code 25 = .ok (.getfield 11, 3) := by decide +kernel
theorem d_Search_itemFound_28 : decode prog_8_method_6_code 28 = .ok (.aload_n 0, 1) := by decide +kernel
theorem d_Search_itemFound_29 : decode prog_8_method_6_code 29 = .ok (.getfield 42, 3) := by decide +kernel
theorem d_Search_itemFound_32 : decode prog_8_method_6_code 32 = .ok (.iload_n 1, 1) := by decide +kernel
theorem d_Search_itemFound_33 : decode prog_8_method_6_code 33 = .ok (.iaload, 1) := by decide +kernel
theorem d_Search_itemFound_34 : decode prog_8_method_6_code 34 = .ok (.iaload, 1) := by decide +kernel
theorem d_Search_itemFound_35 : decode prog_8_method_6_code 35 = .ok (.ireturn, 1) := by decide +kernel
set_option maxRecDepth 20000 in
theorem jc_Search_itemFound_20 (N : Nat)  (h : Hp) : J p l e R s m args below meth c prog_8_method_6_code 2 "RingingChamber$Search" 0 0 (some .int) "itemFound" D dA B n0 s0 (QM below args s D dA B n0 s0 vI) 20 [] [] h (Search_itemFound_20 N  h) := by
  unfold Search_itemFound_20
  refine j_iconst (v := -1) d_Search_itemFound_20 (by decide) ?_
  refine j_goto (tgt := 35) d_Search_itemFound_21 (by decide) ?_
  exact j_retI d_Search_itemFound_35
set_option maxRecDepth 20000 in
theorem jc_Search_itemFound (N : Nat) (l0 : Option Nat) (l1 : Int32) (h : Hp) : J p l e R s m args below meth c prog_8_method_6_code 2 "RingingChamber$Search" 0 0 (some .int) "itemFound" D dA B n0 s0 (QM below args s D dA B n0 s0 vI) 0 [(0, vr l0), (1, vi l1)] [] h (Search_itemFound N l0 l1 h) := by
  unfold Search_itemFound
  refine j_aload_n d_Search_itemFound_0 0 rfl rfl ?_
  refine j_getI d_Search_itemFound_1 fl_5_48.r (fun x1 => ?_)
  refine j_iconst (v := 1) d_Search_itemFound_4 (by decide) ?_
  refine j_icmp_ne (tgt := 20) d_Search_itemFound_5 (by decide) ?_ ?_
  · refine j_iload_n d_Search_itemFound_8 1 rfl rfl ?_
    refine j_if_lt (tgt := 20) d_Search_itemFound_9 (by decide) ?_ ?_
    · exact J.sub [] rfl (jc_Search_itemFound_20 N  h)
    · refine j_iload_n d_Search_itemFound_12 1 rfl rfl ?_
      refine j_aload_n d_Search_itemFound_13 0 rfl rfl ?_
      refine j_getI d_Search_itemFound_14 fl_5_55.r (fun x2 => ?_)
      refine j_icmp_lt (tgt := 24) d_Search_itemFound_17 (by decide) ?_ ?_
      · refine j_aload_n d_Search_itemFound_24 0 rfl rfl ?_
        refine j_getR d_Search_itemFound_25 fl_5_11.r (fun x3 => ?_)
        refine j_aload_n d_Search_itemFound_28 0 rfl rfl ?_
        refine j_getR d_Search_itemFound_29 fl_5_42.r (fun x4 => ?_)
        refine j_iload_n d_Search_itemFound_32 1 rfl rfl ?_
        refine j_iald d_Search_itemFound_33 (fun x5 => ?_)
        refine j_iald d_Search_itemFound_34 (fun x6 => ?_)
        exact j_retI d_Search_itemFound_35
      · exact J.sub [] rfl (jc_Search_itemFound_20 N  h)
  · exact J.sub [] rfl (jc_Search_itemFound_20 N  h)
set_option maxRecDepth 20000 in
theorem ct_Search_itemFound (N : Nat) (l : Launch) (D : va_G) (dA : Nat → ClassId) (B : Nat) (l0 : Option Nat) (l1 : Int32) (h : Hp) : Ct l (⟨"RingingChamber$Search", "itemFound", "(I)I"⟩ : MethodName) prog_8_method_6_code 2 (some .int) 0 0 D dA B [vr l0, vi l1] h vI (Search_itemFound N l0 l1 h) :=
  Ct.of2 (own := "RingingChamber$Search") (nme := "itemFound") (lv := [(0, vr l0), (1, vi l1)]) rfl rfl (by decide) (Nat.le_of_ble_eq_true rfl) rfl (fun p e R s m args below meth c => jc_Search_itemFound N l0 l1 h)
theorem d_Search_leaveItem_0 : decode prog_8_method_10_code 0 = .ok (.aload_n 0, 1) := by decide +kernel
theorem d_Search_leaveItem_1 : decode prog_8_method_10_code 1 = .ok (.getfield 35, 3) := by decide +kernel
theorem d_Search_leaveItem_4 : decode prog_8_method_10_code 4 = .ok (.aload_n 0, 1) := by decide +kernel
theorem d_Search_leaveItem_5 : decode prog_8_method_10_code 5 = .ok (.getfield 45, 3) := by decide +kernel
theorem d_Search_leaveItem_8 : decode prog_8_method_10_code 8 = .ok (.aload_n 0, 1) := by decide +kernel
theorem d_Search_leaveItem_9 : decode prog_8_method_10_code 9 = .ok (.getfield 93, 3) := by decide +kernel
theorem d_Search_leaveItem_12 : decode prog_8_method_10_code 12 = .ok (.iaload, 1) := by decide +kernel
theorem d_Search_leaveItem_13 : decode prog_8_method_10_code 13 = .ok (.invokevirtual 86, 3) := by decide +kernel
theorem d_Search_leaveItem_16 : decode prog_8_method_10_code 16 = .ok (.aload_n 0, 1) := by decide +kernel
theorem d_Search_leaveItem_17 : decode prog_8_method_10_code 17 = .ok (.aconst_null, 1) := by decide +kernel
theorem d_Search_leaveItem_18 : decode prog_8_method_10_code 18 = .ok (.putfield 104, 3) := by decide +kernel
theorem d_Search_leaveItem_21 : decode prog_8_method_10_code 21 = .ok (.return_, 1) := by decide +kernel
set_option maxRecDepth 20000 in
theorem jc_Search_leaveItem (N : Nat) (l0 : Option Nat) (h : Hp) : J p l e R s m args below meth c prog_8_method_10_code 1 "RingingChamber$Search" 2 42 none "leaveItem" D dA B n0 s0 (QM below args s D dA B n0 s0 vU) 0 [(0, vr l0)] [] h (Search_leaveItem N l0 h) := by
  unfold Search_leaveItem
  refine j_aload_n d_Search_leaveItem_0 0 rfl rfl ?_
  refine j_getR d_Search_leaveItem_1 fl_5_35.r (fun x1 => ?_)
  refine j_aload_n d_Search_leaveItem_4 0 rfl rfl ?_
  refine j_getR d_Search_leaveItem_5 fl_5_45.r (fun x2 => ?_)
  refine j_aload_n d_Search_leaveItem_8 0 rfl rfl ?_
  refine j_getI d_Search_leaveItem_9 fl_5_93.r (fun x3 => ?_)
  refine j_iald d_Search_leaveItem_12 (fun x4 => ?_)
  refine j_vU1 d_Search_leaveItem_13 (allQ.cons (VD.mk vt_5_86_4 (ct_Rows_keepFirst N l D dA B x1 x4 h) (by decide) (by decide)) allQ.nil) (Nat.le_of_ble_eq_true rfl) (fun _ h5 => ?_)
  refine j_aload_n d_Search_leaveItem_16 0 rfl rfl ?_
  refine j_null d_Search_leaveItem_17 ?_
  refine j_putR d_Search_leaveItem_18 fl_5_104 (Or.inl rfl) (Or.inl ⟨_, rfl⟩) (fun h6 => ?_)
  exact j_retU d_Search_leaveItem_21
set_option maxRecDepth 20000 in
theorem ct_Search_leaveItem (N : Nat) (l : Launch) (D : va_G) (dA : Nat → ClassId) (B : Nat) (l0 : Option Nat) (h : Hp) : Ct l (⟨"RingingChamber$Search", "leaveItem", "()V"⟩ : MethodName) prog_8_method_10_code 1 none 2 42 D dA B [vr l0] h vU (Search_leaveItem N l0 h) :=
  Ct.of2 (own := "RingingChamber$Search") (nme := "leaveItem") (lv := [(0, vr l0)]) rfl rfl (by decide) (Nat.le_of_ble_eq_true rfl) rfl (fun p e R s m args below meth c => jc_Search_leaveItem N l0 h)
theorem d_Search_ringRow_0 : decode prog_8_method_12_code 0 = .ok (.aload_n 0, 1) := by decide +kernel
theorem d_Search_ringRow_1 : decode prog_8_method_12_code 1 = .ok (.getfield 35, 3) := by decide +kernel
theorem d_Search_ringRow_4 : decode prog_8_method_12_code 4 = .ok (.getfield 120, 3) := by decide +kernel
theorem d_Search_ringRow_7 : decode prog_8_method_12_code 7 = .ok (.istore_n 2, 1) := by decide +kernel
theorem d_Search_ringRow_8 : decode prog_8_method_12_code 8 = .ok (.aload_n 0, 1) := by decide +kernel
theorem d_Search_ringRow_9 : decode prog_8_method_12_code 9 = .ok (.getfield 35, 3) := by decide +kernel
theorem d_Search_ringRow_12 : decode prog_8_method_12_code 12 = .ok (.iload_n 2, 1) := by decide +kernel
theorem d_Search_ringRow_13 : decode prog_8_method_12_code 13 = .ok (.iconst 1, 1) := by decide +kernel
theorem d_Search_ringRow_14 : decode prog_8_method_12_code 14 = .ok (.isub, 1) := by decide +kernel
theorem d_Search_ringRow_15 : decode prog_8_method_12_code 15 = .ok (.invokevirtual 135, 3) := by decide +kernel
theorem d_Search_ringRow_18 : decode prog_8_method_12_code 18 = .ok (.aload_n 1, 1) := by decide +kernel
theorem d_Search_ringRow_19 : decode prog_8_method_12_code 19 = .ok (.getfield 138, 3) := by decide +kernel
theorem d_Search_ringRow_22 : decode prog_8_method_12_code 22 = .ok (.aload_n 0, 1) := by decide +kernel
theorem d_Search_ringRow_23 : decode prog_8_method_12_code 23 = .ok (.getfield 132, 3) := by decide +kernel
theorem d_Search_ringRow_26 : decode prog_8_method_12_code 26 = .ok (.iaload, 1) := by decide +kernel
theorem d_Search_ringRow_27 : decode prog_8_method_12_code 27 = .ok (.invokestatic 141, 3) := by decide +kernel
theorem d_Search_ringRow_30 : decode prog_8_method_12_code 30 = .ok (.lstore_n 3, 1) := by decide +kernel
theorem d_Search_ringRow_31 : decode prog_8_method_12_code 31 = .ok (.aload_n 0, 1) := by decide +kernel
theorem d_Search_ringRow_32 : decode prog_8_method_12_code 32 = .ok (.dup, 1) := by decide +kernel
theorem d_Search_ringRow_33 : decode prog_8_method_12_code 33 = .ok (.getfield 132, 3) := by decide +kernel
theorem d_Search_ringRow_36 : decode prog_8_method_12_code 36 = .ok (.iconst 1, 1) := by decide +kernel
theorem d_Search_ringRow_37 : decode prog_8_method_12_code 37 = .ok (.iadd, 1) := by decide +kernel
theorem d_Search_ringRow_38 : decode prog_8_method_12_code 38 = .ok (.putfield 132, 3) := by decide +kernel
theorem d_Search_ringRow_41 : decode prog_8_method_12_code 41 = .ok (.aload_n 0, 1) := by decide +kernel
theorem d_Search_ringRow_42 : decode prog_8_method_12_code 42 = .ok (.dup, 1) := by decide +kernel
theorem d_Search_ringRow_43 : decode prog_8_method_12_code 43 = .ok (.getfield 52, 3) := by decide +kernel
theorem d_Search_ringRow_46 : decode prog_8_method_12_code 46 = .ok (.iconst 1, 1) := by decide +kernel
theorem d_Search_ringRow_47 : decode prog_8_method_12_code 47 = .ok (.iadd, 1) := by decide +kernel
theorem d_Search_ringRow_48 : decode prog_8_method_12_code 48 = .ok (.putfield 52, 3) := by decide +kernel
theorem d_Search_ringRow_51 : decode prog_8_method_12_code 51 = .ok (.aload_n 0, 1) := by decide +kernel
theorem d_Search_ringRow_52 : decode prog_8_method_12_code 52 = .ok (.getfield 39, 3) := by decide +kernel
theorem d_Search_ringRow_55 : decode prog_8_method_12_code 55 = .ok (.iload_n 2, 1) := by decide +kernel
theorem d_Search_ringRow_56 : decode prog_8_method_12_code 56 = .ok (.iconst 1, 1) := by decide +kernel
theorem d_Search_ringRow_57 : decode prog_8_method_12_code 57 = .ok (.isub, 1) := by decide +kernel
theorem d_Search_ringRow_58 : decode prog_8_method_12_code 58 = .ok (.iaload, 1) := by decide +kernel
theorem d_Search_ringRow_59 : decode prog_8_method_12_code 59 = .ok (.lload_n 3, 1) := by decide +kernel
theorem d_Search_ringRow_60 : decode prog_8_method_12_code 60 = .ok (.aload_n 0, 1) := by decide +kernel
theorem d_Search_ringRow_61 : decode prog_8_method_12_code 61 = .ok (.getfield 69, 3) := by decide +kernel
theorem d_Search_ringRow_64 : decode prog_8_method_12_code 64 = .ok (.land, 1) := by decide +kernel
theorem d_Search_ringRow_65 : decode prog_8_method_12_code 65 = .ok (.aload_n 0, 1) := by decide +kernel
theorem d_Search_ringRow_66 : decode prog_8_method_12_code 66 = .ok (.getfield 61, 3) := by decide +kernel
theorem d_Search_ringRow_69 : decode prog_8_method_12_code 69 = .ok (.lcmp, 1) := by decide +kernel
theorem d_Search_ringRow_70 : decode prog_8_method_12_code 70 = .ok (.ifCond .ne 7, 3) := by decide +kernel
theorem d_Search_ringRow_73 : decode prog_8_method_12_code 73 = .ok (.iconst 1, 1) := by decide +kernel
theorem d_Search_ringRow_74 : decode prog_8_method_12_code 74 = .ok (.goto 4, 3) := by decide +kernel
theorem d_Search_ringRow_77 : decode prog_8_method_12_code 77 = .ok (.iconst 0, 1) := by decide +kernel
theorem d_Search_ringRow_78 : decode prog_8_method_12_code 78 = .ok (.iadd, 1) := by decide +kernel
theorem d_Search_ringRow_79 : decode prog_8_method_12_code 79 = .ok (.istore 5, 2) := by decide +kernel
theorem d_Search_ringRow_81 : decode prog_8_method_12_code 81 = .ok (.aload_n 0, 1) := by decide +kernel
theorem d_Search_ringRow_82 : decode prog_8_method_12_code 82 = .ok (.getfield 132, 3) := by decide +kernel
theorem d_Search_ringRow_85 : decode prog_8_method_12_code 85 = .ok (.aload_n 1, 1) := by decide +kernel
theorem d_Search_ringRow_86 : decode prog_8_method_12_code 86 = .ok (.getfield 131, 3) := by decide +kernel
theorem d_Search_ringRow_89 : decode prog_8_method_12_code 89 = .ok (.if_icmp .lt 7, 3) := by decide +kernel
theorem d_Search_ringRow_92 : decode prog_8_method_12_code 92 = .ok (.iconst 1, 1) := by decide +kernel
theorem d_Search_ringRow_93 : decode prog_8_method_12_code 93 = .ok (.goto 4, 3) := by decide +kernel
theorem d_Search_ringRow_96 : decode prog_8_method_12_code 96 = .ok (.iconst 0, 1) := by decide +kernel
theorem d_Search_ringRow_97 : decode prog_8_method_12_code 97 = .ok (.istore 6, 2) := by decide +kernel
theorem d_Search_ringRow_99 : decode prog_8_method_12_code 99 = .ok (.iload 6, 2) := by decide +kernel
theorem d_Search_ringRow_101 : decode prog_8_method_12_code 101 = .ok (.ifCond .eq 20, 3) := by decide +kernel
theorem d_Search_ringRow_104 : decode prog_8_method_12_code 104 = .ok (.aload_n 0, 1) := by decide +kernel
theorem d_Search_ringRow_105 : decode prog_8_method_12_code 105 = .ok (.getfield 93, 3) := by decide +kernel
theorem d_Search_ringRow_108 : decode prog_8_method_12_code 108 = .ok (.aload_n 0, 1) := by decide +kernel
theorem d_Search_ringRow_109 : decode prog_8_method_12_code 109 = .ok (.getfield 55, 3) := by decide +kernel
theorem d_Search_ringRow_112 : decode prog_8_method_12_code 112 = .ok (.iconst 1, 1) := by decide +kernel
theorem d_Search_ringRow_113 : decode prog_8_method_12_code 113 = .ok (.isub, 1) := by decide +kernel
theorem d_Search_ringRow_114 : decode prog_8_method_12_code 114 = .ok (.if_icmp .ne 7, 3) := by decide +kernel
theorem d_Search_ringRow_117 : decode prog_8_method_12_code 117 = .ok (.iconst 1, 1) := by decide +kernel
theorem d_Search_ringRow_118 : decode prog_8_method_12_code 118 = .ok (.goto 4, 3) := by decide +kernel
theorem d_Search_ringRow_121 : decode prog_8_method_12_code 121 = .ok (.iconst 0, 1) := by decide +kernel
theorem d_Search_ringRow_122 : decode prog_8_method_12_code 122 = .ok (.istore 7, 2) := by decide +kernel
theorem d_Search_ringRow_124 : decode prog_8_method_12_code 124 = .ok (.iload 7, 2) := by decide +kernel
theorem d_Search_ringRow_126 : decode prog_8_method_12_code 126 = .ok (.ifCond .eq 29, 3) := by decide +kernel
theorem d_Search_ringRow_129 : decode prog_8_method_12_code 129 = .ok (.lload_n 3, 1) := by decide +kernel
theorem d_Search_ringRow_130 : decode prog_8_method_12_code 130 = .ok (.aload_n 0, 1) := by decide +kernel
theorem d_Search_ringRow_131 : decode prog_8_method_12_code 131 = .ok (.getfield 75, 3) := by decide +kernel
theorem d_Search_ringRow_134 : decode prog_8_method_12_code 134 = .ok (.lcmp, 1) := by decide +kernel
theorem d_Search_ringRow_135 : decode prog_8_method_12_code 135 = .ok (.ifCond .ne 20, 3) := by decide +kernel
theorem d_Search_ringRow_138 : decode prog_8_method_12_code 138 = .ok (.iload 5, 2) := by decide +kernel
theorem d_Search_ringRow_140 : decode prog_8_method_12_code 140 = .ok (.aload_n 0, 1) := by decide +kernel
theorem d_Search_ringRow_141 : decode prog_8_method_12_code 141 = .ok (.getfield 58, 3) := by decide +kernel
theorem d_Search_ringRow_144 : decode prog_8_method_12_code 144 = .ok (.if_icmp .lt 11, 3) := by decide +kernel
theorem d_Search_ringRow_147 : decode prog_8_method_12_code 147 = .ok (.aload_n 0, 1) := by decide +kernel
theorem d_Search_ringRow_148 : decode prog_8_method_12_code 148 = .ok (.iconst 1, 1) := by decide +kernel
theorem d_Search_ringRow_149 : decode prog_8_method_12_code 149 = .ok (.putfield 48, 3) := by decide +kernel
theorem d_Search_ringRow_152 : decode prog_8_method_12_code 152 = .ok (.goto 61, 3) := by decide +kernel
theorem d_Search_ringRow_155 : decode prog_8_method_12_code 155 = .ok (.iload 7, 2) := by decide +kernel
theorem d_Search_ringRow_157 : decode prog_8_method_12_code 157 = .ok (.ifCond .ne 14, 3) := by decide +kernel
theorem d_Search_ringRow_160 : decode prog_8_method_12_code 160 = .ok (.aload_n 0, 1) := by decide +kernel
theorem d_Search_ringRow_161 : decode prog_8_method_12_code 161 = .ok (.getfield 35, 3) := by decide +kernel
theorem d_Search_ringRow_164 : decode prog_8_method_12_code 164 = .ok (.lload_n 3, 1) := by decide +kernel
theorem d_Search_ringRow_165 : decode prog_8_method_12_code 165 = .ok (.invokevirtual 145, 3) := by decide +kernel
theorem d_Search_ringRow_168 : decode prog_8_method_12_code 168 = .ok (.ifCond .lt 10, 3) := by decide +kernel
theorem d_Search_ringRow_171 : decode prog_8_method_12_code 171 = .ok (.aload_n 0, 1) := by decide +kernel
theorem d_Search_ringRow_172 : decode prog_8_method_12_code 172 = .ok (.invokevirtual 123, 3) := by decide +kernel
theorem d_Search_ringRow_175 : decode prog_8_method_12_code 175 = .ok (.goto 38, 3) := by decide +kernel
theorem d_Search_ringRow_178 : decode prog_8_method_12_code 178 = .ok (.aload_n 0, 1) := by decide +kernel
theorem d_Search_ringRow_179 : decode prog_8_method_12_code 179 = .ok (.getfield 39, 3) := by decide +kernel
theorem d_Search_ringRow_182 : decode prog_8_method_12_code 182 = .ok (.iload_n 2, 1) := by decide +kernel
theorem d_Search_ringRow_183 : decode prog_8_method_12_code 183 = .ok (.iload 5, 2) := by decide +kernel
theorem d_Search_ringRow_185 : decode prog_8_method_12_code 185 = .ok (.iastore, 1) := by decide +kernel
theorem d_Search_ringRow_186 : decode prog_8_method_12_code 186 = .ok (.aload_n 0, 1) := by decide +kernel
theorem d_Search_ringRow_187 : decode prog_8_method_12_code 187 = .ok (.getfield 35, 3) := by decide +kernel
theorem d_Search_ringRow_190 : decode prog_8_method_12_code 190 = .ok (.lload_n 3, 1) := by decide +kernel
theorem d_Search_ringRow_191 : decode prog_8_method_12_code 191 = .ok (.invokevirtual 89, 3) := by decide +kernel
theorem d_Search_ringRow_194 : decode prog_8_method_12_code 194 = .ok (.iload 6, 2) := by decide +kernel
theorem d_Search_ringRow_196 : decode prog_8_method_12_code 196 = .ok (.ifCond .eq 17, 3) := by decide +kernel
theorem d_Search_ringRow_199 : decode prog_8_method_12_code 199 = .ok (.aload_n 0, 1) := by decide +kernel
theorem d_Search_ringRow_200 : decode prog_8_method_12_code 200 = .ok (.dup, 1) := by decide +kernel
theorem d_Search_ringRow_201 : decode prog_8_method_12_code 201 = .ok (.getfield 93, 3) := by decide +kernel
theorem d_Search_ringRow_204 : decode prog_8_method_12_code 204 = .ok (.iconst 1, 1) := by decide +kernel
theorem d_Search_ringRow_205 : decode prog_8_method_12_code 205 = .ok (.iadd, 1) := by decide +kernel
theorem d_Search_ringRow_206 : decode prog_8_method_12_code 206 = .ok (.putfield 93, 3) := by decide +kernel
theorem d_Search_ringRow_209 : decode prog_8_method_12_code 209 = .ok (.aload_n 0, 1) := by decide +kernel
theorem d_Search_ringRow_210 : decode prog_8_method_12_code 210 = .ok (.invokevirtual 96, 3) := by decide +kernel
theorem d_Search_ringRow_213 : decode prog_8_method_12_code 213 = .ok (.return_, 1) := by decide +kernel
set_option maxRecDepth 20000 in
theorem jc_Search_ringRow_171 (N : Nat) (l0 : Option Nat) (h : Hp) : J p l e R s m args below meth c prog_8_method_12_code 8 "RingingChamber$Search" 3 62 none "ringRow" D dA B n0 s0 (QM below args s D dA B n0 s0 vU) 171 [(0, vr l0)] [] h (Search_ringRow_171 N l0 h) := by
  unfold Search_ringRow_171
  refine j_aload_n d_Search_ringRow_171 0 rfl rfl ?_
  refine j_vU0 d_Search_ringRow_172 (allQ.cons (VD.mk vt_5_123_5 (ct_Search_leaveItem N l D dA B l0 h) (by decide) (by decide)) allQ.nil) (Nat.le_of_ble_eq_true rfl) (fun _ h1 => ?_)
  refine j_goto (tgt := 213) d_Search_ringRow_175 (by decide) ?_
  exact j_retU d_Search_ringRow_213
set_option maxRecDepth 20000 in
theorem jc_Search_ringRow_155 (N : Nat) (l0 : Option Nat) (l2 : Int32) (l3 : Int64) (l5 : Int32) (l6 : Int32) (l7 : Int32) (h : Hp) : J p l e R s m args below meth c prog_8_method_12_code 8 "RingingChamber$Search" 3 62 none "ringRow" D dA B n0 s0 (QM below args s D dA B n0 s0 vU) 155 [(0, vr l0), (2, vi l2), (3, vl l3), (5, vi l5), (6, vi l6), (7, vi l7)] [] h (Search_ringRow_155 N l0 l2 l3 l5 l6 l7 h) := by
  unfold Search_ringRow_155
  refine j_iload d_Search_ringRow_155 5 rfl ?_
  refine j_if_ne (tgt := 171) d_Search_ringRow_157 (by decide) ?_ ?_
  · refine j_aload_n d_Search_ringRow_160 0 rfl rfl ?_
    refine j_getR d_Search_ringRow_161 fl_5_35.r (fun x1 => ?_)
    refine j_lload_n d_Search_ringRow_164 2 rfl rfl ?_
    refine j_vI1 d_Search_ringRow_165 (allQ.cons (VD.mk vt_5_145_4 (ct_Rows_indexOf N l D dA B x1 l3 h) (by decide) (by decide)) allQ.nil) (Nat.le_of_ble_eq_true rfl) (fun x3 h2 => ?_)
    refine j_if_lt (tgt := 178) d_Search_ringRow_168 (by decide) ?_ ?_
    · refine j_aload_n d_Search_ringRow_178 0 rfl rfl ?_
      refine j_getR d_Search_ringRow_179 fl_5_39.r (fun x4 => ?_)
      refine j_iload_n d_Search_ringRow_182 1 rfl rfl ?_
      refine j_iload d_Search_ringRow_183 3 rfl ?_
      refine j_iast d_Search_ringRow_185 (fun h5 => ?_)
      refine j_aload_n d_Search_ringRow_186 0 rfl rfl ?_
      refine j_getR d_Search_ringRow_187 fl_5_35.r (fun x6 => ?_)
      refine j_lload_n d_Search_ringRow_190 2 rfl rfl ?_
      refine j_vU1 d_Search_ringRow_191 (allQ.cons (VD.mk vt_5_89_4 (ct_Rows_add N l D dA B x6 l3 h5) (by decide) (by decide)) allQ.nil) (Nat.le_of_ble_eq_true rfl) (fun _ h7 => ?_)
      refine j_iload d_Search_ringRow_194 4 rfl ?_
      refine j_if_eq (tgt := 213) d_Search_ringRow_196 (by decide) ?_ ?_
      · exact j_retU d_Search_ringRow_213
      · refine j_aload_n d_Search_ringRow_199 0 rfl rfl ?_
        refine j_dup d_Search_ringRow_200 rfl ?_
        refine j_getI d_Search_ringRow_201 fl_5_93.r (fun x8 => ?_)
        refine j_iconst (v := 1) d_Search_ringRow_204 (by decide) ?_
        refine j_iadd d_Search_ringRow_205 ?_
        refine j_putI d_Search_ringRow_206 fl_5_93 (Or.inl rfl) (fun h9 => ?_)
        refine j_aload_n d_Search_ringRow_209 0 rfl rfl ?_
        refine j_vU0 d_Search_ringRow_210 (allQ.cons (VD.mk vt_5_96_5 (ct_Search_openPlace N l D dA B l0 h9) (by decide) (by decide)) allQ.nil) (Nat.le_of_ble_eq_true rfl) (fun _ h10 => ?_)
        exact j_retU d_Search_ringRow_213
    · exact J.sub [0] rfl (jc_Search_ringRow_171 N l0 h2)
  · exact J.sub [0] rfl (jc_Search_ringRow_171 N l0 h)
set_option maxRecDepth 20000 in
theorem jc_Search_ringRow_122 (N : Nat) (l0 : Option Nat) (l2 : Int32) (l3 : Int64) (l5 : Int32) (l6 : Int32) (u0 : Int32) (h : Hp) : J p l e R s m args below meth c prog_8_method_12_code 8 "RingingChamber$Search" 3 62 none "ringRow" D dA B n0 s0 (QM below args s D dA B n0 s0 vU) 122 [(0, vr l0), (2, vi l2), (3, vl l3), (5, vi l5), (6, vi l6)] [vi u0] h (Search_ringRow_122 N l0 l2 l3 l5 l6 u0 h) := by
  unfold Search_ringRow_122
  refine j_istore (lv' := [(7, vi u0), (0, vr l0), (2, vi l2), (3, vl l3), (5, vi l5), (6, vi l6)]) d_Search_ringRow_122 (by decide) rfl ?_
  refine j_iload d_Search_ringRow_124 0 rfl ?_
  refine j_if_eq (tgt := 155) d_Search_ringRow_126 (by decide) ?_ ?_
  · exact J.sub [1, 2, 3, 4, 5, 0] rfl (jc_Search_ringRow_155 N l0 l2 l3 l5 l6 u0 h)
  · refine j_lload_n d_Search_ringRow_129 3 rfl rfl ?_
    refine j_aload_n d_Search_ringRow_130 1 rfl rfl ?_
    refine j_getL d_Search_ringRow_131 fl_5_75.r (fun x1 => ?_)
    refine j_lcmp d_Search_ringRow_134 ?_
    refine j_if_ne (tgt := 155) d_Search_ringRow_135 (by decide) ?_ ?_
    · refine j_iload d_Search_ringRow_138 4 rfl ?_
      refine j_aload_n d_Search_ringRow_140 1 rfl rfl ?_
      refine j_getI d_Search_ringRow_141 fl_5_58.r (fun x2 => ?_)
      refine j_icmp_lt (tgt := 155) d_Search_ringRow_144 (by decide) ?_ ?_
      · exact J.sub [1, 2, 3, 4, 5, 0] rfl (jc_Search_ringRow_155 N l0 l2 l3 l5 l6 u0 h)
      · refine j_aload_n d_Search_ringRow_147 1 rfl rfl ?_
        refine j_iconst (v := 1) d_Search_ringRow_148 (by decide) ?_
        refine j_putI d_Search_ringRow_149 fl_5_48 (Or.inl rfl) (fun h3 => ?_)
        refine j_goto (tgt := 213) d_Search_ringRow_152 (by decide) ?_
        exact j_retU d_Search_ringRow_213
    · exact J.sub [1, 2, 3, 4, 5, 0] rfl (jc_Search_ringRow_155 N l0 l2 l3 l5 l6 u0 h)
set_option maxRecDepth 20000 in
theorem jc_Search_ringRow_121 (N : Nat) (l0 : Option Nat) (l2 : Int32) (l3 : Int64) (l5 : Int32) (l6 : Int32) (h : Hp) : J p l e R s m args below meth c prog_8_method_12_code 8 "RingingChamber$Search" 3 62 none "ringRow" D dA B n0 s0 (QM below args s D dA B n0 s0 vU) 121 [(0, vr l0), (2, vi l2), (3, vl l3), (5, vi l5), (6, vi l6)] [] h (Search_ringRow_121 N l0 l2 l3 l5 l6 h) := by
  unfold Search_ringRow_121
  refine j_iconst (v := 0) d_Search_ringRow_121 (by decide) ?_
  exact jc_Search_ringRow_122 N l0 l2 l3 l5 l6 0 h
set_option maxRecDepth 20000 in
theorem jc_Search_ringRow_97 (N : Nat) (l0 : Option Nat) (l2 : Int32) (l3 : Int64) (l5 : Int32) (u0 : Int32) (h : Hp) : J p l e R s m args below meth c prog_8_method_12_code 8 "RingingChamber$Search" 3 62 none "ringRow" D dA B n0 s0 (QM below args s D dA B n0 s0 vU) 97 [(0, vr l0), (2, vi l2), (3, vl l3), (5, vi l5)] [vi u0] h (Search_ringRow_97 N l0 l2 l3 l5 u0 h) := by
  unfold Search_ringRow_97
  refine j_istore (lv' := [(6, vi u0), (0, vr l0), (2, vi l2), (3, vl l3), (5, vi l5)]) d_Search_ringRow_97 (by decide) rfl ?_
  refine j_iload d_Search_ringRow_99 0 rfl ?_
  refine j_if_eq (tgt := 121) d_Search_ringRow_101 (by decide) ?_ ?_
  · exact J.sub [1, 2, 3, 4, 0] rfl (jc_Search_ringRow_121 N l0 l2 l3 l5 u0 h)
  · refine j_aload_n d_Search_ringRow_104 1 rfl rfl ?_
    refine j_getI d_Search_ringRow_105 fl_5_93.r (fun x1 => ?_)
    refine j_aload_n d_Search_ringRow_108 1 rfl rfl ?_
    refine j_getI d_Search_ringRow_109 fl_5_55.r (fun x2 => ?_)
    refine j_iconst (v := 1) d_Search_ringRow_112 (by decide) ?_
    refine j_isub d_Search_ringRow_113 ?_
    refine j_icmp_ne (tgt := 121) d_Search_ringRow_114 (by decide) ?_ ?_
    · refine j_iconst (v := 1) d_Search_ringRow_117 (by decide) ?_
      refine j_goto (tgt := 122) d_Search_ringRow_118 (by decide) ?_
      exact J.sub [1, 2, 3, 4, 0] rfl (jc_Search_ringRow_122 N l0 l2 l3 l5 u0 1 h)
    · exact J.sub [1, 2, 3, 4, 0] rfl (jc_Search_ringRow_121 N l0 l2 l3 l5 u0 h)
set_option maxRecDepth 20000 in
theorem jc_Search_ringRow_78 (N : Nat) (l0 : Option Nat) (l1 : Option Nat) (l2 : Int32) (l3 : Int64) (u0 : Int32) (u1 : Int32) (h : Hp) : J p l e R s m args below meth c prog_8_method_12_code 8 "RingingChamber$Search" 3 62 none "ringRow" D dA B n0 s0 (QM below args s D dA B n0 s0 vU) 78 [(0, vr l0), (1, vr l1), (2, vi l2), (3, vl l3)] [vi u1, vi u0] h (Search_ringRow_78 N l0 l1 l2 l3 u0 u1 h) := by
  unfold Search_ringRow_78
  refine j_iadd d_Search_ringRow_78 ?_
  refine j_nmi (fun x1 => ?_)
  refine j_istore (lv' := [(5, vi x1), (0, vr l0), (1, vr l1), (2, vi l2), (3, vl l3)]) d_Search_ringRow_79 (by decide) rfl ?_
  refine j_aload_n d_Search_ringRow_81 1 rfl rfl ?_
  refine j_getI d_Search_ringRow_82 fl_5_132.r (fun x2 => ?_)
  refine j_aload_n d_Search_ringRow_85 2 rfl rfl ?_
  refine j_getI d_Search_ringRow_86 fl_5_131.r (fun x3 => ?_)
  refine j_icmp_lt (tgt := 96) d_Search_ringRow_89 (by decide) ?_ ?_
  · refine j_iconst (v := 0) d_Search_ringRow_96 (by decide) ?_
    exact J.sub [1, 3, 4, 0] rfl (jc_Search_ringRow_97 N l0 l2 l3 x1 0 h)
  · refine j_iconst (v := 1) d_Search_ringRow_92 (by decide) ?_
    refine j_goto (tgt := 97) d_Search_ringRow_93 (by decide) ?_
    exact J.sub [1, 3, 4, 0] rfl (jc_Search_ringRow_97 N l0 l2 l3 x1 1 h)
set_option maxRecDepth 20000 in
theorem jc_Search_ringRow (N : Nat) (l0 : Option Nat) (l1 : Option Nat) (h : Hp) : J p l e R s m args below meth c prog_8_method_12_code 8 "RingingChamber$Search" 3 62 none "ringRow" D dA B n0 s0 (QM below args s D dA B n0 s0 vU) 0 [(0, vr l0), (1, vr l1)] [] h (Search_ringRow N l0 l1 h) := by
  unfold Search_ringRow
  refine j_aload_n d_Search_ringRow_0 0 rfl rfl ?_
  refine j_getR d_Search_ringRow_1 fl_5_35.r (fun x1 => ?_)
  refine j_getI d_Search_ringRow_4 fl_5_120.r (fun x2 => ?_)
  refine j_istore_n (lv' := [(2, vi x2), (0, vr l0), (1, vr l1)]) d_Search_ringRow_7 rfl (by decide) rfl ?_
  refine j_aload_n d_Search_ringRow_8 1 rfl rfl ?_
  refine j_getR d_Search_ringRow_9 fl_5_35.r (fun x3 => ?_)
  refine j_iload_n d_Search_ringRow_12 0 rfl rfl ?_
  refine j_iconst (v := 1) d_Search_ringRow_13 (by decide) ?_
  refine j_isub d_Search_ringRow_14 ?_
  refine j_vL1 d_Search_ringRow_15 (allQ.cons (VD.mk vt_5_135_4 (ct_Rows_codeAt N l D dA B x3 (x2 - (1 : Int32)) h) (by decide) (by decide)) allQ.nil) (Nat.le_of_ble_eq_true rfl) (fun x5 h4 => ?_)
  refine j_aload_n d_Search_ringRow_18 2 rfl rfl ?_
  refine j_getR d_Search_ringRow_19 fl_5_138 (fun x6 => ?_)
  refine j_aload_n d_Search_ringRow_22 1 rfl rfl ?_
  refine j_getI d_Search_ringRow_23 fl_5_132.r (fun x7 => ?_)
  refine j_iald d_Search_ringRow_26 (fun x8 => ?_)
  refine j_cSL2 d_Search_ringRow_27 sl_5_141 ks_Rows_changed (ct_Rows_changed N l D dA B x5 x8 h4) (by decide) (by decide) (Nat.le_of_ble_eq_true rfl) (fun x10 h9 => ?_)
  refine j_lstore_n (lv' := [(3, vl x10), (2, vi x2), (0, vr l0), (1, vr l1)]) d_Search_ringRow_30 rfl (by decide) rfl ?_
  refine j_aload_n d_Search_ringRow_31 2 rfl rfl ?_
  refine j_dup d_Search_ringRow_32 rfl ?_
  refine j_getI d_Search_ringRow_33 fl_5_132.r (fun x11 => ?_)
  refine j_iconst (v := 1) d_Search_ringRow_36 (by decide) ?_
  refine j_iadd d_Search_ringRow_37 ?_
  refine j_putI d_Search_ringRow_38 fl_5_132 (Or.inl rfl) (fun h12 => ?_)
  refine j_aload_n d_Search_ringRow_41 2 rfl rfl ?_
  refine j_dup d_Search_ringRow_42 rfl ?_
  refine j_getI d_Search_ringRow_43 fl_5_52.r (fun x13 => ?_)
  refine j_iconst (v := 1) d_Search_ringRow_46 (by decide) ?_
  refine j_iadd d_Search_ringRow_47 ?_
  refine j_putI d_Search_ringRow_48 fl_5_52 (Or.inl rfl) (fun h14 => ?_)
  refine j_aload_n d_Search_ringRow_51 2 rfl rfl ?_
  refine j_getR d_Search_ringRow_52 fl_5_39.r (fun x15 => ?_)
  refine j_iload_n d_Search_ringRow_55 1 rfl rfl ?_
  refine j_iconst (v := 1) d_Search_ringRow_56 (by decide) ?_
  refine j_isub d_Search_ringRow_57 ?_
  refine j_iald d_Search_ringRow_58 (fun x16 => ?_)
  refine j_lload_n d_Search_ringRow_59 0 rfl rfl ?_
  refine j_aload_n d_Search_ringRow_60 2 rfl rfl ?_
  refine j_getL d_Search_ringRow_61 fl_5_69.r (fun x17 => ?_)
  refine j_land d_Search_ringRow_64 ?_
  refine j_aload_n d_Search_ringRow_65 2 rfl rfl ?_
  refine j_getL d_Search_ringRow_66 fl_5_61.r (fun x18 => ?_)
  refine j_lcmp d_Search_ringRow_69 ?_
  refine j_if_ne (tgt := 77) d_Search_ringRow_70 (by decide) ?_ ?_
  · refine j_iconst (v := 1) d_Search_ringRow_73 (by decide) ?_
    refine j_goto (tgt := 78) d_Search_ringRow_74 (by decide) ?_
    exact J.sub [2, 3, 1, 0] rfl (jc_Search_ringRow_78 N l0 l1 x2 x10 x16 1 h14)
  · refine j_iconst (v := 0) d_Search_ringRow_77 (by decide) ?_
    exact J.sub [2, 3, 1, 0] rfl (jc_Search_ringRow_78 N l0 l1 x2 x10 x16 0 h14)
set_option maxRecDepth 20000 in
theorem ct_Search_ringRow (N : Nat) (l : Launch) (D : va_G) (dA : Nat → ClassId) (B : Nat) (l0 : Option Nat) (l1 : Option Nat) (h : Hp) : Ct l (⟨"RingingChamber$Search", "ringRow", "(LRingingChamber$Lead;)V"⟩ : MethodName) prog_8_method_12_code 8 none 3 62 D dA B [vr l0, vr l1] h vU (Search_ringRow N l0 l1 h) :=
  Ct.of2 (own := "RingingChamber$Search") (nme := "ringRow") (lv := [(0, vr l0), (1, vr l1)]) rfl rfl (by decide) (Nat.le_of_ble_eq_true rfl) rfl (fun p e R s m args below meth c => jc_Search_ringRow N l0 l1 h)
theorem d_Search_takesNextChoice_0 : decode prog_8_method_9_code 0 = .ok (.aload_n 0, 1) := by decide +kernel
theorem d_Search_takesNextChoice_1 : decode prog_8_method_9_code 1 = .ok (.getfield 42, 3) := by decide +kernel
theorem d_Search_takesNextChoice_4 : decode prog_8_method_9_code 4 = .ok (.aload_n 0, 1) := by decide +kernel
theorem d_Search_takesNextChoice_5 : decode prog_8_method_9_code 5 = .ok (.getfield 93, 3) := by decide +kernel
theorem d_Search_takesNextChoice_8 : decode prog_8_method_9_code 8 = .ok (.dup2, 1) := by decide +kernel
theorem d_Search_takesNextChoice_9 : decode prog_8_method_9_code 9 = .ok (.iaload, 1) := by decide +kernel
theorem d_Search_takesNextChoice_10 : decode prog_8_method_9_code 10 = .ok (.iconst 1, 1) := by decide +kernel
theorem d_Search_takesNextChoice_11 : decode prog_8_method_9_code 11 = .ok (.iadd, 1) := by decide +kernel
theorem d_Search_takesNextChoice_12 : decode prog_8_method_9_code 12 = .ok (.iastore, 1) := by decide +kernel
theorem d_Search_takesNextChoice_13 : decode prog_8_method_9_code 13 = .ok (.aload_n 0, 1) := by decide +kernel
theorem d_Search_takesNextChoice_14 : decode prog_8_method_9_code 14 = .ok (.getfield 42, 3) := by decide +kernel
theorem d_Search_takesNextChoice_17 : decode prog_8_method_9_code 17 = .ok (.aload_n 0, 1) := by decide +kernel
theorem d_Search_takesNextChoice_18 : decode prog_8_method_9_code 18 = .ok (.getfield 93, 3) := by decide +kernel
theorem d_Search_takesNextChoice_21 : decode prog_8_method_9_code 21 = .ok (.iaload, 1) := by decide +kernel
theorem d_Search_takesNextChoice_22 : decode prog_8_method_9_code 22 = .ok (.aload_n 0, 1) := by decide +kernel
theorem d_Search_takesNextChoice_23 : decode prog_8_method_9_code 23 = .ok (.getfield 77, 3) := by decide +kernel
theorem d_Search_takesNextChoice_26 : decode prog_8_method_9_code 26 = .ok (.if_icmp .ge 5, 3) := by decide +kernel
theorem d_Search_takesNextChoice_29 : decode prog_8_method_9_code 29 = .ok (.iconst 1, 1) := by decide +kernel
theorem d_Search_takesNextChoice_30 : decode prog_8_method_9_code 30 = .ok (.ireturn, 1) := by decide +kernel
theorem d_Search_takesNextChoice_31 : decode prog_8_method_9_code 31 = .ok (.aload_n 0, 1) := by decide +kernel
theorem d_Search_takesNextChoice_32 : decode prog_8_method_9_code 32 = .ok (.getfield 93, 3) := by decide +kernel
theorem d_Search_takesNextChoice_35 : decode prog_8_method_9_code 35 = .ok (.ifCond .le 20, 3) := by decide +kernel
theorem d_Search_takesNextChoice_38 : decode prog_8_method_9_code 38 = .ok (.aload_n 0, 1) := by decide +kernel
theorem d_Search_takesNextChoice_39 : decode prog_8_method_9_code 39 = .ok (.dup, 1) := by decide +kernel
theorem d_Search_takesNextChoice_40 : decode prog_8_method_9_code 40 = .ok (.getfield 93, 3) := by decide +kernel
theorem d_Search_takesNextChoice_43 : decode prog_8_method_9_code 43 = .ok (.iconst 1, 1) := by decide +kernel
theorem d_Search_takesNextChoice_44 : decode prog_8_method_9_code 44 = .ok (.isub, 1) := by decide +kernel
theorem d_Search_takesNextChoice_45 : decode prog_8_method_9_code 45 = .ok (.putfield 93, 3) := by decide +kernel
theorem d_Search_takesNextChoice_48 : decode prog_8_method_9_code 48 = .ok (.aload_n 0, 1) := by decide +kernel
theorem d_Search_takesNextChoice_49 : decode prog_8_method_9_code 49 = .ok (.invokevirtual 123, 3) := by decide +kernel
theorem d_Search_takesNextChoice_52 : decode prog_8_method_9_code 52 = .ok (.goto 8, 3) := by decide +kernel
theorem d_Search_takesNextChoice_55 : decode prog_8_method_9_code 55 = .ok (.aload_n 0, 1) := by decide +kernel
theorem d_Search_takesNextChoice_56 : decode prog_8_method_9_code 56 = .ok (.iconst 0, 1) := by decide +kernel
theorem d_Search_takesNextChoice_57 : decode prog_8_method_9_code 57 = .ok (.putfield 48, 3) := by decide +kernel
theorem d_Search_takesNextChoice_60 : decode prog_8_method_9_code 60 = .ok (.iconst 0, 1) := by decide +kernel
theorem d_Search_takesNextChoice_61 : decode prog_8_method_9_code 61 = .ok (.ireturn, 1) := by decide +kernel
set_option maxRecDepth 20000 in
theorem jc_Search_takesNextChoice (N : Nat) (l0 : Option Nat) (h : Hp) : J p l e R s m args below meth c prog_8_method_9_code 1 "RingingChamber$Search" 3 62 (some .boolean) "takesNextChoice" D dA B n0 s0 (QM below args s D dA B n0 s0 vI) 0 [(0, vr l0)] [] h (Search_takesNextChoice N l0 h) := by
  unfold Search_takesNextChoice
  refine j_aload_n d_Search_takesNextChoice_0 0 rfl rfl ?_
  refine j_getR d_Search_takesNextChoice_1 fl_5_42.r (fun x1 => ?_)
  refine j_aload_n d_Search_takesNextChoice_4 0 rfl rfl ?_
  refine j_getI d_Search_takesNextChoice_5 fl_5_93.r (fun x2 => ?_)
  refine j_dup2_11 d_Search_takesNextChoice_8 rfl rfl ?_
  refine j_iald d_Search_takesNextChoice_9 (fun x3 => ?_)
  refine j_iconst (v := 1) d_Search_takesNextChoice_10 (by decide) ?_
  refine j_iadd d_Search_takesNextChoice_11 ?_
  refine j_iast d_Search_takesNextChoice_12 (fun h4 => ?_)
  refine j_aload_n d_Search_takesNextChoice_13 0 rfl rfl ?_
  refine j_getR d_Search_takesNextChoice_14 fl_5_42.r (fun x5 => ?_)
  refine j_aload_n d_Search_takesNextChoice_17 0 rfl rfl ?_
  refine j_getI d_Search_takesNextChoice_18 fl_5_93.r (fun x6 => ?_)
  refine j_iald d_Search_takesNextChoice_21 (fun x7 => ?_)
  refine j_aload_n d_Search_takesNextChoice_22 0 rfl rfl ?_
  refine j_getI d_Search_takesNextChoice_23 fl_5_77.r (fun x8 => ?_)
  refine j_icmp_ge (tgt := 31) d_Search_takesNextChoice_26 (by decide) ?_ ?_
  · refine j_aload_n d_Search_takesNextChoice_31 0 rfl rfl ?_
    refine j_getI d_Search_takesNextChoice_32 fl_5_93.r (fun x9 => ?_)
    refine j_if_le (tgt := 55) d_Search_takesNextChoice_35 (by decide) ?_ ?_
    · refine j_aload_n d_Search_takesNextChoice_55 0 rfl rfl ?_
      refine j_iconst (v := 0) d_Search_takesNextChoice_56 (by decide) ?_
      refine j_putI d_Search_takesNextChoice_57 fl_5_48 (Or.inl rfl) (fun h10 => ?_)
      refine j_iconst (v := 0) d_Search_takesNextChoice_60 (by decide) ?_
      exact j_retZ d_Search_takesNextChoice_61
    · refine j_aload_n d_Search_takesNextChoice_38 0 rfl rfl ?_
      refine j_dup d_Search_takesNextChoice_39 rfl ?_
      refine j_getI d_Search_takesNextChoice_40 fl_5_93.r (fun x11 => ?_)
      refine j_iconst (v := 1) d_Search_takesNextChoice_43 (by decide) ?_
      refine j_isub d_Search_takesNextChoice_44 ?_
      refine j_putI d_Search_takesNextChoice_45 fl_5_93 (Or.inl rfl) (fun h12 => ?_)
      refine j_aload_n d_Search_takesNextChoice_48 0 rfl rfl ?_
      refine j_vU0 d_Search_takesNextChoice_49 (allQ.cons (VD.mk vt_5_123_5 (ct_Search_leaveItem N l D dA B l0 h12) (by decide) (by decide)) allQ.nil) (Nat.le_of_ble_eq_true rfl) (fun _ h13 => ?_)
      refine j_goto (tgt := 60) d_Search_takesNextChoice_52 (by decide) ?_
      refine j_iconst (v := 0) d_Search_takesNextChoice_60 (by decide) ?_
      exact j_retZ d_Search_takesNextChoice_61
  · refine j_iconst (v := 1) d_Search_takesNextChoice_29 (by decide) ?_
    exact j_retZ d_Search_takesNextChoice_30
set_option maxRecDepth 20000 in
theorem ct_Search_takesNextChoice (N : Nat) (l : Launch) (D : va_G) (dA : Nat → ClassId) (B : Nat) (l0 : Option Nat) (h : Hp) : Ct l (⟨"RingingChamber$Search", "takesNextChoice", "()Z"⟩ : MethodName) prog_8_method_9_code 1 (some .boolean) 3 62 D dA B [vr l0] h vI (Search_takesNextChoice N l0 h) :=
  Ct.of2 (own := "RingingChamber$Search") (nme := "takesNextChoice") (lv := [(0, vr l0)]) rfl rfl (by decide) (Nat.le_of_ble_eq_true rfl) rfl (fun p e R s m args below meth c => jc_Search_takesNextChoice N l0 h)
theorem d_Spliced_partOf_0 : decode prog_9_method_2_code 0 = .ok (.aload_n 0, 1) := by decide +kernel
theorem d_Spliced_partOf_1 : decode prog_9_method_2_code 1 = .ok (.getfield 25, 3) := by decide +kernel
theorem d_Spliced_partOf_4 : decode prog_9_method_2_code 4 = .ok (.ifCond .ne 7, 3) := by decide +kernel
theorem d_Spliced_partOf_7 : decode prog_9_method_2_code 7 = .ok (.aconst_null, 1) := by decide +kernel
theorem d_Spliced_partOf_8 : decode prog_9_method_2_code 8 = .ok (.goto 14, 3) := by decide +kernel
theorem d_Spliced_partOf_11 : decode prog_9_method_2_code 11 = .ok (.aload_n 0, 1) := by decide +kernel
theorem d_Spliced_partOf_12 : decode prog_9_method_2_code 12 = .ok (.getfield 9, 3) := by decide +kernel
theorem d_Spliced_partOf_15 : decode prog_9_method_2_code 15 = .ok (.iload_n 1, 1) := by decide +kernel
theorem d_Spliced_partOf_16 : decode prog_9_method_2_code 16 = .ok (.aload_n 0, 1) := by decide +kernel
theorem d_Spliced_partOf_17 : decode prog_9_method_2_code 17 = .ok (.getfield 25, 3) := by decide +kernel
theorem d_Spliced_partOf_20 : decode prog_9_method_2_code 20 = .ok (.irem, 1) := by decide +kernel
theorem d_Spliced_partOf_21 : decode prog_9_method_2_code 21 = .ok (.aaload, 1) := by decide +kernel
theorem d_Spliced_partOf_22 : decode prog_9_method_2_code 22 = .ok (.areturn, 1) := by decide +kernel
set_option maxRecDepth 20000 in
theorem jc_Spliced_partOf (N : Nat) (l0 : Option Nat) (l1 : Int32) (h : Hp) : J p l e R s m args below meth c prog_9_method_2_code 2 "RingingChamber$Spliced" 0 0 (some (.object "RingingChamber$Method")) "partOf" D dA B n0 s0 (QM below args s D dA B n0 s0 vR) 0 [(0, vr l0), (1, vi l1)] [] h (Spliced_partOf N l0 l1 h) := by
  unfold Spliced_partOf
  refine j_aload_n d_Spliced_partOf_0 0 rfl rfl ?_
  refine j_getI d_Spliced_partOf_1 fl_6_25.r (fun x1 => ?_)
  refine j_if_ne (tgt := 11) d_Spliced_partOf_4 (by decide) ?_ ?_
  · refine j_null d_Spliced_partOf_7 ?_
    refine j_goto (tgt := 22) d_Spliced_partOf_8 (by decide) ?_
    exact j_retR (Or.inl ⟨_, rfl⟩) d_Spliced_partOf_22
  · refine j_aload_n d_Spliced_partOf_11 0 rfl rfl ?_
    refine j_getR d_Spliced_partOf_12 fl_6_9.r (fun x2 => ?_)
    refine j_iload_n d_Spliced_partOf_15 1 rfl rfl ?_
    refine j_aload_n d_Spliced_partOf_16 0 rfl rfl ?_
    refine j_getI d_Spliced_partOf_17 fl_6_25.r (fun x3 => ?_)
    refine j_irem d_Spliced_partOf_20 ?_
    refine j_ald18 d_Spliced_partOf_21 (fun x4 => ?_)
    exact j_retR (Or.inl ⟨_, rfl⟩) d_Spliced_partOf_22
set_option maxRecDepth 20000 in
theorem ct_Spliced_partOf (N : Nat) (l : Launch) (D : va_G) (dA : Nat → ClassId) (B : Nat) (l0 : Option Nat) (l1 : Int32) (h : Hp) : Ct l (⟨"RingingChamber$Spliced", "partOf", "(I)LRingingChamber$Method;"⟩ : MethodName) prog_9_method_2_code 2 (some (.object "RingingChamber$Method")) 0 0 D dA B [vr l0, vi l1] h vR (Spliced_partOf N l0 l1 h) :=
  Ct.of2 (own := "RingingChamber$Spliced") (nme := "partOf") (lv := [(0, vr l0), (1, vi l1)]) rfl rfl (by decide) (Nat.le_of_ble_eq_true rfl) rfl (fun p e R s m args below meth c => jc_Spliced_partOf N l0 l1 h)
theorem d_Surprise_calledOf_0 : decode prog_10_method_2_code 0 = .ok (.aload_n 0, 1) := by decide +kernel
theorem d_Surprise_calledOf_1 : decode prog_10_method_2_code 1 = .ok (.getfield 9, 3) := by decide +kernel
theorem d_Surprise_calledOf_4 : decode prog_10_method_2_code 4 = .ok (.bipush 10, 2) := by decide +kernel
theorem d_Surprise_calledOf_6 : decode prog_10_method_2_code 6 = .ok (.dup2, 1) := by decide +kernel
theorem d_Surprise_calledOf_7 : decode prog_10_method_2_code 7 = .ok (.iaload, 1) := by decide +kernel
theorem d_Surprise_calledOf_8 : decode prog_10_method_2_code 8 = .ok (.iconst 1, 1) := by decide +kernel
theorem d_Surprise_calledOf_9 : decode prog_10_method_2_code 9 = .ok (.iadd, 1) := by decide +kernel
theorem d_Surprise_calledOf_10 : decode prog_10_method_2_code 10 = .ok (.iastore, 1) := by decide +kernel
theorem d_Surprise_calledOf_11 : decode prog_10_method_2_code 11 = .ok (.aload_n 0, 1) := by decide +kernel
theorem d_Surprise_calledOf_12 : decode prog_10_method_2_code 12 = .ok (.getfield 15, 3) := by decide +kernel
theorem d_Surprise_calledOf_15 : decode prog_10_method_2_code 15 = .ok (.iload_n 2, 1) := by decide +kernel
theorem d_Surprise_calledOf_16 : decode prog_10_method_2_code 16 = .ok (.iaload, 1) := by decide +kernel
theorem d_Surprise_calledOf_17 : decode prog_10_method_2_code 17 = .ok (.istore 4, 2) := by decide +kernel
theorem d_Surprise_calledOf_19 : decode prog_10_method_2_code 19 = .ok (.iload_n 2, 1) := by decide +kernel
theorem d_Surprise_calledOf_20 : decode prog_10_method_2_code 20 = .ok (.ifCond .eq 51, 3) := by decide +kernel
theorem d_Surprise_calledOf_23 : decode prog_10_method_2_code 23 = .ok (.aload_n 0, 1) := by decide +kernel
theorem d_Surprise_calledOf_24 : decode prog_10_method_2_code 24 = .ok (.iload_n 1, 1) := by decide +kernel
theorem d_Surprise_calledOf_25 : decode prog_10_method_2_code 25 = .ok (.invokevirtual 18, 3) := by decide +kernel
theorem d_Surprise_calledOf_28 : decode prog_10_method_2_code 28 = .ok (.astore 5, 2) := by decide +kernel
theorem d_Surprise_calledOf_30 : decode prog_10_method_2_code 30 = .ok (.aload 5, 2) := by decide +kernel
theorem d_Surprise_calledOf_32 : decode prog_10_method_2_code 32 = .ok (.getfield 22, 3) := by decide +kernel
theorem d_Surprise_calledOf_35 : decode prog_10_method_2_code 35 = .ok (.ifCond .eq 9, 3) := by decide +kernel
theorem d_Surprise_calledOf_38 : decode prog_10_method_2_code 38 = .ok (.aload 5, 2) := by decide +kernel
theorem d_Surprise_calledOf_40 : decode prog_10_method_2_code 40 = .ok (.getfield 22, 3) := by decide +kernel
theorem d_Surprise_calledOf_43 : decode prog_10_method_2_code 43 = .ok (.ireturn, 1) := by decide +kernel
theorem d_Surprise_calledOf_44 : decode prog_10_method_2_code 44 = .ok (.iload 4, 2) := by decide +kernel
theorem d_Surprise_calledOf_46 : decode prog_10_method_2_code 46 = .ok (.aload 5, 2) := by decide +kernel
theorem d_Surprise_calledOf_48 : decode prog_10_method_2_code 48 = .ok (.getfield 28, 3) := by decide +kernel
theorem d_Surprise_calledOf_51 : decode prog_10_method_2_code 51 = .ok (.if_icmp .lt 20, 3) := by decide +kernel
theorem d_Surprise_calledOf_54 : decode prog_10_method_2_code 54 = .ok (.aload 5, 2) := by decide +kernel
theorem d_Surprise_calledOf_56 : decode prog_10_method_2_code 56 = .ok (.getfield 28, 3) := by decide +kernel
theorem d_Surprise_calledOf_59 : decode prog_10_method_2_code 59 = .ok (.ifCond .le 12, 3) := by decide +kernel
theorem d_Surprise_calledOf_62 : decode prog_10_method_2_code 62 = .ok (.aload 5, 2) := by decide +kernel
theorem d_Surprise_calledOf_64 : decode prog_10_method_2_code 64 = .ok (.getfield 28, 3) := by decide +kernel
theorem d_Surprise_calledOf_67 : decode prog_10_method_2_code 67 = .ok (.iconst 1, 1) := by decide +kernel
theorem d_Surprise_calledOf_68 : decode prog_10_method_2_code 68 = .ok (.isub, 1) := by decide +kernel
theorem d_Surprise_calledOf_69 : decode prog_10_method_2_code 69 = .ok (.istore 4, 2) := by decide +kernel
theorem d_Surprise_calledOf_71 : decode prog_10_method_2_code 71 = .ok (.aload_n 0, 1) := by decide +kernel
theorem d_Surprise_calledOf_72 : decode prog_10_method_2_code 72 = .ok (.iload_n 1, 1) := by decide +kernel
theorem d_Surprise_calledOf_73 : decode prog_10_method_2_code 73 = .ok (.iload_n 2, 1) := by decide +kernel
theorem d_Surprise_calledOf_74 : decode prog_10_method_2_code 74 = .ok (.iload 4, 2) := by decide +kernel
theorem d_Surprise_calledOf_76 : decode prog_10_method_2_code 76 = .ok (.aload_n 3, 1) := by decide +kernel
theorem d_Surprise_calledOf_77 : decode prog_10_method_2_code 77 = .ok (.invokevirtual 31, 3) := by decide +kernel
theorem d_Surprise_calledOf_80 : decode prog_10_method_2_code 80 = .ok (.ireturn, 1) := by decide +kernel
set_option maxRecDepth 20000 in
theorem jc_Surprise_calledOf_71 (N : Nat) (l0 : Option Nat) (l1 : Int32) (l2 : Int32) (l3 : Option Nat) (l4 : Int32) (h : Hp) : J p l e R s m args below meth c prog_10_method_2_code 6 "RingingChamber$Surprise" 3 78 (some .int) "calledOf" D dA B n0 s0 (QM below args s D dA B n0 s0 vI) 71 [(0, vr l0), (1, vi l1), (2, vi l2), (3, vr l3), (4, vi l4)] [] h (Surprise_calledOf_71 N l0 l1 l2 l3 l4 h) := by
  unfold Surprise_calledOf_71
  refine j_aload_n d_Surprise_calledOf_71 0 rfl rfl ?_
  refine j_iload_n d_Surprise_calledOf_72 1 rfl rfl ?_
  refine j_iload_n d_Surprise_calledOf_73 2 rfl rfl ?_
  refine j_iload d_Surprise_calledOf_74 4 rfl ?_
  refine j_aload_n d_Surprise_calledOf_76 3 rfl rfl ?_
  refine j_vI4 d_Surprise_calledOf_77 (allQ.cons (VD.mk vt_7_31_7 (ct_Plain_plainCalled N l D dA B l0 l1 l2 l4 l3 h) (by decide) (by decide)) allQ.nil) (Nat.le_of_ble_eq_true rfl) (fun x2 h1 => ?_)
  exact j_retI d_Surprise_calledOf_80
set_option maxRecDepth 20000 in
theorem jc_Surprise_calledOf (N : Nat) (l0 : Option Nat) (l1 : Int32) (l2 : Int32) (l3 : Option Nat) (h : Hp) : J p l e R s m args below meth c prog_10_method_2_code 6 "RingingChamber$Surprise" 3 78 (some .int) "calledOf" D dA B n0 s0 (QM below args s D dA B n0 s0 vI) 0 [(0, vr l0), (1, vi l1), (2, vi l2), (3, vr l3)] [] h (Surprise_calledOf N l0 l1 l2 l3 h) := by
  unfold Surprise_calledOf
  refine j_aload_n d_Surprise_calledOf_0 0 rfl rfl ?_
  refine j_getR d_Surprise_calledOf_1 fl_7_9 (fun x1 => ?_)
  refine j_bipush (v := 10) d_Surprise_calledOf_4 (by decide) ?_
  refine j_dup2_11 d_Surprise_calledOf_6 rfl rfl ?_
  refine j_iald d_Surprise_calledOf_7 (fun x2 => ?_)
  refine j_iconst (v := 1) d_Surprise_calledOf_8 (by decide) ?_
  refine j_iadd d_Surprise_calledOf_9 ?_
  refine j_iast d_Surprise_calledOf_10 (fun h3 => ?_)
  refine j_aload_n d_Surprise_calledOf_11 0 rfl rfl ?_
  refine j_getR d_Surprise_calledOf_12 fl_7_15 (fun x4 => ?_)
  refine j_iload_n d_Surprise_calledOf_15 2 rfl rfl ?_
  refine j_iald d_Surprise_calledOf_16 (fun x5 => ?_)
  refine j_istore (lv' := [(4, vi x5), (0, vr l0), (1, vi l1), (2, vi l2), (3, vr l3)]) d_Surprise_calledOf_17 (by decide) rfl ?_
  refine j_iload_n d_Surprise_calledOf_19 3 rfl rfl ?_
  refine j_if_eq (tgt := 71) d_Surprise_calledOf_20 (by decide) ?_ ?_
  · exact J.sub [1, 2, 3, 4, 0] rfl (jc_Surprise_calledOf_71 N l0 l1 l2 l3 x5 h3)
  · refine j_aload_n d_Surprise_calledOf_23 1 rfl rfl ?_
    refine j_iload_n d_Surprise_calledOf_24 2 rfl rfl ?_
    refine j_vR1 d_Surprise_calledOf_25 (allQ.cons (VD.mk vt_7_18_7 (ct_Plain_leadOf N l D dA B l0 l1 h3) (by decide) (by decide)) allQ.nil) (Nat.le_of_ble_eq_true rfl) (fun x7 h6 => ?_)
    refine j_astore (lv' := [(5, vr x7), (4, vi x5), (0, vr l0), (1, vi l1), (2, vi l2), (3, vr l3)]) d_Surprise_calledOf_28 (by decide) rfl ?_
    refine j_aload d_Surprise_calledOf_30 0 rfl ?_
    refine j_getI d_Surprise_calledOf_32 fl_7_22.r (fun x8 => ?_)
    refine j_if_eq (tgt := 44) d_Surprise_calledOf_35 (by decide) ?_ ?_
    · refine j_iload d_Surprise_calledOf_44 1 rfl ?_
      refine j_aload d_Surprise_calledOf_46 0 rfl ?_
      refine j_getI d_Surprise_calledOf_48 fl_7_28.r (fun x9 => ?_)
      refine j_icmp_lt (tgt := 71) d_Surprise_calledOf_51 (by decide) ?_ ?_
      · exact J.sub [2, 3, 4, 5, 1] rfl (jc_Surprise_calledOf_71 N l0 l1 l2 l3 x5 h6)
      · refine j_aload d_Surprise_calledOf_54 0 rfl ?_
        refine j_getI d_Surprise_calledOf_56 fl_7_28.r (fun x10 => ?_)
        refine j_if_le (tgt := 71) d_Surprise_calledOf_59 (by decide) ?_ ?_
        · exact J.sub [2, 3, 4, 5, 1] rfl (jc_Surprise_calledOf_71 N l0 l1 l2 l3 x5 h6)
        · refine j_aload d_Surprise_calledOf_62 0 rfl ?_
          refine j_getI d_Surprise_calledOf_64 fl_7_28.r (fun x11 => ?_)
          refine j_iconst (v := 1) d_Surprise_calledOf_67 (by decide) ?_
          refine j_isub d_Surprise_calledOf_68 ?_
          refine j_nmi (fun x12 => ?_)
          refine j_istore (lv' := [(4, vi x12), (5, vr x7), (0, vr l0), (1, vi l1), (2, vi l2), (3, vr l3)]) d_Surprise_calledOf_69 (by decide) rfl ?_
          exact J.sub [2, 3, 4, 5, 0] rfl (jc_Surprise_calledOf_71 N l0 l1 l2 l3 x12 h6)
    · refine j_aload d_Surprise_calledOf_38 0 rfl ?_
      refine j_getI d_Surprise_calledOf_40 fl_7_22.r (fun x13 => ?_)
      exact j_retI d_Surprise_calledOf_43
set_option maxRecDepth 20000 in
theorem ct_Surprise_calledOf (N : Nat) (l : Launch) (D : va_G) (dA : Nat → ClassId) (B : Nat) (l0 : Option Nat) (l1 : Int32) (l2 : Int32) (l3 : Option Nat) (h : Hp) : Ct l (⟨"RingingChamber$Surprise", "calledOf", "(IILRingingChamber$Lead;)I"⟩ : MethodName) prog_10_method_2_code 6 (some .int) 3 78 D dA B [vr l0, vi l1, vi l2, vr l3] h vI (Surprise_calledOf N l0 l1 l2 l3 h) :=
  Ct.of2 (own := "RingingChamber$Surprise") (nme := "calledOf") (lv := [(0, vr l0), (1, vi l1), (2, vi l2), (3, vr l3)]) rfl rfl (by decide) (Nat.le_of_ble_eq_true rfl) rfl (fun p e R s m args below meth c => jc_Surprise_calledOf N l0 l1 l2 l3 h)
theorem d_Spliced_calledOf_0 : decode prog_9_method_4_code 0 = .ok (.aload_n 0, 1) := by decide +kernel
theorem d_Spliced_calledOf_1 : decode prog_9_method_4_code 1 = .ok (.getfield 28, 3) := by decide +kernel
theorem d_Spliced_calledOf_4 : decode prog_9_method_4_code 4 = .ok (.bipush 16, 2) := by decide +kernel
theorem d_Spliced_calledOf_6 : decode prog_9_method_4_code 6 = .ok (.dup2, 1) := by decide +kernel
theorem d_Spliced_calledOf_7 : decode prog_9_method_4_code 7 = .ok (.iaload, 1) := by decide +kernel
theorem d_Spliced_calledOf_8 : decode prog_9_method_4_code 8 = .ok (.iconst 1, 1) := by decide +kernel
theorem d_Spliced_calledOf_9 : decode prog_9_method_4_code 9 = .ok (.iadd, 1) := by decide +kernel
theorem d_Spliced_calledOf_10 : decode prog_9_method_4_code 10 = .ok (.iastore, 1) := by decide +kernel
theorem d_Spliced_calledOf_11 : decode prog_9_method_4_code 11 = .ok (.aload_n 0, 1) := by decide +kernel
theorem d_Spliced_calledOf_12 : decode prog_9_method_4_code 12 = .ok (.iload_n 1, 1) := by decide +kernel
theorem d_Spliced_calledOf_13 : decode prog_9_method_4_code 13 = .ok (.invokevirtual 32, 3) := by decide +kernel
theorem d_Spliced_calledOf_16 : decode prog_9_method_4_code 16 = .ok (.astore 4, 2) := by decide +kernel
theorem d_Spliced_calledOf_18 : decode prog_9_method_4_code 18 = .ok (.aload 4, 2) := by decide +kernel
theorem d_Spliced_calledOf_20 : decode prog_9_method_4_code 20 = .ok (.ifnonnull 8, 3) := by decide +kernel
theorem d_Spliced_calledOf_23 : decode prog_9_method_4_code 23 = .ok (.bipush 7, 2) := by decide +kernel
theorem d_Spliced_calledOf_25 : decode prog_9_method_4_code 25 = .ok (.goto 11, 3) := by decide +kernel
theorem d_Spliced_calledOf_28 : decode prog_9_method_4_code 28 = .ok (.aload 4, 2) := by decide +kernel
theorem d_Spliced_calledOf_30 : decode prog_9_method_4_code 30 = .ok (.iload_n 1, 1) := by decide +kernel
theorem d_Spliced_calledOf_31 : decode prog_9_method_4_code 31 = .ok (.iload_n 2, 1) := by decide +kernel
theorem d_Spliced_calledOf_32 : decode prog_9_method_4_code 32 = .ok (.aload_n 3, 1) := by decide +kernel
theorem d_Spliced_calledOf_33 : decode prog_9_method_4_code 33 = .ok (.invokevirtual 40, 3) := by decide +kernel
theorem d_Spliced_calledOf_36 : decode prog_9_method_4_code 36 = .ok (.ireturn, 1) := by decide +kernel
set_option maxRecDepth 20000 in
theorem jc_Spliced_calledOf (N : Nat) (l0 : Option Nat) (l1 : Int32) (l2 : Int32) (l3 : Option Nat) (h : Hp) : J p l e R s m args below meth c prog_9_method_4_code 5 "RingingChamber$Spliced" 4 103 (some .int) "calledOf" D dA B n0 s0 (QM below args s D dA B n0 s0 vI) 0 [(0, vr l0), (1, vi l1), (2, vi l2), (3, vr l3)] [] h (Spliced_calledOf N l0 l1 l2 l3 h) := by
  unfold Spliced_calledOf
  refine j_aload_n d_Spliced_calledOf_0 0 rfl rfl ?_
  refine j_getR d_Spliced_calledOf_1 fl_6_28 (fun x1 => ?_)
  refine j_bipush (v := 16) d_Spliced_calledOf_4 (by decide) ?_
  refine j_dup2_11 d_Spliced_calledOf_6 rfl rfl ?_
  refine j_iald d_Spliced_calledOf_7 (fun x2 => ?_)
  refine j_iconst (v := 1) d_Spliced_calledOf_8 (by decide) ?_
  refine j_iadd d_Spliced_calledOf_9 ?_
  refine j_iast d_Spliced_calledOf_10 (fun h3 => ?_)
  refine j_aload_n d_Spliced_calledOf_11 0 rfl rfl ?_
  refine j_iload_n d_Spliced_calledOf_12 1 rfl rfl ?_
  refine j_vR1 d_Spliced_calledOf_13 (allQ.cons (VD.mk vt_6_32_6 (ct_Spliced_partOf N l D dA B l0 l1 h3) (by decide) (by decide)) allQ.nil) (Nat.le_of_ble_eq_true rfl) (fun x5 h4 => ?_)
  refine j_astore (lv' := [(4, vr x5), (0, vr l0), (1, vi l1), (2, vi l2), (3, vr l3)]) d_Spliced_calledOf_16 (by decide) rfl ?_
  refine j_aload d_Spliced_calledOf_18 0 rfl ?_
  refine j_ifnonnull (tgt := 28) d_Spliced_calledOf_20 (by decide) ?_ ?_
  · refine j_bipush (v := 7) d_Spliced_calledOf_23 (by decide) ?_
    refine j_goto (tgt := 36) d_Spliced_calledOf_25 (by decide) ?_
    exact j_retI d_Spliced_calledOf_36
  · refine j_aload d_Spliced_calledOf_28 0 rfl ?_
    refine j_iload_n d_Spliced_calledOf_30 2 rfl rfl ?_
    refine j_iload_n d_Spliced_calledOf_31 3 rfl rfl ?_
    refine j_aload_n d_Spliced_calledOf_32 4 rfl rfl ?_
    refine j_vI3 d_Spliced_calledOf_33 (allQ.cons (VD.mk vt_6_40_1 (ct_Little_calledOf N l D dA B x5 l1 l2 l3 h4) (by decide) (by decide)) (allQ.cons (VD.mk vt_6_40_2 (ct_Plain_calledOf N l D dA B x5 l1 l2 l3 h4) (by decide) (by decide)) (allQ.cons (VD.mk vt_6_40_3 (ct_Principle_calledOf N l D dA B x5 l1 l2 l3 h4) (by decide) (by decide)) (allQ.cons (VD.mk vt_6_40_7 (ct_Surprise_calledOf N l D dA B x5 l1 l2 l3 h4) (by decide) (by decide)) (allQ.cons (VD.mk vt_6_40_10 (ct_Plain_calledOf N l D dA B x5 l1 l2 l3 h4) (by decide) (by decide)) allQ.nil))))) (Nat.le_of_ble_eq_true rfl) (fun x7 h6 => ?_)
    exact j_retI d_Spliced_calledOf_36
set_option maxRecDepth 20000 in
theorem ct_Spliced_calledOf (N : Nat) (l : Launch) (D : va_G) (dA : Nat → ClassId) (B : Nat) (l0 : Option Nat) (l1 : Int32) (l2 : Int32) (l3 : Option Nat) (h : Hp) : Ct l (⟨"RingingChamber$Spliced", "calledOf", "(IILRingingChamber$Lead;)I"⟩ : MethodName) prog_9_method_4_code 5 (some .int) 4 103 D dA B [vr l0, vi l1, vi l2, vr l3] h vI (Spliced_calledOf N l0 l1 l2 l3 h) :=
  Ct.of2 (own := "RingingChamber$Spliced") (nme := "calledOf") (lv := [(0, vr l0), (1, vi l1), (2, vi l2), (3, vr l3)]) rfl rfl (by decide) (Nat.le_of_ble_eq_true rfl) rfl (fun p e R s m args below meth c => jc_Spliced_calledOf N l0 l1 l2 l3 h)
theorem d_Search_lookAtItem_0 : decode prog_8_method_11_code 0 = .ok (.aload_n 0, 1) := by decide +kernel
theorem d_Search_lookAtItem_1 : decode prog_8_method_11_code 1 = .ok (.getfield 93, 3) := by decide +kernel
theorem d_Search_lookAtItem_4 : decode prog_8_method_11_code 4 = .ok (.bipush 90, 2) := by decide +kernel
theorem d_Search_lookAtItem_6 : decode prog_8_method_11_code 6 = .ok (.imul, 1) := by decide +kernel
theorem d_Search_lookAtItem_7 : decode prog_8_method_11_code 7 = .ok (.iload_n 1, 1) := by decide +kernel
theorem d_Search_lookAtItem_8 : decode prog_8_method_11_code 8 = .ok (.iadd, 1) := by decide +kernel
theorem d_Search_lookAtItem_9 : decode prog_8_method_11_code 9 = .ok (.istore_n 3, 1) := by decide +kernel
theorem d_Search_lookAtItem_10 : decode prog_8_method_11_code 10 = .ok (.aload_n 0, 1) := by decide +kernel
theorem d_Search_lookAtItem_11 : decode prog_8_method_11_code 11 = .ok (.getfield 23, 3) := by decide +kernel
theorem d_Search_lookAtItem_14 : decode prog_8_method_11_code 14 = .ok (.iload_n 3, 1) := by decide +kernel
theorem d_Search_lookAtItem_15 : decode prog_8_method_11_code 15 = .ok (.aaload, 1) := by decide +kernel
theorem d_Search_lookAtItem_16 : decode prog_8_method_11_code 16 = .ok (.astore 4, 2) := by decide +kernel
theorem d_Search_lookAtItem_18 : decode prog_8_method_11_code 18 = .ok (.aload 4, 2) := by decide +kernel
theorem d_Search_lookAtItem_20 : decode prog_8_method_11_code 20 = .ok (.ifnonnull 20, 3) := by decide +kernel
theorem d_Search_lookAtItem_23 : decode prog_8_method_11_code 23 = .ok (.new 21, 3) := by decide +kernel
theorem d_Search_lookAtItem_26 : decode prog_8_method_11_code 26 = .ok (.dup, 1) := by decide +kernel
theorem d_Search_lookAtItem_27 : decode prog_8_method_11_code 27 = .ok (.invokespecial 126, 3) := by decide +kernel
theorem d_Search_lookAtItem_30 : decode prog_8_method_11_code 30 = .ok (.astore 4, 2) := by decide +kernel
theorem d_Search_lookAtItem_32 : decode prog_8_method_11_code 32 = .ok (.aload_n 0, 1) := by decide +kernel
theorem d_Search_lookAtItem_33 : decode prog_8_method_11_code 33 = .ok (.getfield 23, 3) := by decide +kernel
theorem d_Search_lookAtItem_36 : decode prog_8_method_11_code 36 = .ok (.iload_n 3, 1) := by decide +kernel
theorem d_Search_lookAtItem_37 : decode prog_8_method_11_code 37 = .ok (.aload 4, 2) := by decide +kernel
theorem d_Search_lookAtItem_39 : decode prog_8_method_11_code 39 = .ok (.aastore, 1) := by decide +kernel
theorem d_Search_lookAtItem_40 : decode prog_8_method_11_code 40 = .ok (.aload_n 0, 1) := by decide +kernel
theorem d_Search_lookAtItem_41 : decode prog_8_method_11_code 41 = .ok (.getfield 27, 3) := by decide +kernel
theorem d_Search_lookAtItem_44 : decode prog_8_method_11_code 44 = .ok (.iload_n 3, 1) := by decide +kernel
theorem d_Search_lookAtItem_45 : decode prog_8_method_11_code 45 = .ok (.iaload, 1) := by decide +kernel
theorem d_Search_lookAtItem_46 : decode prog_8_method_11_code 46 = .ok (.ifCond .ne 46, 3) := by decide +kernel
theorem d_Search_lookAtItem_49 : decode prog_8_method_11_code 49 = .ok (.aload_n 2, 1) := by decide +kernel
theorem d_Search_lookAtItem_50 : decode prog_8_method_11_code 50 = .ok (.ifnull 42, 3) := by decide +kernel
theorem d_Search_lookAtItem_53 : decode prog_8_method_11_code 53 = .ok (.aload_n 2, 1) := by decide +kernel
theorem d_Search_lookAtItem_54 : decode prog_8_method_11_code 54 = .ok (.aload_n 0, 1) := by decide +kernel
theorem d_Search_lookAtItem_55 : decode prog_8_method_11_code 55 = .ok (.getfield 93, 3) := by decide +kernel
theorem d_Search_lookAtItem_58 : decode prog_8_method_11_code 58 = .ok (.iload_n 1, 1) := by decide +kernel
theorem d_Search_lookAtItem_59 : decode prog_8_method_11_code 59 = .ok (.iconst 3, 1) := by decide +kernel
theorem d_Search_lookAtItem_60 : decode prog_8_method_11_code 60 = .ok (.irem, 1) := by decide +kernel
theorem d_Search_lookAtItem_61 : decode prog_8_method_11_code 61 = .ok (.aload 4, 2) := by decide +kernel
theorem d_Search_lookAtItem_63 : decode prog_8_method_11_code 63 = .ok (.invokevirtual 127, 3) := by decide +kernel
theorem d_Search_lookAtItem_66 : decode prog_8_method_11_code 66 = .ok (.istore 5, 2) := by decide +kernel
theorem d_Search_lookAtItem_68 : decode prog_8_method_11_code 68 = .ok (.aload_n 0, 1) := by decide +kernel
theorem d_Search_lookAtItem_69 : decode prog_8_method_11_code 69 = .ok (.getfield 27, 3) := by decide +kernel
theorem d_Search_lookAtItem_72 : decode prog_8_method_11_code 72 = .ok (.iload_n 3, 1) := by decide +kernel
theorem d_Search_lookAtItem_73 : decode prog_8_method_11_code 73 = .ok (.iload 5, 2) := by decide +kernel
theorem d_Search_lookAtItem_75 : decode prog_8_method_11_code 75 = .ok (.ifCond .ne 15, 3) := by decide +kernel
theorem d_Search_lookAtItem_78 : decode prog_8_method_11_code 78 = .ok (.aload 4, 2) := by decide +kernel
theorem d_Search_lookAtItem_80 : decode prog_8_method_11_code 80 = .ok (.getfield 131, 3) := by decide +kernel
theorem d_Search_lookAtItem_83 : decode prog_8_method_11_code 83 = .ok (.ifCond .le 7, 3) := by decide +kernel
theorem d_Search_lookAtItem_86 : decode prog_8_method_11_code 86 = .ok (.iconst 1, 1) := by decide +kernel
theorem d_Search_lookAtItem_87 : decode prog_8_method_11_code 87 = .ok (.goto 4, 3) := by decide +kernel
theorem d_Search_lookAtItem_90 : decode prog_8_method_11_code 90 = .ok (.iconst 2, 1) := by decide +kernel
theorem d_Search_lookAtItem_91 : decode prog_8_method_11_code 91 = .ok (.iastore, 1) := by decide +kernel
theorem d_Search_lookAtItem_92 : decode prog_8_method_11_code 92 = .ok (.aload_n 0, 1) := by decide +kernel
theorem d_Search_lookAtItem_93 : decode prog_8_method_11_code 93 = .ok (.aload_n 0, 1) := by decide +kernel
theorem d_Search_lookAtItem_94 : decode prog_8_method_11_code 94 = .ok (.getfield 27, 3) := by decide +kernel
theorem d_Search_lookAtItem_97 : decode prog_8_method_11_code 97 = .ok (.iload_n 3, 1) := by decide +kernel
theorem d_Search_lookAtItem_98 : decode prog_8_method_11_code 98 = .ok (.iaload, 1) := by decide +kernel
theorem d_Search_lookAtItem_99 : decode prog_8_method_11_code 99 = .ok (.iconst 1, 1) := by decide +kernel
theorem d_Search_lookAtItem_100 : decode prog_8_method_11_code 100 = .ok (.if_icmp .ne 8, 3) := by decide +kernel
theorem d_Search_lookAtItem_103 : decode prog_8_method_11_code 103 = .ok (.aload 4, 2) := by decide +kernel
theorem d_Search_lookAtItem_105 : decode prog_8_method_11_code 105 = .ok (.goto 4, 3) := by decide +kernel
theorem d_Search_lookAtItem_108 : decode prog_8_method_11_code 108 = .ok (.aconst_null, 1) := by decide +kernel
theorem d_Search_lookAtItem_109 : decode prog_8_method_11_code 109 = .ok (.putfield 104, 3) := by decide +kernel
theorem d_Search_lookAtItem_112 : decode prog_8_method_11_code 112 = .ok (.aload_n 0, 1) := by decide +kernel
theorem d_Search_lookAtItem_113 : decode prog_8_method_11_code 113 = .ok (.iconst 0, 1) := by decide +kernel
theorem d_Search_lookAtItem_114 : decode prog_8_method_11_code 114 = .ok (.putfield 132, 3) := by decide +kernel
theorem d_Search_lookAtItem_117 : decode prog_8_method_11_code 117 = .ok (.return_, 1) := by decide +kernel
set_option maxRecDepth 20000 in
theorem jc_Search_lookAtItem_109 (N : Nat) (l0 : Option Nat) (u0 : Option Nat) (u1 : Option Nat) (h : Hp) : J p l e R s m args below meth c prog_8_method_11_code 6 "RingingChamber$Search" 5 127 none "lookAtItem" D dA B n0 s0 (QM below args s D dA B n0 s0 vU) 109 [(0, vr l0)] [vr u1, vr u0] h (Search_lookAtItem_109 N l0 u0 u1 h) := by
  unfold Search_lookAtItem_109
  refine j_putR d_Search_lookAtItem_109 fl_5_104 (Or.inl rfl) (Or.inl ⟨_, rfl⟩) (fun h1 => ?_)
  refine j_aload_n d_Search_lookAtItem_112 0 rfl rfl ?_
  refine j_iconst (v := 0) d_Search_lookAtItem_113 (by decide) ?_
  refine j_putI d_Search_lookAtItem_114 fl_5_132 (Or.inl rfl) (fun h2 => ?_)
  exact j_retU d_Search_lookAtItem_117
set_option maxRecDepth 20000 in
theorem jc_Search_lookAtItem_92 (N : Nat) (l0 : Option Nat) (l3 : Int32) (l4 : Option Nat) (h : Hp) : J p l e R s m args below meth c prog_8_method_11_code 6 "RingingChamber$Search" 5 127 none "lookAtItem" D dA B n0 s0 (QM below args s D dA B n0 s0 vU) 92 [(0, vr l0), (3, vi l3), (4, vr l4)] [] h (Search_lookAtItem_92 N l0 l3 l4 h) := by
  unfold Search_lookAtItem_92
  refine j_aload_n d_Search_lookAtItem_92 0 rfl rfl ?_
  refine j_aload_n d_Search_lookAtItem_93 0 rfl rfl ?_
  refine j_getR d_Search_lookAtItem_94 fl_5_27.r (fun x1 => ?_)
  refine j_iload_n d_Search_lookAtItem_97 1 rfl rfl ?_
  refine j_iald d_Search_lookAtItem_98 (fun x2 => ?_)
  refine j_iconst (v := 1) d_Search_lookAtItem_99 (by decide) ?_
  refine j_icmp_ne (tgt := 108) d_Search_lookAtItem_100 (by decide) ?_ ?_
  · refine j_aload d_Search_lookAtItem_103 2 rfl ?_
    refine j_goto (tgt := 109) d_Search_lookAtItem_105 (by decide) ?_
    exact J.sub [0] rfl (jc_Search_lookAtItem_109 N l0 l0 l4 h)
  · refine j_null d_Search_lookAtItem_108 ?_
    exact J.sub [0] rfl (jc_Search_lookAtItem_109 N l0 l0 (none : Option Nat) h)
set_option maxRecDepth 20000 in
theorem jc_Search_lookAtItem_91 (N : Nat) (l0 : Option Nat) (l3 : Int32) (l4 : Option Nat) (u0 : Option Nat) (u1 : Int32) (u2 : Int32) (h : Hp) : J p l e R s m args below meth c prog_8_method_11_code 6 "RingingChamber$Search" 5 127 none "lookAtItem" D dA B n0 s0 (QM below args s D dA B n0 s0 vU) 91 [(0, vr l0), (3, vi l3), (4, vr l4)] [vi u2, vi u1, vr u0] h (Search_lookAtItem_91 N l0 l3 l4 u0 u1 u2 h) := by
  unfold Search_lookAtItem_91
  refine j_iast d_Search_lookAtItem_91 (fun h1 => ?_)
  exact jc_Search_lookAtItem_92 N l0 l3 l4 h1
set_option maxRecDepth 20000 in
theorem jc_Search_lookAtItem_90 (N : Nat) (l0 : Option Nat) (l3 : Int32) (l4 : Option Nat) (u0 : Option Nat) (u1 : Int32) (h : Hp) : J p l e R s m args below meth c prog_8_method_11_code 6 "RingingChamber$Search" 5 127 none "lookAtItem" D dA B n0 s0 (QM below args s D dA B n0 s0 vU) 90 [(0, vr l0), (3, vi l3), (4, vr l4)] [vi u1, vr u0] h (Search_lookAtItem_90 N l0 l3 l4 u0 u1 h) := by
  unfold Search_lookAtItem_90
  refine j_iconst (v := 2) d_Search_lookAtItem_90 (by decide) ?_
  exact jc_Search_lookAtItem_91 N l0 l3 l4 u0 u1 2 h
set_option maxRecDepth 20000 in
theorem jc_Search_lookAtItem_40 (N : Nat) (l0 : Option Nat) (l1 : Int32) (l2 : Option Nat) (l3 : Int32) (l4 : Option Nat) (h : Hp) : J p l e R s m args below meth c prog_8_method_11_code 6 "RingingChamber$Search" 5 127 none "lookAtItem" D dA B n0 s0 (QM below args s D dA B n0 s0 vU) 40 [(0, vr l0), (1, vi l1), (2, vr l2), (3, vi l3), (4, vr l4)] [] h (Search_lookAtItem_40 N l0 l1 l2 l3 l4 h) := by
  unfold Search_lookAtItem_40
  refine j_aload_n d_Search_lookAtItem_40 0 rfl rfl ?_
  refine j_getR d_Search_lookAtItem_41 fl_5_27.r (fun x1 => ?_)
  refine j_iload_n d_Search_lookAtItem_44 3 rfl rfl ?_
  refine j_iald d_Search_lookAtItem_45 (fun x2 => ?_)
  refine j_if_ne (tgt := 92) d_Search_lookAtItem_46 (by decide) ?_ ?_
  · refine j_aload_n d_Search_lookAtItem_49 2 rfl rfl ?_
    refine j_ifnull (tgt := 92) d_Search_lookAtItem_50 (by decide) ?_ ?_
    · exact J.sub [0, 3, 4] rfl (jc_Search_lookAtItem_92 N l0 l3 l4 h)
    · refine j_aload_n d_Search_lookAtItem_53 2 rfl rfl ?_
      refine j_aload_n d_Search_lookAtItem_54 0 rfl rfl ?_
      refine j_getI d_Search_lookAtItem_55 fl_5_93.r (fun x3 => ?_)
      refine j_iload_n d_Search_lookAtItem_58 1 rfl rfl ?_
      refine j_iconst (v := 3) d_Search_lookAtItem_59 (by decide) ?_
      refine j_irem d_Search_lookAtItem_60 ?_
      refine j_aload d_Search_lookAtItem_61 4 rfl ?_
      refine j_vI3 d_Search_lookAtItem_63 (allQ.cons (VD.mk vt_5_127_1 (ct_Little_calledOf N l D dA B l2 x3 (l1 - l1 / 3 * 3) l4 h) (by decide) (by decide)) (allQ.cons (VD.mk vt_5_127_2 (ct_Plain_calledOf N l D dA B l2 x3 (l1 - l1 / 3 * 3) l4 h) (by decide) (by decide)) (allQ.cons (VD.mk vt_5_127_3 (ct_Principle_calledOf N l D dA B l2 x3 (l1 - l1 / 3 * 3) l4 h) (by decide) (by decide)) (allQ.cons (VD.mk vt_5_127_6 (ct_Spliced_calledOf N l D dA B l2 x3 (l1 - l1 / 3 * 3) l4 h) (by decide) (by decide)) (allQ.cons (VD.mk vt_5_127_7 (ct_Surprise_calledOf N l D dA B l2 x3 (l1 - l1 / 3 * 3) l4 h) (by decide) (by decide)) (allQ.cons (VD.mk vt_5_127_10 (ct_Plain_calledOf N l D dA B l2 x3 (l1 - l1 / 3 * 3) l4 h) (by decide) (by decide)) allQ.nil)))))) (Nat.le_of_ble_eq_true rfl) (fun x5 h4 => ?_)
      refine j_istore (lv' := [(5, vi x5), (0, vr l0), (1, vi l1), (2, vr l2), (3, vi l3), (4, vr l4)]) d_Search_lookAtItem_66 (by decide) rfl ?_
      refine j_aload_n d_Search_lookAtItem_68 1 rfl rfl ?_
      refine j_getR d_Search_lookAtItem_69 fl_5_27.r (fun x6 => ?_)
      refine j_iload_n d_Search_lookAtItem_72 4 rfl rfl ?_
      refine j_iload d_Search_lookAtItem_73 0 rfl ?_
      refine j_if_ne (tgt := 90) d_Search_lookAtItem_75 (by decide) ?_ ?_
      · refine j_aload d_Search_lookAtItem_78 5 rfl ?_
        refine j_getI d_Search_lookAtItem_80 fl_5_131.r (fun x7 => ?_)
        refine j_if_le (tgt := 90) d_Search_lookAtItem_83 (by decide) ?_ ?_
        · exact J.sub [1, 4, 5] rfl (jc_Search_lookAtItem_90 N l0 l3 l4 x6 l3 h4)
        · refine j_iconst (v := 1) d_Search_lookAtItem_86 (by decide) ?_
          refine j_goto (tgt := 91) d_Search_lookAtItem_87 (by decide) ?_
          exact J.sub [1, 4, 5] rfl (jc_Search_lookAtItem_91 N l0 l3 l4 x6 l3 1 h4)
      · exact J.sub [1, 4, 5] rfl (jc_Search_lookAtItem_90 N l0 l3 l4 x6 l3 h4)
  · exact J.sub [0, 3, 4] rfl (jc_Search_lookAtItem_92 N l0 l3 l4 h)
set_option maxRecDepth 20000 in
theorem jc_Search_lookAtItem (N : Nat) (l0 : Option Nat) (l1 : Int32) (l2 : Option Nat) (h : Hp) : J p l e R s m args below meth c prog_8_method_11_code 6 "RingingChamber$Search" 5 127 none "lookAtItem" D dA B n0 s0 (QM below args s D dA B n0 s0 vU) 0 [(0, vr l0), (1, vi l1), (2, vr l2)] [] h (Search_lookAtItem N l0 l1 l2 h) := by
  unfold Search_lookAtItem
  refine j_aload_n d_Search_lookAtItem_0 0 rfl rfl ?_
  refine j_getI d_Search_lookAtItem_1 fl_5_93.r (fun x1 => ?_)
  refine j_bipush (v := 90) d_Search_lookAtItem_4 (by decide) ?_
  refine j_imul d_Search_lookAtItem_6 ?_
  refine j_iload_n d_Search_lookAtItem_7 1 rfl rfl ?_
  refine j_iadd d_Search_lookAtItem_8 ?_
  refine j_nmi (fun x2 => ?_)
  refine j_istore_n (lv' := [(3, vi x2), (0, vr l0), (1, vi l1), (2, vr l2)]) d_Search_lookAtItem_9 rfl (by decide) rfl ?_
  refine j_aload_n d_Search_lookAtItem_10 1 rfl rfl ?_
  refine j_getR d_Search_lookAtItem_11 fl_5_23.r (fun x3 => ?_)
  refine j_iload_n d_Search_lookAtItem_14 0 rfl rfl ?_
  refine j_ald17 d_Search_lookAtItem_15 (fun x4 => ?_)
  refine j_astore (lv' := [(4, vr x4), (3, vi x2), (0, vr l0), (1, vi l1), (2, vr l2)]) d_Search_lookAtItem_16 (by decide) rfl ?_
  refine j_aload d_Search_lookAtItem_18 0 rfl ?_
  refine j_ifnonnull (tgt := 40) d_Search_lookAtItem_20 (by decide) ?_ ?_
  · refine j_new d_Search_lookAtItem_23 nl_5_21 (fun x5 h6 => ?_)
    refine j_dup d_Search_lookAtItem_26 rfl ?_
    refine j_i0 d_Search_lookAtItem_27 sl_5_126 ki_Lead_init (ct_Lead_init N l D dA B x5 h6) (by decide) (by decide) (Nat.le_of_ble_eq_true rfl) (fun _ h7 => ?_)
    refine j_astore (lv' := [(4, vr x5), (3, vi x2), (0, vr l0), (1, vi l1), (2, vr l2)]) d_Search_lookAtItem_30 (by decide) rfl ?_
    refine j_aload_n d_Search_lookAtItem_32 2 rfl rfl ?_
    refine j_getR d_Search_lookAtItem_33 fl_5_23.r (fun x8 => ?_)
    refine j_iload_n d_Search_lookAtItem_36 1 rfl rfl ?_
    refine j_aload d_Search_lookAtItem_37 0 rfl ?_
    refine j_ast17 d_Search_lookAtItem_39 (fun h9 => ?_)
    exact J.sub [2, 3, 4, 1, 0] rfl (jc_Search_lookAtItem_40 N l0 l1 l2 x2 x5 h9)
  · exact J.sub [2, 3, 4, 1, 0] rfl (jc_Search_lookAtItem_40 N l0 l1 l2 x2 x4 h)
set_option maxRecDepth 20000 in
theorem ct_Search_lookAtItem (N : Nat) (l : Launch) (D : va_G) (dA : Nat → ClassId) (B : Nat) (l0 : Option Nat) (l1 : Int32) (l2 : Option Nat) (h : Hp) : Ct l (⟨"RingingChamber$Search", "lookAtItem", "(ILRingingChamber$Method;)V"⟩ : MethodName) prog_8_method_11_code 6 none 5 127 D dA B [vr l0, vi l1, vr l2] h vU (Search_lookAtItem N l0 l1 l2 h) :=
  Ct.of2 (own := "RingingChamber$Search") (nme := "lookAtItem") (lv := [(0, vr l0), (1, vi l1), (2, vr l2)]) rfl rfl (by decide) (Nat.le_of_ble_eq_true rfl) rfl (fun p e R s m args below meth c => jc_Search_lookAtItem N l0 l1 l2 h)
theorem d_Search_seek_0 : decode prog_8_method_7_code 0 = .ok (.iload_n 1, 1) := by decide +kernel
theorem d_Search_seek_1 : decode prog_8_method_7_code 1 = .ok (.istore_n 2, 1) := by decide +kernel
theorem d_Search_seek_2 : decode prog_8_method_7_code 2 = .ok (.iconst 0, 1) := by decide +kernel
theorem d_Search_seek_3 : decode prog_8_method_7_code 3 = .ok (.istore_n 3, 1) := by decide +kernel
theorem d_Search_seek_4 : decode prog_8_method_7_code 4 = .ok (.iload_n 3, 1) := by decide +kernel
theorem d_Search_seek_5 : decode prog_8_method_7_code 5 = .ok (.ldc 103, 2) := by decide +kernel
theorem d_Search_seek_7 : decode prog_8_method_7_code 7 = .ok (.if_icmp .ge 91, 3) := by decide +kernel
theorem d_Search_seek_10 : decode prog_8_method_7_code 10 = .ok (.aload_n 0, 1) := by decide +kernel
theorem d_Search_seek_11 : decode prog_8_method_7_code 11 = .ok (.getfield 48, 3) := by decide +kernel
theorem d_Search_seek_14 : decode prog_8_method_7_code 14 = .ok (.iconst 2, 1) := by decide +kernel
theorem d_Search_seek_15 : decode prog_8_method_7_code 15 = .ok (.if_icmp .ne 83, 3) := by decide +kernel
theorem d_Search_seek_18 : decode prog_8_method_7_code 18 = .ok (.aload_n 0, 1) := by decide +kernel
theorem d_Search_seek_19 : decode prog_8_method_7_code 19 = .ok (.getfield 104, 3) := by decide +kernel
theorem d_Search_seek_22 : decode prog_8_method_7_code 22 = .ok (.ifnull 10, 3) := by decide +kernel
theorem d_Search_seek_25 : decode prog_8_method_7_code 25 = .ok (.iload_n 2, 1) := by decide +kernel
theorem d_Search_seek_26 : decode prog_8_method_7_code 26 = .ok (.ifCond .ne 6, 3) := by decide +kernel
theorem d_Search_seek_29 : decode prog_8_method_7_code 29 = .ok (.goto 69, 3) := by decide +kernel
theorem d_Search_seek_32 : decode prog_8_method_7_code 32 = .ok (.aload_n 0, 1) := by decide +kernel
theorem d_Search_seek_33 : decode prog_8_method_7_code 33 = .ok (.getfield 104, 3) := by decide +kernel
theorem d_Search_seek_36 : decode prog_8_method_7_code 36 = .ok (.ifnull 17, 3) := by decide +kernel
theorem d_Search_seek_39 : decode prog_8_method_7_code 39 = .ok (.iinc 2 (-1), 3) := by decide +kernel
theorem d_Search_seek_42 : decode prog_8_method_7_code 42 = .ok (.aload_n 0, 1) := by decide +kernel
theorem d_Search_seek_43 : decode prog_8_method_7_code 43 = .ok (.aload_n 0, 1) := by decide +kernel
theorem d_Search_seek_44 : decode prog_8_method_7_code 44 = .ok (.getfield 104, 3) := by decide +kernel
theorem d_Search_seek_47 : decode prog_8_method_7_code 47 = .ok (.invokevirtual 108, 3) := by decide +kernel
theorem d_Search_seek_50 : decode prog_8_method_7_code 50 = .ok (.goto 42, 3) := by decide +kernel
theorem d_Search_seek_53 : decode prog_8_method_7_code 53 = .ok (.aload_n 0, 1) := by decide +kernel
theorem d_Search_seek_54 : decode prog_8_method_7_code 54 = .ok (.invokevirtual 112, 3) := by decide +kernel
theorem d_Search_seek_57 : decode prog_8_method_7_code 57 = .ok (.ifCond .eq 35, 3) := by decide +kernel
theorem d_Search_seek_60 : decode prog_8_method_7_code 60 = .ok (.aload_n 0, 1) := by decide +kernel
theorem d_Search_seek_61 : decode prog_8_method_7_code 61 = .ok (.aload_n 0, 1) := by decide +kernel
theorem d_Search_seek_62 : decode prog_8_method_7_code 62 = .ok (.getfield 11, 3) := by decide +kernel
theorem d_Search_seek_65 : decode prog_8_method_7_code 65 = .ok (.aload_n 0, 1) := by decide +kernel
theorem d_Search_seek_66 : decode prog_8_method_7_code 66 = .ok (.getfield 42, 3) := by decide +kernel
theorem d_Search_seek_69 : decode prog_8_method_7_code 69 = .ok (.aload_n 0, 1) := by decide +kernel
theorem d_Search_seek_70 : decode prog_8_method_7_code 70 = .ok (.getfield 93, 3) := by decide +kernel
theorem d_Search_seek_73 : decode prog_8_method_7_code 73 = .ok (.iaload, 1) := by decide +kernel
theorem d_Search_seek_74 : decode prog_8_method_7_code 74 = .ok (.iaload, 1) := by decide +kernel
theorem d_Search_seek_75 : decode prog_8_method_7_code 75 = .ok (.aload_n 0, 1) := by decide +kernel
theorem d_Search_seek_76 : decode prog_8_method_7_code 76 = .ok (.getfield 17, 3) := by decide +kernel
theorem d_Search_seek_79 : decode prog_8_method_7_code 79 = .ok (.aload_n 0, 1) := by decide +kernel
theorem d_Search_seek_80 : decode prog_8_method_7_code 80 = .ok (.getfield 42, 3) := by decide +kernel
theorem d_Search_seek_83 : decode prog_8_method_7_code 83 = .ok (.aload_n 0, 1) := by decide +kernel
theorem d_Search_seek_84 : decode prog_8_method_7_code 84 = .ok (.getfield 93, 3) := by decide +kernel
theorem d_Search_seek_87 : decode prog_8_method_7_code 87 = .ok (.iaload, 1) := by decide +kernel
theorem d_Search_seek_88 : decode prog_8_method_7_code 88 = .ok (.aaload, 1) := by decide +kernel
theorem d_Search_seek_89 : decode prog_8_method_7_code 89 = .ok (.invokevirtual 116, 3) := by decide +kernel
theorem d_Search_seek_92 : decode prog_8_method_7_code 92 = .ok (.iinc 3 1, 3) := by decide +kernel
theorem d_Search_seek_95 : decode prog_8_method_7_code 95 = .ok (.goto (-91), 3) := by decide +kernel
theorem d_Search_seek_98 : decode prog_8_method_7_code 98 = .ok (.aload_n 0, 1) := by decide +kernel
theorem d_Search_seek_99 : decode prog_8_method_7_code 99 = .ok (.getfield 48, 3) := by decide +kernel
theorem d_Search_seek_102 : decode prog_8_method_7_code 102 = .ok (.ireturn, 1) := by decide +kernel
set_option maxRecDepth 20000 in
theorem jc_Search_seek_92 (N : Nat) (re4 : Option Nat → Int32 → Int32 → Hp → Option (Int32 × Hp)) (hre4 : ∀ y0 y1 y2 h, J p l e R s m args below meth c prog_8_method_7_code 4 "RingingChamber$Search" 6 152 (some .int) "seek" D dA B n0 s0 (QM below args s D dA B n0 s0 vI) 4 [(0, vr y0), (2, vi y1), (3, vi y2)] [] h (re4 y0 y1 y2 h)) (l0 : Option Nat) (l2 : Int32) (l3 : Int32) (h : Hp) : J p l e R s m args below meth c prog_8_method_7_code 4 "RingingChamber$Search" 6 152 (some .int) "seek" D dA B n0 s0 (QM below args s D dA B n0 s0 vI) 92 [(0, vr l0), (2, vi l2), (3, vi l3)] [] h (Search_seek_92 N re4 l0 l2 l3 h) := by
  unfold Search_seek_92
  refine j_iinc (lvv := fun x1 => [(3, vi x1), (0, vr l0), (2, vi l2)]) d_Search_seek_92 2 rfl rfl (by decide) (fun _ => rfl) (fun x1 => ?_)
  refine j_goto (tgt := 4) d_Search_seek_95 (by decide) ?_
  exact J.sub [1, 2, 0] rfl (hre4 l0 l2 x1 h)
set_option maxRecDepth 20000 in
theorem jc_Search_seek_32 (N : Nat) (re4 : Option Nat → Int32 → Int32 → Hp → Option (Int32 × Hp)) (hre4 : ∀ y0 y1 y2 h, J p l e R s m args below meth c prog_8_method_7_code 4 "RingingChamber$Search" 6 152 (some .int) "seek" D dA B n0 s0 (QM below args s D dA B n0 s0 vI) 4 [(0, vr y0), (2, vi y1), (3, vi y2)] [] h (re4 y0 y1 y2 h)) (l0 : Option Nat) (l2 : Int32) (l3 : Int32) (h : Hp) : J p l e R s m args below meth c prog_8_method_7_code 4 "RingingChamber$Search" 6 152 (some .int) "seek" D dA B n0 s0 (QM below args s D dA B n0 s0 vI) 32 [(0, vr l0), (2, vi l2), (3, vi l3)] [] h (Search_seek_32 N re4 l0 l2 l3 h) := by
  unfold Search_seek_32
  refine j_aload_n d_Search_seek_32 0 rfl rfl ?_
  refine j_getR d_Search_seek_33 fl_5_104.r (fun x1 => ?_)
  refine j_ifnull (tgt := 53) d_Search_seek_36 (by decide) ?_ ?_
  · refine j_aload_n d_Search_seek_53 0 rfl rfl ?_
    refine j_vI0 d_Search_seek_54 (allQ.cons (VD.mk vt_5_112_5 (ct_Search_takesNextChoice N l D dA B l0 h) (by decide) (by decide)) allQ.nil) (Nat.le_of_ble_eq_true rfl) (fun x3 h2 => ?_)
    refine j_if_eq (tgt := 92) d_Search_seek_57 (by decide) ?_ ?_
    · exact jc_Search_seek_92 N re4 hre4 l0 l2 l3 h2
    · refine j_aload_n d_Search_seek_60 0 rfl rfl ?_
      refine j_aload_n d_Search_seek_61 0 rfl rfl ?_
      refine j_getR d_Search_seek_62 fl_5_11.r (fun x4 => ?_)
      refine j_aload_n d_Search_seek_65 0 rfl rfl ?_
      refine j_getR d_Search_seek_66 fl_5_42.r (fun x5 => ?_)
      refine j_aload_n d_Search_seek_69 0 rfl rfl ?_
      refine j_getI d_Search_seek_70 fl_5_93.r (fun x6 => ?_)
      refine j_iald d_Search_seek_73 (fun x7 => ?_)
      refine j_iald d_Search_seek_74 (fun x8 => ?_)
      refine j_aload_n d_Search_seek_75 0 rfl rfl ?_
      refine j_getR d_Search_seek_76 fl_5_17.r (fun x9 => ?_)
      refine j_aload_n d_Search_seek_79 0 rfl rfl ?_
      refine j_getR d_Search_seek_80 fl_5_42.r (fun x10 => ?_)
      refine j_aload_n d_Search_seek_83 0 rfl rfl ?_
      refine j_getI d_Search_seek_84 fl_5_93.r (fun x11 => ?_)
      refine j_iald d_Search_seek_87 (fun x12 => ?_)
      refine j_ald18 d_Search_seek_88 (fun x13 => ?_)
      refine j_vU2 d_Search_seek_89 (allQ.cons (VD.mk vt_5_116_5 (ct_Search_lookAtItem N l D dA B l0 x8 x13 h2) (by decide) (by decide)) allQ.nil) (Nat.le_of_ble_eq_true rfl) (fun _ h14 => ?_)
      exact jc_Search_seek_92 N re4 hre4 l0 l2 l3 h14
  · refine j_iinc (lvv := fun x15 => [(2, vi x15), (0, vr l0), (3, vi l3)]) d_Search_seek_39 1 rfl rfl (by decide) (fun _ => rfl) (fun x15 => ?_)
    refine j_aload_n d_Search_seek_42 1 rfl rfl ?_
    refine j_aload_n d_Search_seek_43 1 rfl rfl ?_
    refine j_getR d_Search_seek_44 fl_5_104.r (fun x16 => ?_)
    refine j_vU1 d_Search_seek_47 (allQ.cons (VD.mk vt_5_108_5 (ct_Search_ringRow N l D dA B l0 x16 h) (by decide) (by decide)) allQ.nil) (Nat.le_of_ble_eq_true rfl) (fun _ h17 => ?_)
    refine j_goto (tgt := 92) d_Search_seek_50 (by decide) ?_
    exact J.sub [1, 0, 2] rfl (jc_Search_seek_92 N re4 hre4 l0 x15 l3 h17)
set_option maxRecDepth 20000 in
theorem jc_Search_seek_98 (N : Nat) (l0 : Option Nat) (h : Hp) : J p l e R s m args below meth c prog_8_method_7_code 4 "RingingChamber$Search" 6 152 (some .int) "seek" D dA B n0 s0 (QM below args s D dA B n0 s0 vI) 98 [(0, vr l0)] [] h (Search_seek_98 N l0 h) := by
  unfold Search_seek_98
  refine j_aload_n d_Search_seek_98 0 rfl rfl ?_
  refine j_getI d_Search_seek_99 fl_5_48.r (fun x1 => ?_)
  exact j_retI d_Search_seek_102
set_option maxRecDepth 20000 in
theorem jc_Search_seek_4 (N : Nat) : ∀ (n : Nat) (l0 : Option Nat) (l2 : Int32) (l3 : Int32) (h : Hp), J p l e R s m args below meth c prog_8_method_7_code 4 "RingingChamber$Search" 6 152 (some .int) "seek" D dA B n0 s0 (QM below args s D dA B n0 s0 vI) 4 [(0, vr l0), (2, vi l2), (3, vi l3)] [] h (Search_seek_4 N n l0 l2 l3 h) := by
  intro n
  induction n with
  | zero => intros; exact J.none
  | succ n ih =>
    intro l0 l2 l3 h
    rw [Search_seek_4]
    refine j_iload_n d_Search_seek_4 2 rfl rfl ?_
    refine j_ldc d_Search_seek_5 ck_5_103_Rin ?_
    refine j_icmp_ge (tgt := 98) d_Search_seek_7 (by decide) ?_ ?_
    · exact J.sub [0] rfl (jc_Search_seek_98 N l0 h)
    · refine j_aload_n d_Search_seek_10 0 rfl rfl ?_
      refine j_getI d_Search_seek_11 fl_5_48.r (fun x1 => ?_)
      refine j_iconst (v := 2) d_Search_seek_14 (by decide) ?_
      refine j_icmp_ne (tgt := 98) d_Search_seek_15 (by decide) ?_ ?_
      · refine j_aload_n d_Search_seek_18 0 rfl rfl ?_
        refine j_getR d_Search_seek_19 fl_5_104.r (fun x2 => ?_)
        refine j_ifnull (tgt := 32) d_Search_seek_22 (by decide) ?_ ?_
        · exact jc_Search_seek_32 N (Search_seek_4 N n) ih l0 l2 l3 h
        · refine j_iload_n d_Search_seek_25 1 rfl rfl ?_
          refine j_if_ne (tgt := 32) d_Search_seek_26 (by decide) ?_ ?_
          · refine j_goto (tgt := 98) d_Search_seek_29 (by decide) ?_
            exact J.sub [0] rfl (jc_Search_seek_98 N l0 h)
          · exact jc_Search_seek_32 N (Search_seek_4 N n) ih l0 l2 l3 h
      · exact J.sub [0] rfl (jc_Search_seek_98 N l0 h)
set_option maxRecDepth 20000 in
theorem jc_Search_seek (N : Nat) (l0 : Option Nat) (l1 : Int32) (h : Hp) : J p l e R s m args below meth c prog_8_method_7_code 4 "RingingChamber$Search" 6 152 (some .int) "seek" D dA B n0 s0 (QM below args s D dA B n0 s0 vI) 0 [(0, vr l0), (1, vi l1)] [] h (Search_seek N l0 l1 h) := by
  unfold Search_seek
  refine j_iload_n d_Search_seek_0 1 rfl rfl ?_
  refine j_istore_n (lv' := [(2, vi l1), (0, vr l0), (1, vi l1)]) d_Search_seek_1 rfl (by decide) rfl ?_
  refine j_iconst (v := 0) d_Search_seek_2 (by decide) ?_
  refine j_istore_n (lv' := [(3, vi 0), (2, vi l1), (0, vr l0), (1, vi l1)]) d_Search_seek_3 rfl (by decide) rfl ?_
  exact J.sub [2, 1, 0] rfl (jc_Search_seek_4 N N l0 l1 0 h)
set_option maxRecDepth 20000 in
theorem ct_Search_seek (N : Nat) (l : Launch) (D : va_G) (dA : Nat → ClassId) (B : Nat) (l0 : Option Nat) (l1 : Int32) (h : Hp) : Ct l (⟨"RingingChamber$Search", "seek", "(I)I"⟩ : MethodName) prog_8_method_7_code 4 (some .int) 6 152 D dA B [vr l0, vi l1] h vI (Search_seek N l0 l1 h) :=
  Ct.of2 (own := "RingingChamber$Search") (nme := "seek") (lv := [(0, vr l0), (1, vi l1)]) rfl rfl (by decide) (Nat.le_of_ble_eq_true rfl) rfl (fun p e R s m args below meth c => jc_Search_seek N l0 l1 h)
theorem d_Spliced_init_0 : decode prog_9_method_1_code 0 = .ok (.aload_n 0, 1) := by decide +kernel
theorem d_Spliced_init_1 : decode prog_9_method_1_code 1 = .ok (.iload_n 1, 1) := by decide +kernel
theorem d_Spliced_init_2 : decode prog_9_method_1_code 2 = .ok (.aload_n 2, 1) := by decide +kernel
theorem d_Spliced_init_3 : decode prog_9_method_1_code 3 = .ok (.invokespecial 3, 3) := by decide +kernel
theorem d_Spliced_init_6 : decode prog_9_method_1_code 6 = .ok (.aload_n 0, 1) := by decide +kernel
theorem d_Spliced_init_7 : decode prog_9_method_1_code 7 = .ok (.bipush 6, 2) := by decide +kernel
theorem d_Spliced_init_9 : decode prog_9_method_1_code 9 = .ok (.anewarray 4, 3) := by decide +kernel
theorem d_Spliced_init_12 : decode prog_9_method_1_code 12 = .ok (.putfield 9, 3) := by decide +kernel
theorem d_Spliced_init_15 : decode prog_9_method_1_code 15 = .ok (.aload_n 0, 1) := by decide +kernel
theorem d_Spliced_init_16 : decode prog_9_method_1_code 16 = .ok (.getfield 15, 3) := by decide +kernel
theorem d_Spliced_init_19 : decode prog_9_method_1_code 19 = .ok (.bipush 7, 2) := by decide +kernel
theorem d_Spliced_init_21 : decode prog_9_method_1_code 21 = .ok (.putfield 19, 3) := by decide +kernel
theorem d_Spliced_init_24 : decode prog_9_method_1_code 24 = .ok (.return_, 1) := by decide +kernel
set_option maxRecDepth 20000 in
theorem jc_Spliced_init (N : Nat) (l0 : Option Nat) (l1 : Int32) (l2 : Option Nat) (h : Hp) : J p l e R s m args below meth c prog_9_method_1_code 3 "RingingChamber$Spliced" 3 62 none "<init>" D dA B n0 s0 (QM below args s D dA B n0 s0 vU) 0 [(0, vr l0), (1, vi l1), (2, vr l2)] [] h (Spliced_init N l0 l1 l2 h) := by
  unfold Spliced_init
  refine j_aload_n d_Spliced_init_0 0 rfl rfl ?_
  refine j_iload_n d_Spliced_init_1 1 rfl rfl ?_
  refine j_aload_n d_Spliced_init_2 2 rfl rfl ?_
  refine j_i2 d_Spliced_init_3 sl_6_3 ki_Meth_init (ct_Meth_init N l D dA B l0 l1 l2 h) (by decide) (by decide) (Nat.le_of_ble_eq_true rfl) (fun _ h1 => ?_)
  refine j_aload_n d_Spliced_init_6 0 rfl rfl ?_
  refine j_bipush (v := 6) d_Spliced_init_7 (by decide) ?_
  refine j_newa18 d_Spliced_init_9 kl_6_4 (fun x2 h3 => ?_)
  refine j_putR d_Spliced_init_12 fl_6_9 (Or.inr rfl) (Or.inr ⟨_, rfl⟩) (fun h4 => ?_)
  refine j_aload_n d_Spliced_init_15 0 rfl rfl ?_
  refine j_getR d_Spliced_init_16 fl_6_15 (fun x5 => ?_)
  refine j_bipush (v := 7) d_Spliced_init_19 (by decide) ?_
  refine j_putI d_Spliced_init_21 fl_6_19 (Or.inl rfl) (fun h6 => ?_)
  exact j_retU d_Spliced_init_24
set_option maxRecDepth 20000 in
theorem ct_Spliced_init (N : Nat) (l : Launch) (D : va_G) (dA : Nat → ClassId) (B : Nat) (l0 : Option Nat) (l1 : Int32) (l2 : Option Nat) (h : Hp) : Ct l (⟨"RingingChamber$Spliced", "<init>", "(I[I)V"⟩ : MethodName) prog_9_method_1_code 3 none 3 62 D dA B [vr l0, vi l1, vr l2] h vU (Spliced_init N l0 l1 l2 h) :=
  Ct.of2 (own := "RingingChamber$Spliced") (nme := "<init>") (lv := [(0, vr l0), (1, vi l1), (2, vr l2)]) rfl rfl (by decide) (Nat.le_of_ble_eq_true rfl) rfl (fun p e R s m args below meth c => jc_Spliced_init N l0 l1 l2 h)
theorem d_Spliced_leadOf_0 : decode prog_9_method_3_code 0 = .ok (.aload_n 0, 1) := by decide +kernel
theorem d_Spliced_leadOf_1 : decode prog_9_method_3_code 1 = .ok (.getfield 28, 3) := by decide +kernel
theorem d_Spliced_leadOf_4 : decode prog_9_method_3_code 4 = .ok (.bipush 15, 2) := by decide +kernel
theorem d_Spliced_leadOf_6 : decode prog_9_method_3_code 6 = .ok (.dup2, 1) := by decide +kernel
theorem d_Spliced_leadOf_7 : decode prog_9_method_3_code 7 = .ok (.iaload, 1) := by decide +kernel
theorem d_Spliced_leadOf_8 : decode prog_9_method_3_code 8 = .ok (.iconst 1, 1) := by decide +kernel
theorem d_Spliced_leadOf_9 : decode prog_9_method_3_code 9 = .ok (.iadd, 1) := by decide +kernel
theorem d_Spliced_leadOf_10 : decode prog_9_method_3_code 10 = .ok (.iastore, 1) := by decide +kernel
theorem d_Spliced_leadOf_11 : decode prog_9_method_3_code 11 = .ok (.aload_n 0, 1) := by decide +kernel
theorem d_Spliced_leadOf_12 : decode prog_9_method_3_code 12 = .ok (.iload_n 1, 1) := by decide +kernel
theorem d_Spliced_leadOf_13 : decode prog_9_method_3_code 13 = .ok (.invokevirtual 32, 3) := by decide +kernel
theorem d_Spliced_leadOf_16 : decode prog_9_method_3_code 16 = .ok (.astore_n 2, 1) := by decide +kernel
theorem d_Spliced_leadOf_17 : decode prog_9_method_3_code 17 = .ok (.aload_n 2, 1) := by decide +kernel
theorem d_Spliced_leadOf_18 : decode prog_9_method_3_code 18 = .ok (.ifnonnull 10, 3) := by decide +kernel
theorem d_Spliced_leadOf_21 : decode prog_9_method_3_code 21 = .ok (.aload_n 0, 1) := by decide +kernel
theorem d_Spliced_leadOf_22 : decode prog_9_method_3_code 22 = .ok (.getfield 15, 3) := by decide +kernel
theorem d_Spliced_leadOf_25 : decode prog_9_method_3_code 25 = .ok (.goto 8, 3) := by decide +kernel
theorem d_Spliced_leadOf_28 : decode prog_9_method_3_code 28 = .ok (.aload_n 2, 1) := by decide +kernel
theorem d_Spliced_leadOf_29 : decode prog_9_method_3_code 29 = .ok (.iload_n 1, 1) := by decide +kernel
theorem d_Spliced_leadOf_30 : decode prog_9_method_3_code 30 = .ok (.invokevirtual 36, 3) := by decide +kernel
theorem d_Spliced_leadOf_33 : decode prog_9_method_3_code 33 = .ok (.areturn, 1) := by decide +kernel
set_option maxRecDepth 20000 in
theorem jc_Spliced_leadOf (N : Nat) (l0 : Option Nat) (l1 : Int32) (h : Hp) : J p l e R s m args below meth c prog_9_method_3_code 3 "RingingChamber$Spliced" 1 21 (some (.object "RingingChamber$Lead")) "leadOf" D dA B n0 s0 (QM below args s D dA B n0 s0 vR) 0 [(0, vr l0), (1, vi l1)] [] h (Spliced_leadOf N l0 l1 h) := by
  unfold Spliced_leadOf
  refine j_aload_n d_Spliced_leadOf_0 0 rfl rfl ?_
  refine j_getR d_Spliced_leadOf_1 fl_6_28 (fun x1 => ?_)
  refine j_bipush (v := 15) d_Spliced_leadOf_4 (by decide) ?_
  refine j_dup2_11 d_Spliced_leadOf_6 rfl rfl ?_
  refine j_iald d_Spliced_leadOf_7 (fun x2 => ?_)
  refine j_iconst (v := 1) d_Spliced_leadOf_8 (by decide) ?_
  refine j_iadd d_Spliced_leadOf_9 ?_
  refine j_iast d_Spliced_leadOf_10 (fun h3 => ?_)
  refine j_aload_n d_Spliced_leadOf_11 0 rfl rfl ?_
  refine j_iload_n d_Spliced_leadOf_12 1 rfl rfl ?_
  refine j_vR1 d_Spliced_leadOf_13 (allQ.cons (VD.mk vt_6_32_6 (ct_Spliced_partOf N l D dA B l0 l1 h3) (by decide) (by decide)) allQ.nil) (Nat.le_of_ble_eq_true rfl) (fun x5 h4 => ?_)
  refine j_astore_n (lv' := [(2, vr x5), (0, vr l0), (1, vi l1)]) d_Spliced_leadOf_16 rfl (by decide) rfl ?_
  refine j_aload_n d_Spliced_leadOf_17 0 rfl rfl ?_
  refine j_ifnonnull (tgt := 28) d_Spliced_leadOf_18 (by decide) ?_ ?_
  · refine j_aload_n d_Spliced_leadOf_21 1 rfl rfl ?_
    refine j_getR d_Spliced_leadOf_22 fl_6_15 (fun x8 => ?_)
    refine j_goto (tgt := 33) d_Spliced_leadOf_25 (by decide) ?_
    exact j_retR (Or.inl ⟨_, rfl⟩) d_Spliced_leadOf_33
  · refine j_aload_n d_Spliced_leadOf_28 0 rfl rfl ?_
    refine j_iload_n d_Spliced_leadOf_29 2 rfl rfl ?_
    refine j_vR1 d_Spliced_leadOf_30 (allQ.cons (VD.mk vt_6_36_1 (ct_Plain_leadOf N l D dA B x5 l1 h4) (by decide) (by decide)) (allQ.cons (VD.mk vt_6_36_2 (ct_Plain_leadOf N l D dA B x5 l1 h4) (by decide) (by decide)) (allQ.cons (VD.mk vt_6_36_3 (ct_Principle_leadOf N l D dA B x5 l1 h4) (by decide) (by decide)) (allQ.cons (VD.mk vt_6_36_7 (ct_Plain_leadOf N l D dA B x5 l1 h4) (by decide) (by decide)) (allQ.cons (VD.mk vt_6_36_10 (ct_Plain_leadOf N l D dA B x5 l1 h4) (by decide) (by decide)) allQ.nil))))) (Nat.le_of_ble_eq_true rfl) (fun x7 h6 => ?_)
    exact j_retR (Or.inl ⟨_, rfl⟩) d_Spliced_leadOf_33
set_option maxRecDepth 20000 in
theorem ct_Spliced_leadOf (N : Nat) (l : Launch) (D : va_G) (dA : Nat → ClassId) (B : Nat) (l0 : Option Nat) (l1 : Int32) (h : Hp) : Ct l (⟨"RingingChamber$Spliced", "leadOf", "(I)LRingingChamber$Lead;"⟩ : MethodName) prog_9_method_3_code 3 (some (.object "RingingChamber$Lead")) 1 21 D dA B [vr l0, vi l1] h vR (Spliced_leadOf N l0 l1 h) :=
  Ct.of2 (own := "RingingChamber$Spliced") (nme := "leadOf") (lv := [(0, vr l0), (1, vi l1)]) rfl rfl (by decide) (Nat.le_of_ble_eq_true rfl) rfl (fun p e R s m args below meth c => jc_Spliced_leadOf N l0 l1 h)
theorem d_Treble_trebleIsAsOftenAtEachPlace_0 : decode prog_13_method_3_code 0 = .ok (.bipush 13, 2) := by decide +kernel
theorem d_Treble_trebleIsAsOftenAtEachPlace_2 : decode prog_13_method_3_code 2 = .ok (.newarray .int, 2) := by decide +kernel
theorem d_Treble_trebleIsAsOftenAtEachPlace_4 : decode prog_13_method_3_code 4 = .ok (.astore_n 2, 1) := by decide +kernel
theorem d_Treble_trebleIsAsOftenAtEachPlace_5 : decode prog_13_method_3_code 5 = .ok (.iconst 1, 1) := by decide +kernel
theorem d_Treble_trebleIsAsOftenAtEachPlace_6 : decode prog_13_method_3_code 6 = .ok (.istore_n 3, 1) := by decide +kernel
theorem d_Treble_trebleIsAsOftenAtEachPlace_7 : decode prog_13_method_3_code 7 = .ok (.iconst 0, 1) := by decide +kernel
theorem d_Treble_trebleIsAsOftenAtEachPlace_8 : decode prog_13_method_3_code 8 = .ok (.istore 4, 2) := by decide +kernel
theorem d_Treble_trebleIsAsOftenAtEachPlace_10 : decode prog_13_method_3_code 10 = .ok (.iload 4, 2) := by decide +kernel
theorem d_Treble_trebleIsAsOftenAtEachPlace_12 : decode prog_13_method_3_code 12 = .ok (.aload_n 1, 1) := by decide +kernel
theorem d_Treble_trebleIsAsOftenAtEachPlace_13 : decode prog_13_method_3_code 13 = .ok (.getfield 27, 3) := by decide +kernel
theorem d_Treble_trebleIsAsOftenAtEachPlace_16 : decode prog_13_method_3_code 16 = .ok (.if_icmp .ge 28, 3) := by decide +kernel
theorem d_Treble_trebleIsAsOftenAtEachPlace_19 : decode prog_13_method_3_code 19 = .ok (.iload_n 3, 1) := by decide +kernel
theorem d_Treble_trebleIsAsOftenAtEachPlace_20 : decode prog_13_method_3_code 20 = .ok (.aload_n 1, 1) := by decide +kernel
theorem d_Treble_trebleIsAsOftenAtEachPlace_21 : decode prog_13_method_3_code 21 = .ok (.getfield 33, 3) := by decide +kernel
theorem d_Treble_trebleIsAsOftenAtEachPlace_24 : decode prog_13_method_3_code 24 = .ok (.iload 4, 2) := by decide +kernel
theorem d_Treble_trebleIsAsOftenAtEachPlace_26 : decode prog_13_method_3_code 26 = .ok (.iaload, 1) := by decide +kernel
theorem d_Treble_trebleIsAsOftenAtEachPlace_27 : decode prog_13_method_3_code 27 = .ok (.invokestatic 36, 3) := by decide +kernel
theorem d_Treble_trebleIsAsOftenAtEachPlace_30 : decode prog_13_method_3_code 30 = .ok (.istore_n 3, 1) := by decide +kernel
theorem d_Treble_trebleIsAsOftenAtEachPlace_31 : decode prog_13_method_3_code 31 = .ok (.aload_n 2, 1) := by decide +kernel
theorem d_Treble_trebleIsAsOftenAtEachPlace_32 : decode prog_13_method_3_code 32 = .ok (.iload_n 3, 1) := by decide +kernel
theorem d_Treble_trebleIsAsOftenAtEachPlace_33 : decode prog_13_method_3_code 33 = .ok (.dup2, 1) := by decide +kernel
theorem d_Treble_trebleIsAsOftenAtEachPlace_34 : decode prog_13_method_3_code 34 = .ok (.iaload, 1) := by decide +kernel
theorem d_Treble_trebleIsAsOftenAtEachPlace_35 : decode prog_13_method_3_code 35 = .ok (.iconst 1, 1) := by decide +kernel
theorem d_Treble_trebleIsAsOftenAtEachPlace_36 : decode prog_13_method_3_code 36 = .ok (.iadd, 1) := by decide +kernel
theorem d_Treble_trebleIsAsOftenAtEachPlace_37 : decode prog_13_method_3_code 37 = .ok (.iastore, 1) := by decide +kernel
theorem d_Treble_trebleIsAsOftenAtEachPlace_38 : decode prog_13_method_3_code 38 = .ok (.iinc 4 1, 3) := by decide +kernel
theorem d_Treble_trebleIsAsOftenAtEachPlace_41 : decode prog_13_method_3_code 41 = .ok (.goto (-31), 3) := by decide +kernel
theorem d_Treble_trebleIsAsOftenAtEachPlace_44 : decode prog_13_method_3_code 44 = .ok (.iconst 1, 1) := by decide +kernel
theorem d_Treble_trebleIsAsOftenAtEachPlace_45 : decode prog_13_method_3_code 45 = .ok (.istore 4, 2) := by decide +kernel
theorem d_Treble_trebleIsAsOftenAtEachPlace_47 : decode prog_13_method_3_code 47 = .ok (.iload 4, 2) := by decide +kernel
theorem d_Treble_trebleIsAsOftenAtEachPlace_49 : decode prog_13_method_3_code 49 = .ok (.aload_n 0, 1) := by decide +kernel
theorem d_Treble_trebleIsAsOftenAtEachPlace_50 : decode prog_13_method_3_code 50 = .ok (.getfield 40, 3) := by decide +kernel
theorem d_Treble_trebleIsAsOftenAtEachPlace_53 : decode prog_13_method_3_code 53 = .ok (.if_icmp .gt 28, 3) := by decide +kernel
theorem d_Treble_trebleIsAsOftenAtEachPlace_56 : decode prog_13_method_3_code 56 = .ok (.aload_n 2, 1) := by decide +kernel
theorem d_Treble_trebleIsAsOftenAtEachPlace_57 : decode prog_13_method_3_code 57 = .ok (.iload 4, 2) := by decide +kernel
theorem d_Treble_trebleIsAsOftenAtEachPlace_59 : decode prog_13_method_3_code 59 = .ok (.iaload, 1) := by decide +kernel
theorem d_Treble_trebleIsAsOftenAtEachPlace_60 : decode prog_13_method_3_code 60 = .ok (.ifCond .eq 15, 3) := by decide +kernel
theorem d_Treble_trebleIsAsOftenAtEachPlace_63 : decode prog_13_method_3_code 63 = .ok (.aload_n 2, 1) := by decide +kernel
theorem d_Treble_trebleIsAsOftenAtEachPlace_64 : decode prog_13_method_3_code 64 = .ok (.iload 4, 2) := by decide +kernel
theorem d_Treble_trebleIsAsOftenAtEachPlace_66 : decode prog_13_method_3_code 66 = .ok (.iaload, 1) := by decide +kernel
theorem d_Treble_trebleIsAsOftenAtEachPlace_67 : decode prog_13_method_3_code 67 = .ok (.aload_n 2, 1) := by decide +kernel
theorem d_Treble_trebleIsAsOftenAtEachPlace_68 : decode prog_13_method_3_code 68 = .ok (.iload_n 3, 1) := by decide +kernel
theorem d_Treble_trebleIsAsOftenAtEachPlace_69 : decode prog_13_method_3_code 69 = .ok (.iaload, 1) := by decide +kernel
theorem d_Treble_trebleIsAsOftenAtEachPlace_70 : decode prog_13_method_3_code 70 = .ok (.if_icmp .eq 5, 3) := by decide +kernel
theorem d_Treble_trebleIsAsOftenAtEachPlace_73 : decode prog_13_method_3_code 73 = .ok (.iconst 0, 1) := by decide +kernel
theorem d_Treble_trebleIsAsOftenAtEachPlace_74 : decode prog_13_method_3_code 74 = .ok (.ireturn, 1) := by decide +kernel
theorem d_Treble_trebleIsAsOftenAtEachPlace_75 : decode prog_13_method_3_code 75 = .ok (.iinc 4 1, 3) := by decide +kernel
theorem d_Treble_trebleIsAsOftenAtEachPlace_78 : decode prog_13_method_3_code 78 = .ok (.goto (-31), 3) := by decide +kernel
theorem d_Treble_trebleIsAsOftenAtEachPlace_81 : decode prog_13_method_3_code 81 = .ok (.iconst 1, 1) := by decide +kernel
theorem d_Treble_trebleIsAsOftenAtEachPlace_82 : decode prog_13_method_3_code 82 = .ok (.ireturn, 1) := by decide +kernel
set_option maxRecDepth 20000 in
theorem jc_Treble_trebleIsAsOftenAtEachPlace_75 (N : Nat) (re47 : Option Nat → Option Nat → Int32 → Int32 → Hp → Option (Int32 × Hp)) (hre47 : ∀ y0 y1 y2 y3 h, J p l e R s m args below meth c prog_13_method_3_code 5 "RingingChamber$Treble" 1 21 (some .boolean) "trebleIsAsOftenAtEachPlace" D dA B n0 s0 (QM below args s D dA B n0 s0 vI) 47 [(0, vr y0), (2, vr y1), (3, vi y2), (4, vi y3)] [] h (re47 y0 y1 y2 y3 h)) (l0 : Option Nat) (l2 : Option Nat) (l3 : Int32) (l4 : Int32) (h : Hp) : J p l e R s m args below meth c prog_13_method_3_code 5 "RingingChamber$Treble" 1 21 (some .boolean) "trebleIsAsOftenAtEachPlace" D dA B n0 s0 (QM below args s D dA B n0 s0 vI) 75 [(0, vr l0), (2, vr l2), (3, vi l3), (4, vi l4)] [] h (Treble_trebleIsAsOftenAtEachPlace_75 N re47 l0 l2 l3 l4 h) := by
  unfold Treble_trebleIsAsOftenAtEachPlace_75
  refine j_iinc (lvv := fun x1 => [(4, vi x1), (0, vr l0), (2, vr l2), (3, vi l3)]) d_Treble_trebleIsAsOftenAtEachPlace_75 3 rfl rfl (by decide) (fun _ => rfl) (fun x1 => ?_)
  refine j_goto (tgt := 47) d_Treble_trebleIsAsOftenAtEachPlace_78 (by decide) ?_
  exact J.sub [1, 2, 3, 0] rfl (hre47 l0 l2 l3 x1 h)
set_option maxRecDepth 20000 in
theorem jc_Treble_trebleIsAsOftenAtEachPlace_47 (N : Nat) : ∀ (n : Nat) (l0 : Option Nat) (l2 : Option Nat) (l3 : Int32) (l4 : Int32) (h : Hp), J p l e R s m args below meth c prog_13_method_3_code 5 "RingingChamber$Treble" 1 21 (some .boolean) "trebleIsAsOftenAtEachPlace" D dA B n0 s0 (QM below args s D dA B n0 s0 vI) 47 [(0, vr l0), (2, vr l2), (3, vi l3), (4, vi l4)] [] h (Treble_trebleIsAsOftenAtEachPlace_47 N n l0 l2 l3 l4 h) := by
  intro n
  induction n with
  | zero => intros; exact J.none
  | succ n ih =>
    intro l0 l2 l3 l4 h
    rw [Treble_trebleIsAsOftenAtEachPlace_47]
    refine j_iload d_Treble_trebleIsAsOftenAtEachPlace_47 3 rfl ?_
    refine j_aload_n d_Treble_trebleIsAsOftenAtEachPlace_49 0 rfl rfl ?_
    refine j_getI d_Treble_trebleIsAsOftenAtEachPlace_50 fl_10_40 (fun x1 => ?_)
    refine j_icmp_gt (tgt := 81) d_Treble_trebleIsAsOftenAtEachPlace_53 (by decide) ?_ ?_
    · refine j_iconst (v := 1) d_Treble_trebleIsAsOftenAtEachPlace_81 (by decide) ?_
      exact j_retZ d_Treble_trebleIsAsOftenAtEachPlace_82
    · refine j_aload_n d_Treble_trebleIsAsOftenAtEachPlace_56 1 rfl rfl ?_
      refine j_iload d_Treble_trebleIsAsOftenAtEachPlace_57 3 rfl ?_
      refine j_iald d_Treble_trebleIsAsOftenAtEachPlace_59 (fun x2 => ?_)
      refine j_if_eq (tgt := 75) d_Treble_trebleIsAsOftenAtEachPlace_60 (by decide) ?_ ?_
      · exact jc_Treble_trebleIsAsOftenAtEachPlace_75 N (Treble_trebleIsAsOftenAtEachPlace_47 N n) ih l0 l2 l3 l4 h
      · refine j_aload_n d_Treble_trebleIsAsOftenAtEachPlace_63 1 rfl rfl ?_
        refine j_iload d_Treble_trebleIsAsOftenAtEachPlace_64 3 rfl ?_
        refine j_iald d_Treble_trebleIsAsOftenAtEachPlace_66 (fun x3 => ?_)
        refine j_aload_n d_Treble_trebleIsAsOftenAtEachPlace_67 1 rfl rfl ?_
        refine j_iload_n d_Treble_trebleIsAsOftenAtEachPlace_68 2 rfl rfl ?_
        refine j_iald d_Treble_trebleIsAsOftenAtEachPlace_69 (fun x4 => ?_)
        refine j_icmp_eq (tgt := 75) d_Treble_trebleIsAsOftenAtEachPlace_70 (by decide) ?_ ?_
        · exact jc_Treble_trebleIsAsOftenAtEachPlace_75 N (Treble_trebleIsAsOftenAtEachPlace_47 N n) ih l0 l2 l3 l4 h
        · refine j_iconst (v := 0) d_Treble_trebleIsAsOftenAtEachPlace_73 (by decide) ?_
          exact j_retZ d_Treble_trebleIsAsOftenAtEachPlace_74
set_option maxRecDepth 20000 in
theorem jc_Treble_trebleIsAsOftenAtEachPlace_10 (N : Nat) : ∀ (n : Nat) (l0 : Option Nat) (l1 : Option Nat) (l2 : Option Nat) (l3 : Int32) (l4 : Int32) (h : Hp), J p l e R s m args below meth c prog_13_method_3_code 5 "RingingChamber$Treble" 1 21 (some .boolean) "trebleIsAsOftenAtEachPlace" D dA B n0 s0 (QM below args s D dA B n0 s0 vI) 10 [(0, vr l0), (1, vr l1), (2, vr l2), (3, vi l3), (4, vi l4)] [] h (Treble_trebleIsAsOftenAtEachPlace_10 N n l0 l1 l2 l3 l4 h) := by
  intro n
  induction n with
  | zero => intros; exact J.none
  | succ n ih =>
    intro l0 l1 l2 l3 l4 h
    rw [Treble_trebleIsAsOftenAtEachPlace_10]
    refine j_iload d_Treble_trebleIsAsOftenAtEachPlace_10 4 rfl ?_
    refine j_aload_n d_Treble_trebleIsAsOftenAtEachPlace_12 1 rfl rfl ?_
    refine j_getI d_Treble_trebleIsAsOftenAtEachPlace_13 fl_10_27.r (fun x1 => ?_)
    refine j_icmp_ge (tgt := 44) d_Treble_trebleIsAsOftenAtEachPlace_16 (by decide) ?_ ?_
    · refine j_iconst (v := 1) d_Treble_trebleIsAsOftenAtEachPlace_44 (by decide) ?_
      refine j_istore (lv' := [(4, vi 1), (0, vr l0), (1, vr l1), (2, vr l2), (3, vi l3)]) d_Treble_trebleIsAsOftenAtEachPlace_45 (by decide) rfl ?_
      exact J.sub [1, 3, 4, 0] rfl (jc_Treble_trebleIsAsOftenAtEachPlace_47 N N l0 l2 l3 1 h)
    · refine j_iload_n d_Treble_trebleIsAsOftenAtEachPlace_19 3 rfl rfl ?_
      refine j_aload_n d_Treble_trebleIsAsOftenAtEachPlace_20 1 rfl rfl ?_
      refine j_getR d_Treble_trebleIsAsOftenAtEachPlace_21 fl_10_33 (fun x2 => ?_)
      refine j_iload d_Treble_trebleIsAsOftenAtEachPlace_24 4 rfl ?_
      refine j_iald d_Treble_trebleIsAsOftenAtEachPlace_26 (fun x3 => ?_)
      refine j_uSI2 d_Treble_trebleIsAsOftenAtEachPlace_27 su_10_36 ks_Meth_placeBehind (ct_Meth_placeBehind N l D dA B l3 x3 h) (by decide) (by decide) (Nat.le_of_ble_eq_true rfl) (fun x5 h4 => ?_)
      refine j_istore_n (lv' := [(3, vi x5), (0, vr l0), (1, vr l1), (2, vr l2), (4, vi l4)]) d_Treble_trebleIsAsOftenAtEachPlace_30 rfl (by decide) rfl ?_
      refine j_aload_n d_Treble_trebleIsAsOftenAtEachPlace_31 3 rfl rfl ?_
      refine j_iload_n d_Treble_trebleIsAsOftenAtEachPlace_32 0 rfl rfl ?_
      refine j_dup2_11 d_Treble_trebleIsAsOftenAtEachPlace_33 rfl rfl ?_
      refine j_iald d_Treble_trebleIsAsOftenAtEachPlace_34 (fun x6 => ?_)
      refine j_iconst (v := 1) d_Treble_trebleIsAsOftenAtEachPlace_35 (by decide) ?_
      refine j_iadd d_Treble_trebleIsAsOftenAtEachPlace_36 ?_
      refine j_iast d_Treble_trebleIsAsOftenAtEachPlace_37 (fun h7 => ?_)
      refine j_iinc (lvv := fun x8 => [(4, vi x8), (3, vi x5), (0, vr l0), (1, vr l1), (2, vr l2)]) d_Treble_trebleIsAsOftenAtEachPlace_38 4 rfl rfl (by decide) (fun _ => rfl) (fun x8 => ?_)
      refine j_goto (tgt := 10) d_Treble_trebleIsAsOftenAtEachPlace_41 (by decide) ?_
      exact J.sub [2, 3, 4, 1, 0] rfl (ih l0 l1 l2 x5 x8 h7)
set_option maxRecDepth 20000 in
theorem jc_Treble_trebleIsAsOftenAtEachPlace (N : Nat) (l0 : Option Nat) (l1 : Option Nat) (h : Hp) : J p l e R s m args below meth c prog_13_method_3_code 5 "RingingChamber$Treble" 1 21 (some .boolean) "trebleIsAsOftenAtEachPlace" D dA B n0 s0 (QM below args s D dA B n0 s0 vI) 0 [(0, vr l0), (1, vr l1)] [] h (Treble_trebleIsAsOftenAtEachPlace N l0 l1 h) := by
  unfold Treble_trebleIsAsOftenAtEachPlace
  refine j_bipush (v := 13) d_Treble_trebleIsAsOftenAtEachPlace_0 (by decide) ?_
  refine j_newa13 d_Treble_trebleIsAsOftenAtEachPlace_2 ka_int (fun x1 h2 => ?_)
  refine j_astore_n (lv' := [(2, vr x1), (0, vr l0), (1, vr l1)]) d_Treble_trebleIsAsOftenAtEachPlace_4 rfl (by decide) rfl ?_
  refine j_iconst (v := 1) d_Treble_trebleIsAsOftenAtEachPlace_5 (by decide) ?_
  refine j_istore_n (lv' := [(3, vi 1), (2, vr x1), (0, vr l0), (1, vr l1)]) d_Treble_trebleIsAsOftenAtEachPlace_6 rfl (by decide) rfl ?_
  refine j_iconst (v := 0) d_Treble_trebleIsAsOftenAtEachPlace_7 (by decide) ?_
  refine j_istore (lv' := [(4, vi 0), (3, vi 1), (2, vr x1), (0, vr l0), (1, vr l1)]) d_Treble_trebleIsAsOftenAtEachPlace_8 (by decide) rfl ?_
  exact J.sub [3, 4, 2, 1, 0] rfl (jc_Treble_trebleIsAsOftenAtEachPlace_10 N N l0 l1 x1 1 0 h2)
set_option maxRecDepth 20000 in
theorem ct_Treble_trebleIsAsOftenAtEachPlace (N : Nat) (l : Launch) (D : va_G) (dA : Nat → ClassId) (B : Nat) (l0 : Option Nat) (l1 : Option Nat) (h : Hp) : Ct l (⟨"RingingChamber$Treble", "trebleIsAsOftenAtEachPlace", "(LRingingChamber$Lead;)Z"⟩ : MethodName) prog_13_method_3_code 5 (some .boolean) 1 21 D dA B [vr l0, vr l1] h vI (Treble_trebleIsAsOftenAtEachPlace N l0 l1 h) :=
  Ct.of2 (own := "RingingChamber$Treble") (nme := "trebleIsAsOftenAtEachPlace") (lv := [(0, vr l0), (1, vr l1)]) rfl rfl (by decide) (Nat.le_of_ble_eq_true rfl) rfl (fun p e R s m args below meth c => jc_Treble_trebleIsAsOftenAtEachPlace N l0 l1 h)
theorem d_Treble_judged_0 : decode prog_13_method_2_code 0 = .ok (.aload_n 0, 1) := by decide +kernel
theorem d_Treble_judged_1 : decode prog_13_method_2_code 1 = .ok (.getfield 9, 3) := by decide +kernel
theorem d_Treble_judged_4 : decode prog_13_method_2_code 4 = .ok (.bipush 8, 2) := by decide +kernel
theorem d_Treble_judged_6 : decode prog_13_method_2_code 6 = .ok (.dup2, 1) := by decide +kernel
theorem d_Treble_judged_7 : decode prog_13_method_2_code 7 = .ok (.iaload, 1) := by decide +kernel
theorem d_Treble_judged_8 : decode prog_13_method_2_code 8 = .ok (.iconst 1, 1) := by decide +kernel
theorem d_Treble_judged_9 : decode prog_13_method_2_code 9 = .ok (.iadd, 1) := by decide +kernel
theorem d_Treble_judged_10 : decode prog_13_method_2_code 10 = .ok (.iastore, 1) := by decide +kernel
theorem d_Treble_judged_11 : decode prog_13_method_2_code 11 = .ok (.aload_n 0, 1) := by decide +kernel
theorem d_Treble_judged_12 : decode prog_13_method_2_code 12 = .ok (.invokespecial 15, 3) := by decide +kernel
theorem d_Treble_judged_15 : decode prog_13_method_2_code 15 = .ok (.istore_n 1, 1) := by decide +kernel
theorem d_Treble_judged_16 : decode prog_13_method_2_code 16 = .ok (.iload_n 1, 1) := by decide +kernel
theorem d_Treble_judged_17 : decode prog_13_method_2_code 17 = .ok (.ifCond .ge 5, 3) := by decide +kernel
theorem d_Treble_judged_20 : decode prog_13_method_2_code 20 = .ok (.iload_n 1, 1) := by decide +kernel
theorem d_Treble_judged_21 : decode prog_13_method_2_code 21 = .ok (.ireturn, 1) := by decide +kernel
theorem d_Treble_judged_22 : decode prog_13_method_2_code 22 = .ok (.aload_n 0, 1) := by decide +kernel
theorem d_Treble_judged_23 : decode prog_13_method_2_code 23 = .ok (.aload_n 0, 1) := by decide +kernel
theorem d_Treble_judged_24 : decode prog_13_method_2_code 24 = .ok (.iconst 0, 1) := by decide +kernel
theorem d_Treble_judged_25 : decode prog_13_method_2_code 25 = .ok (.invokevirtual 19, 3) := by decide +kernel
theorem d_Treble_judged_28 : decode prog_13_method_2_code 28 = .ok (.invokevirtual 23, 3) := by decide +kernel
theorem d_Treble_judged_31 : decode prog_13_method_2_code 31 = .ok (.istore_n 2, 1) := by decide +kernel
theorem d_Treble_judged_32 : decode prog_13_method_2_code 32 = .ok (.iload_n 1, 1) := by decide +kernel
theorem d_Treble_judged_33 : decode prog_13_method_2_code 33 = .ok (.iconst 1, 1) := by decide +kernel
theorem d_Treble_judged_34 : decode prog_13_method_2_code 34 = .ok (.if_icmp .ne 11, 3) := by decide +kernel
theorem d_Treble_judged_37 : decode prog_13_method_2_code 37 = .ok (.iload_n 2, 1) := by decide +kernel
theorem d_Treble_judged_38 : decode prog_13_method_2_code 38 = .ok (.ifCond .eq 7, 3) := by decide +kernel
theorem d_Treble_judged_41 : decode prog_13_method_2_code 41 = .ok (.iconst 1, 1) := by decide +kernel
theorem d_Treble_judged_42 : decode prog_13_method_2_code 42 = .ok (.goto 4, 3) := by decide +kernel
theorem d_Treble_judged_45 : decode prog_13_method_2_code 45 = .ok (.iconst 0, 1) := by decide +kernel
theorem d_Treble_judged_46 : decode prog_13_method_2_code 46 = .ok (.ireturn, 1) := by decide +kernel
set_option maxRecDepth 20000 in
theorem jc_Treble_judged (N : Nat) (l0 : Option Nat) (h : Hp) : J p l e R s m args below meth c prog_13_method_2_code 3 "RingingChamber$Treble" 3 65 (some .int) "judged" D dA B n0 s0 (QM below args s D dA B n0 s0 vI) 0 [(0, vr l0)] [] h (Treble_judged N l0 h) := by
  unfold Treble_judged
  refine j_aload_n d_Treble_judged_0 0 rfl rfl ?_
  refine j_getR d_Treble_judged_1 fl_10_9 (fun x1 => ?_)
  refine j_bipush (v := 8) d_Treble_judged_4 (by decide) ?_
  refine j_dup2_11 d_Treble_judged_6 rfl rfl ?_
  refine j_iald d_Treble_judged_7 (fun x2 => ?_)
  refine j_iconst (v := 1) d_Treble_judged_8 (by decide) ?_
  refine j_iadd d_Treble_judged_9 ?_
  refine j_iast d_Treble_judged_10 (fun h3 => ?_)
  refine j_aload_n d_Treble_judged_11 0 rfl rfl ?_
  refine j_pI0 d_Treble_judged_12 sl_10_15 kp_10_15 (by decide) (ct_Plain_judged N l D dA B l0 h3) (by decide) (by decide) (Nat.le_of_ble_eq_true rfl) (fun x5 h4 => ?_)
  refine j_istore_n (lv' := [(1, vi x5), (0, vr l0)]) d_Treble_judged_15 rfl (by decide) rfl ?_
  refine j_iload_n d_Treble_judged_16 0 rfl rfl ?_
  refine j_if_ge (tgt := 22) d_Treble_judged_17 (by decide) ?_ ?_
  · refine j_aload_n d_Treble_judged_22 1 rfl rfl ?_
    refine j_aload_n d_Treble_judged_23 1 rfl rfl ?_
    refine j_iconst (v := 0) d_Treble_judged_24 (by decide) ?_
    refine j_vR1 d_Treble_judged_25 (allQ.cons (VD.mk vt_10_19_7 (ct_Plain_leadOf N l D dA B l0 0 h4) (by decide) (by decide)) (allQ.cons (VD.mk vt_10_19_10 (ct_Plain_leadOf N l D dA B l0 0 h4) (by decide) (by decide)) allQ.nil)) (Nat.le_of_ble_eq_true rfl) (fun x7 h6 => ?_)
    refine j_vI1 d_Treble_judged_28 (allQ.cons (VD.mk vt_10_23_7 (ct_Treble_trebleIsAsOftenAtEachPlace N l D dA B l0 x7 h6) (by decide) (by decide)) (allQ.cons (VD.mk vt_10_23_10 (ct_Treble_trebleIsAsOftenAtEachPlace N l D dA B l0 x7 h6) (by decide) (by decide)) allQ.nil)) (Nat.le_of_ble_eq_true rfl) (fun x9 h8 => ?_)
    refine j_istore_n (lv' := [(2, vi x9), (1, vi x5), (0, vr l0)]) d_Treble_judged_31 rfl (by decide) rfl ?_
    refine j_iload_n d_Treble_judged_32 1 rfl rfl ?_
    refine j_iconst (v := 1) d_Treble_judged_33 (by decide) ?_
    refine j_icmp_ne (tgt := 45) d_Treble_judged_34 (by decide) ?_ ?_
    · refine j_iload_n d_Treble_judged_37 0 rfl rfl ?_
      refine j_if_eq (tgt := 45) d_Treble_judged_38 (by decide) ?_ ?_
      · refine j_iconst (v := 0) d_Treble_judged_45 (by decide) ?_
        exact j_retI d_Treble_judged_46
      · refine j_iconst (v := 1) d_Treble_judged_41 (by decide) ?_
        refine j_goto (tgt := 46) d_Treble_judged_42 (by decide) ?_
        exact j_retI d_Treble_judged_46
    · refine j_iconst (v := 0) d_Treble_judged_45 (by decide) ?_
      exact j_retI d_Treble_judged_46
  · refine j_iload_n d_Treble_judged_20 0 rfl rfl ?_
    exact j_retI d_Treble_judged_21
set_option maxRecDepth 20000 in
theorem ct_Treble_judged (N : Nat) (l : Launch) (D : va_G) (dA : Nat → ClassId) (B : Nat) (l0 : Option Nat) (h : Hp) : Ct l (⟨"RingingChamber$Treble", "judged", "()I"⟩ : MethodName) prog_13_method_2_code 3 (some .int) 3 65 D dA B [vr l0] h vI (Treble_judged N l0 h) :=
  Ct.of2 (own := "RingingChamber$Treble") (nme := "judged") (lv := [(0, vr l0)]) rfl rfl (by decide) (Nat.le_of_ble_eq_true rfl) rfl (fun p e R s m args below meth c => jc_Treble_judged N l0 h)
theorem d_Surprise_hasInnerPlace_0 : decode prog_10_method_5_code 0 = .ok (.iload_n 1, 1) := by decide +kernel
theorem d_Surprise_hasInnerPlace_1 : decode prog_10_method_5_code 1 = .ok (.iload_n 1, 1) := by decide +kernel
theorem d_Surprise_hasInnerPlace_2 : decode prog_10_method_5_code 2 = .ok (.iconst 1, 1) := by decide +kernel
theorem d_Surprise_hasInnerPlace_3 : decode prog_10_method_5_code 3 = .ok (.ishl, 1) := by decide +kernel
theorem d_Surprise_hasInnerPlace_4 : decode prog_10_method_5_code 4 = .ok (.ior, 1) := by decide +kernel
theorem d_Surprise_hasInnerPlace_5 : decode prog_10_method_5_code 5 = .ok (.istore_n 2, 1) := by decide +kernel
theorem d_Surprise_hasInnerPlace_6 : decode prog_10_method_5_code 6 = .ok (.iconst 1, 1) := by decide +kernel
theorem d_Surprise_hasInnerPlace_7 : decode prog_10_method_5_code 7 = .ok (.aload_n 0, 1) := by decide +kernel
theorem d_Surprise_hasInnerPlace_8 : decode prog_10_method_5_code 8 = .ok (.getfield 59, 3) := by decide +kernel
theorem d_Surprise_hasInnerPlace_11 : decode prog_10_method_5_code 11 = .ok (.iconst 1, 1) := by decide +kernel
theorem d_Surprise_hasInnerPlace_12 : decode prog_10_method_5_code 12 = .ok (.isub, 1) := by decide +kernel
theorem d_Surprise_hasInnerPlace_13 : decode prog_10_method_5_code 13 = .ok (.ishl, 1) := by decide +kernel
theorem d_Surprise_hasInnerPlace_14 : decode prog_10_method_5_code 14 = .ok (.iconst 2, 1) := by decide +kernel
theorem d_Surprise_hasInnerPlace_15 : decode prog_10_method_5_code 15 = .ok (.isub, 1) := by decide +kernel
theorem d_Surprise_hasInnerPlace_16 : decode prog_10_method_5_code 16 = .ok (.istore_n 3, 1) := by decide +kernel
theorem d_Surprise_hasInnerPlace_17 : decode prog_10_method_5_code 17 = .ok (.iload_n 3, 1) := by decide +kernel
theorem d_Surprise_hasInnerPlace_18 : decode prog_10_method_5_code 18 = .ok (.iload_n 2, 1) := by decide +kernel
theorem d_Surprise_hasInnerPlace_19 : decode prog_10_method_5_code 19 = .ok (.iconst (-1), 1) := by decide +kernel
theorem d_Surprise_hasInnerPlace_20 : decode prog_10_method_5_code 20 = .ok (.ixor, 1) := by decide +kernel
theorem d_Surprise_hasInnerPlace_21 : decode prog_10_method_5_code 21 = .ok (.iand, 1) := by decide +kernel
theorem d_Surprise_hasInnerPlace_22 : decode prog_10_method_5_code 22 = .ok (.ifCond .eq 7, 3) := by decide +kernel
theorem d_Surprise_hasInnerPlace_25 : decode prog_10_method_5_code 25 = .ok (.iconst 1, 1) := by decide +kernel
theorem d_Surprise_hasInnerPlace_26 : decode prog_10_method_5_code 26 = .ok (.goto 4, 3) := by decide +kernel
theorem d_Surprise_hasInnerPlace_29 : decode prog_10_method_5_code 29 = .ok (.iconst 0, 1) := by decide +kernel
theorem d_Surprise_hasInnerPlace_30 : decode prog_10_method_5_code 30 = .ok (.ireturn, 1) := by decide +kernel
set_option maxRecDepth 20000 in
theorem jc_Surprise_hasInnerPlace (N : Nat) (l0 : Option Nat) (l1 : Int32) (h : Hp) : J p l e R s m args below meth c prog_10_method_5_code 4 "RingingChamber$Surprise" 0 0 (some .boolean) "hasInnerPlace" D dA B n0 s0 (QM below args s D dA B n0 s0 vI) 0 [(0, vr l0), (1, vi l1)] [] h (Surprise_hasInnerPlace N l0 l1 h) := by
  unfold Surprise_hasInnerPlace
  refine j_iload_n d_Surprise_hasInnerPlace_0 1 rfl rfl ?_
  refine j_iload_n d_Surprise_hasInnerPlace_1 1 rfl rfl ?_
  refine j_iconst (v := 1) d_Surprise_hasInnerPlace_2 (by decide) ?_
  refine j_ishl d_Surprise_hasInnerPlace_3 ?_
  refine j_ior d_Surprise_hasInnerPlace_4 ?_
  refine j_nmi (fun x1 => ?_)
  refine j_istore_n (lv' := [(2, vi x1), (0, vr l0), (1, vi l1)]) d_Surprise_hasInnerPlace_5 rfl (by decide) rfl ?_
  refine j_iconst (v := 1) d_Surprise_hasInnerPlace_6 (by decide) ?_
  refine j_aload_n d_Surprise_hasInnerPlace_7 1 rfl rfl ?_
  refine j_getI d_Surprise_hasInnerPlace_8 fl_7_59 (fun x2 => ?_)
  refine j_iconst (v := 1) d_Surprise_hasInnerPlace_11 (by decide) ?_
  refine j_isub d_Surprise_hasInnerPlace_12 ?_
  refine j_ishl d_Surprise_hasInnerPlace_13 ?_
  refine j_iconst (v := 2) d_Surprise_hasInnerPlace_14 (by decide) ?_
  refine j_isub d_Surprise_hasInnerPlace_15 ?_
  refine j_nmi (fun x3 => ?_)
  refine j_istore_n (lv' := [(3, vi x3), (2, vi x1), (0, vr l0), (1, vi l1)]) d_Surprise_hasInnerPlace_16 rfl (by decide) rfl ?_
  refine j_iload_n d_Surprise_hasInnerPlace_17 0 rfl rfl ?_
  refine j_iload_n d_Surprise_hasInnerPlace_18 1 rfl rfl ?_
  refine j_iconst (v := -1) d_Surprise_hasInnerPlace_19 (by decide) ?_
  refine j_ixor d_Surprise_hasInnerPlace_20 ?_
  refine j_iand d_Surprise_hasInnerPlace_21 ?_
  refine j_if_eq (tgt := 29) d_Surprise_hasInnerPlace_22 (by decide) ?_ ?_
  · refine j_iconst (v := 0) d_Surprise_hasInnerPlace_29 (by decide) ?_
    exact j_retZ d_Surprise_hasInnerPlace_30
  · refine j_iconst (v := 1) d_Surprise_hasInnerPlace_25 (by decide) ?_
    refine j_goto (tgt := 30) d_Surprise_hasInnerPlace_26 (by decide) ?_
    exact j_retZ d_Surprise_hasInnerPlace_30
set_option maxRecDepth 20000 in
theorem ct_Surprise_hasInnerPlace (N : Nat) (l : Launch) (D : va_G) (dA : Nat → ClassId) (B : Nat) (l0 : Option Nat) (l1 : Int32) (h : Hp) : Ct l (⟨"RingingChamber$Surprise", "hasInnerPlace", "(I)Z"⟩ : MethodName) prog_10_method_5_code 4 (some .boolean) 0 0 D dA B [vr l0, vi l1] h vI (Surprise_hasInnerPlace N l0 l1 h) :=
  Ct.of2 (own := "RingingChamber$Surprise") (nme := "hasInnerPlace") (lv := [(0, vr l0), (1, vi l1)]) rfl rfl (by decide) (Nat.le_of_ble_eq_true rfl) rfl (fun p e R s m args below meth c => jc_Surprise_hasInnerPlace N l0 l1 h)
theorem d_Surprise_hasPlacesWhereTrebleCrosses_0 : decode prog_10_method_4_code 0 = .ok (.iconst 1, 1) := by decide +kernel
theorem d_Surprise_hasPlacesWhereTrebleCrosses_1 : decode prog_10_method_4_code 1 = .ok (.istore_n 2, 1) := by decide +kernel
theorem d_Surprise_hasPlacesWhereTrebleCrosses_2 : decode prog_10_method_4_code 2 = .ok (.iconst 0, 1) := by decide +kernel
theorem d_Surprise_hasPlacesWhereTrebleCrosses_3 : decode prog_10_method_4_code 3 = .ok (.istore_n 3, 1) := by decide +kernel
theorem d_Surprise_hasPlacesWhereTrebleCrosses_4 : decode prog_10_method_4_code 4 = .ok (.iload_n 3, 1) := by decide +kernel
theorem d_Surprise_hasPlacesWhereTrebleCrosses_5 : decode prog_10_method_4_code 5 = .ok (.aload_n 1, 1) := by decide +kernel
theorem d_Surprise_hasPlacesWhereTrebleCrosses_6 : decode prog_10_method_4_code 6 = .ok (.getfield 28, 3) := by decide +kernel
theorem d_Surprise_hasPlacesWhereTrebleCrosses_9 : decode prog_10_method_4_code 9 = .ok (.if_icmp .ge 56, 3) := by decide +kernel
theorem d_Surprise_hasPlacesWhereTrebleCrosses_12 : decode prog_10_method_4_code 12 = .ok (.iload_n 2, 1) := by decide +kernel
theorem d_Surprise_hasPlacesWhereTrebleCrosses_13 : decode prog_10_method_4_code 13 = .ok (.aload_n 1, 1) := by decide +kernel
theorem d_Surprise_hasPlacesWhereTrebleCrosses_14 : decode prog_10_method_4_code 14 = .ok (.getfield 43, 3) := by decide +kernel
theorem d_Surprise_hasPlacesWhereTrebleCrosses_17 : decode prog_10_method_4_code 17 = .ok (.iload_n 3, 1) := by decide +kernel
theorem d_Surprise_hasPlacesWhereTrebleCrosses_18 : decode prog_10_method_4_code 18 = .ok (.iaload, 1) := by decide +kernel
theorem d_Surprise_hasPlacesWhereTrebleCrosses_19 : decode prog_10_method_4_code 19 = .ok (.invokestatic 46, 3) := by decide +kernel
theorem d_Surprise_hasPlacesWhereTrebleCrosses_22 : decode prog_10_method_4_code 22 = .ok (.istore 4, 2) := by decide +kernel
theorem d_Surprise_hasPlacesWhereTrebleCrosses_24 : decode prog_10_method_4_code 24 = .ok (.iload 4, 2) := by decide +kernel
theorem d_Surprise_hasPlacesWhereTrebleCrosses_26 : decode prog_10_method_4_code 26 = .ok (.iload_n 2, 1) := by decide +kernel
theorem d_Surprise_hasPlacesWhereTrebleCrosses_27 : decode prog_10_method_4_code 27 = .ok (.if_icmp .eq 29, 3) := by decide +kernel
theorem d_Surprise_hasPlacesWhereTrebleCrosses_30 : decode prog_10_method_4_code 30 = .ok (.iload_n 2, 1) := by decide +kernel
theorem d_Surprise_hasPlacesWhereTrebleCrosses_31 : decode prog_10_method_4_code 31 = .ok (.iload 4, 2) := by decide +kernel
theorem d_Surprise_hasPlacesWhereTrebleCrosses_33 : decode prog_10_method_4_code 33 = .ok (.invokestatic 50, 3) := by decide +kernel
theorem d_Surprise_hasPlacesWhereTrebleCrosses_36 : decode prog_10_method_4_code 36 = .ok (.iconst 2, 1) := by decide +kernel
theorem d_Surprise_hasPlacesWhereTrebleCrosses_37 : decode prog_10_method_4_code 37 = .ok (.irem, 1) := by decide +kernel
theorem d_Surprise_hasPlacesWhereTrebleCrosses_38 : decode prog_10_method_4_code 38 = .ok (.ifCond .ne 18, 3) := by decide +kernel
theorem d_Surprise_hasPlacesWhereTrebleCrosses_41 : decode prog_10_method_4_code 41 = .ok (.aload_n 0, 1) := by decide +kernel
theorem d_Surprise_hasPlacesWhereTrebleCrosses_42 : decode prog_10_method_4_code 42 = .ok (.aload_n 1, 1) := by decide +kernel
theorem d_Surprise_hasPlacesWhereTrebleCrosses_43 : decode prog_10_method_4_code 43 = .ok (.getfield 43, 3) := by decide +kernel
theorem d_Surprise_hasPlacesWhereTrebleCrosses_46 : decode prog_10_method_4_code 46 = .ok (.iload_n 3, 1) := by decide +kernel
theorem d_Surprise_hasPlacesWhereTrebleCrosses_47 : decode prog_10_method_4_code 47 = .ok (.iaload, 1) := by decide +kernel
theorem d_Surprise_hasPlacesWhereTrebleCrosses_48 : decode prog_10_method_4_code 48 = .ok (.invokevirtual 55, 3) := by decide +kernel
theorem d_Surprise_hasPlacesWhereTrebleCrosses_51 : decode prog_10_method_4_code 51 = .ok (.ifCond .ne 5, 3) := by decide +kernel
theorem d_Surprise_hasPlacesWhereTrebleCrosses_54 : decode prog_10_method_4_code 54 = .ok (.iconst 0, 1) := by decide +kernel
theorem d_Surprise_hasPlacesWhereTrebleCrosses_55 : decode prog_10_method_4_code 55 = .ok (.ireturn, 1) := by decide +kernel
theorem d_Surprise_hasPlacesWhereTrebleCrosses_56 : decode prog_10_method_4_code 56 = .ok (.iload 4, 2) := by decide +kernel
theorem d_Surprise_hasPlacesWhereTrebleCrosses_58 : decode prog_10_method_4_code 58 = .ok (.istore_n 2, 1) := by decide +kernel
theorem d_Surprise_hasPlacesWhereTrebleCrosses_59 : decode prog_10_method_4_code 59 = .ok (.iinc 3 1, 3) := by decide +kernel
theorem d_Surprise_hasPlacesWhereTrebleCrosses_62 : decode prog_10_method_4_code 62 = .ok (.goto (-58), 3) := by decide +kernel
theorem d_Surprise_hasPlacesWhereTrebleCrosses_65 : decode prog_10_method_4_code 65 = .ok (.iconst 1, 1) := by decide +kernel
theorem d_Surprise_hasPlacesWhereTrebleCrosses_66 : decode prog_10_method_4_code 66 = .ok (.ireturn, 1) := by decide +kernel
set_option maxRecDepth 20000 in
theorem jc_Surprise_hasPlacesWhereTrebleCrosses_56 (N : Nat) (re4 : Option Nat → Option Nat → Int32 → Int32 → Hp → Option (Int32 × Hp)) (hre4 : ∀ y0 y1 y2 y3 h, J p l e R s m args below meth c prog_10_method_4_code 5 "RingingChamber$Surprise" 1 30 (some .boolean) "hasPlacesWhereTrebleCrosses" D dA B n0 s0 (QM below args s D dA B n0 s0 vI) 4 [(0, vr y0), (1, vr y1), (2, vi y2), (3, vi y3)] [] h (re4 y0 y1 y2 y3 h)) (l0 : Option Nat) (l1 : Option Nat) (l3 : Int32) (l4 : Int32) (h : Hp) : J p l e R s m args below meth c prog_10_method_4_code 5 "RingingChamber$Surprise" 1 30 (some .boolean) "hasPlacesWhereTrebleCrosses" D dA B n0 s0 (QM below args s D dA B n0 s0 vI) 56 [(0, vr l0), (1, vr l1), (3, vi l3), (4, vi l4)] [] h (Surprise_hasPlacesWhereTrebleCrosses_56 N re4 l0 l1 l3 l4 h) := by
  unfold Surprise_hasPlacesWhereTrebleCrosses_56
  refine j_iload d_Surprise_hasPlacesWhereTrebleCrosses_56 3 rfl ?_
  refine j_istore_n (lv' := [(2, vi l4), (0, vr l0), (1, vr l1), (3, vi l3), (4, vi l4)]) d_Surprise_hasPlacesWhereTrebleCrosses_58 rfl (by decide) rfl ?_
  refine j_iinc (lvv := fun x1 => [(3, vi x1), (2, vi l4), (0, vr l0), (1, vr l1), (4, vi l4)]) d_Surprise_hasPlacesWhereTrebleCrosses_59 3 rfl rfl (by decide) (fun _ => rfl) (fun x1 => ?_)
  refine j_goto (tgt := 4) d_Surprise_hasPlacesWhereTrebleCrosses_62 (by decide) ?_
  exact J.sub [2, 3, 1, 0] rfl (hre4 l0 l1 l4 x1 h)
set_option maxRecDepth 20000 in
theorem jc_Surprise_hasPlacesWhereTrebleCrosses_4 (N : Nat) : ∀ (n : Nat) (l0 : Option Nat) (l1 : Option Nat) (l2 : Int32) (l3 : Int32) (h : Hp), J p l e R s m args below meth c prog_10_method_4_code 5 "RingingChamber$Surprise" 1 30 (some .boolean) "hasPlacesWhereTrebleCrosses" D dA B n0 s0 (QM below args s D dA B n0 s0 vI) 4 [(0, vr l0), (1, vr l1), (2, vi l2), (3, vi l3)] [] h (Surprise_hasPlacesWhereTrebleCrosses_4 N n l0 l1 l2 l3 h) := by
  intro n
  induction n with
  | zero => intros; exact J.none
  | succ n ih =>
    intro l0 l1 l2 l3 h
    rw [Surprise_hasPlacesWhereTrebleCrosses_4]
    refine j_iload_n d_Surprise_hasPlacesWhereTrebleCrosses_4 3 rfl rfl ?_
    refine j_aload_n d_Surprise_hasPlacesWhereTrebleCrosses_5 1 rfl rfl ?_
    refine j_getI d_Surprise_hasPlacesWhereTrebleCrosses_6 fl_7_28.r (fun x1 => ?_)
    refine j_icmp_ge (tgt := 65) d_Surprise_hasPlacesWhereTrebleCrosses_9 (by decide) ?_ ?_
    · refine j_iconst (v := 1) d_Surprise_hasPlacesWhereTrebleCrosses_65 (by decide) ?_
      exact j_retZ d_Surprise_hasPlacesWhereTrebleCrosses_66
    · refine j_iload_n d_Surprise_hasPlacesWhereTrebleCrosses_12 2 rfl rfl ?_
      refine j_aload_n d_Surprise_hasPlacesWhereTrebleCrosses_13 1 rfl rfl ?_
      refine j_getR d_Surprise_hasPlacesWhereTrebleCrosses_14 fl_7_43 (fun x2 => ?_)
      refine j_iload_n d_Surprise_hasPlacesWhereTrebleCrosses_17 3 rfl rfl ?_
      refine j_iald d_Surprise_hasPlacesWhereTrebleCrosses_18 (fun x3 => ?_)
      refine j_uSI2 d_Surprise_hasPlacesWhereTrebleCrosses_19 su_7_46 ks_Meth_placeBehind (ct_Meth_placeBehind N l D dA B l2 x3 h) (by decide) (by decide) (Nat.le_of_ble_eq_true rfl) (fun x5 h4 => ?_)
      refine j_istore (lv' := [(4, vi x5), (0, vr l0), (1, vr l1), (2, vi l2), (3, vi l3)]) d_Surprise_hasPlacesWhereTrebleCrosses_22 (by decide) rfl ?_
      refine j_iload d_Surprise_hasPlacesWhereTrebleCrosses_24 0 rfl ?_
      refine j_iload_n d_Surprise_hasPlacesWhereTrebleCrosses_26 3 rfl rfl ?_
      refine j_icmp_eq (tgt := 56) d_Surprise_hasPlacesWhereTrebleCrosses_27 (by decide) ?_ ?_
      · exact J.sub [1, 2, 4, 0] rfl (jc_Surprise_hasPlacesWhereTrebleCrosses_56 N (Surprise_hasPlacesWhereTrebleCrosses_4 N n) ih l0 l1 l3 x5 h4)
      · refine j_iload_n d_Surprise_hasPlacesWhereTrebleCrosses_30 3 rfl rfl ?_
        refine j_iload d_Surprise_hasPlacesWhereTrebleCrosses_31 0 rfl ?_
        refine j_mmin d_Surprise_hasPlacesWhereTrebleCrosses_33 kmt_7_50 kms_min kmi kmc_min (by decide) (by decide) (Nat.le_of_ble_eq_true rfl) ?_
        refine j_iconst (v := 2) d_Surprise_hasPlacesWhereTrebleCrosses_36 (by decide) ?_
        refine j_irem d_Surprise_hasPlacesWhereTrebleCrosses_37 ?_
        refine j_if_ne (tgt := 56) d_Surprise_hasPlacesWhereTrebleCrosses_38 (by decide) ?_ ?_
        · refine j_aload_n d_Surprise_hasPlacesWhereTrebleCrosses_41 1 rfl rfl ?_
          refine j_aload_n d_Surprise_hasPlacesWhereTrebleCrosses_42 2 rfl rfl ?_
          refine j_getR d_Surprise_hasPlacesWhereTrebleCrosses_43 fl_7_43 (fun x6 => ?_)
          refine j_iload_n d_Surprise_hasPlacesWhereTrebleCrosses_46 4 rfl rfl ?_
          refine j_iald d_Surprise_hasPlacesWhereTrebleCrosses_47 (fun x7 => ?_)
          refine j_vI1 d_Surprise_hasPlacesWhereTrebleCrosses_48 (allQ.cons (VD.mk vt_7_55_7 (ct_Surprise_hasInnerPlace N l D dA B l0 x7 h4) (by decide) (by decide)) allQ.nil) (Nat.le_of_ble_eq_true rfl) (fun x9 h8 => ?_)
          refine j_if_ne (tgt := 56) d_Surprise_hasPlacesWhereTrebleCrosses_51 (by decide) ?_ ?_
          · refine j_iconst (v := 0) d_Surprise_hasPlacesWhereTrebleCrosses_54 (by decide) ?_
            exact j_retZ d_Surprise_hasPlacesWhereTrebleCrosses_55
          · exact J.sub [1, 2, 4, 0] rfl (jc_Surprise_hasPlacesWhereTrebleCrosses_56 N (Surprise_hasPlacesWhereTrebleCrosses_4 N n) ih l0 l1 l3 x5 h8)
        · exact J.sub [1, 2, 4, 0] rfl (jc_Surprise_hasPlacesWhereTrebleCrosses_56 N (Surprise_hasPlacesWhereTrebleCrosses_4 N n) ih l0 l1 l3 x5 h4)
set_option maxRecDepth 20000 in
theorem jc_Surprise_hasPlacesWhereTrebleCrosses (N : Nat) (l0 : Option Nat) (l1 : Option Nat) (h : Hp) : J p l e R s m args below meth c prog_10_method_4_code 5 "RingingChamber$Surprise" 1 30 (some .boolean) "hasPlacesWhereTrebleCrosses" D dA B n0 s0 (QM below args s D dA B n0 s0 vI) 0 [(0, vr l0), (1, vr l1)] [] h (Surprise_hasPlacesWhereTrebleCrosses N l0 l1 h) := by
  unfold Surprise_hasPlacesWhereTrebleCrosses
  refine j_iconst (v := 1) d_Surprise_hasPlacesWhereTrebleCrosses_0 (by decide) ?_
  refine j_istore_n (lv' := [(2, vi 1), (0, vr l0), (1, vr l1)]) d_Surprise_hasPlacesWhereTrebleCrosses_1 rfl (by decide) rfl ?_
  refine j_iconst (v := 0) d_Surprise_hasPlacesWhereTrebleCrosses_2 (by decide) ?_
  refine j_istore_n (lv' := [(3, vi 0), (2, vi 1), (0, vr l0), (1, vr l1)]) d_Surprise_hasPlacesWhereTrebleCrosses_3 rfl (by decide) rfl ?_
  exact J.sub [2, 3, 1, 0] rfl (jc_Surprise_hasPlacesWhereTrebleCrosses_4 N N l0 l1 1 0 h)
set_option maxRecDepth 20000 in
theorem ct_Surprise_hasPlacesWhereTrebleCrosses (N : Nat) (l : Launch) (D : va_G) (dA : Nat → ClassId) (B : Nat) (l0 : Option Nat) (l1 : Option Nat) (h : Hp) : Ct l (⟨"RingingChamber$Surprise", "hasPlacesWhereTrebleCrosses", "(LRingingChamber$Lead;)Z"⟩ : MethodName) prog_10_method_4_code 5 (some .boolean) 1 30 D dA B [vr l0, vr l1] h vI (Surprise_hasPlacesWhereTrebleCrosses N l0 l1 h) :=
  Ct.of2 (own := "RingingChamber$Surprise") (nme := "hasPlacesWhereTrebleCrosses") (lv := [(0, vr l0), (1, vr l1)]) rfl rfl (by decide) (Nat.le_of_ble_eq_true rfl) rfl (fun p e R s m args below meth c => jc_Surprise_hasPlacesWhereTrebleCrosses N l0 l1 h)
theorem d_Surprise_judged_0 : decode prog_10_method_3_code 0 = .ok (.aload_n 0, 1) := by decide +kernel
theorem d_Surprise_judged_1 : decode prog_10_method_3_code 1 = .ok (.getfield 9, 3) := by decide +kernel
theorem d_Surprise_judged_4 : decode prog_10_method_3_code 4 = .ok (.bipush 11, 2) := by decide +kernel
theorem d_Surprise_judged_6 : decode prog_10_method_3_code 6 = .ok (.dup2, 1) := by decide +kernel
theorem d_Surprise_judged_7 : decode prog_10_method_3_code 7 = .ok (.iaload, 1) := by decide +kernel
theorem d_Surprise_judged_8 : decode prog_10_method_3_code 8 = .ok (.iconst 1, 1) := by decide +kernel
theorem d_Surprise_judged_9 : decode prog_10_method_3_code 9 = .ok (.iadd, 1) := by decide +kernel
theorem d_Surprise_judged_10 : decode prog_10_method_3_code 10 = .ok (.iastore, 1) := by decide +kernel
theorem d_Surprise_judged_11 : decode prog_10_method_3_code 11 = .ok (.aload_n 0, 1) := by decide +kernel
theorem d_Surprise_judged_12 : decode prog_10_method_3_code 12 = .ok (.invokespecial 35, 3) := by decide +kernel
theorem d_Surprise_judged_15 : decode prog_10_method_3_code 15 = .ok (.istore_n 1, 1) := by decide +kernel
theorem d_Surprise_judged_16 : decode prog_10_method_3_code 16 = .ok (.iload_n 1, 1) := by decide +kernel
theorem d_Surprise_judged_17 : decode prog_10_method_3_code 17 = .ok (.ifCond .ge 5, 3) := by decide +kernel
theorem d_Surprise_judged_20 : decode prog_10_method_3_code 20 = .ok (.iload_n 1, 1) := by decide +kernel
theorem d_Surprise_judged_21 : decode prog_10_method_3_code 21 = .ok (.ireturn, 1) := by decide +kernel
theorem d_Surprise_judged_22 : decode prog_10_method_3_code 22 = .ok (.aload_n 0, 1) := by decide +kernel
theorem d_Surprise_judged_23 : decode prog_10_method_3_code 23 = .ok (.aload_n 0, 1) := by decide +kernel
theorem d_Surprise_judged_24 : decode prog_10_method_3_code 24 = .ok (.iconst 0, 1) := by decide +kernel
theorem d_Surprise_judged_25 : decode prog_10_method_3_code 25 = .ok (.invokevirtual 18, 3) := by decide +kernel
theorem d_Surprise_judged_28 : decode prog_10_method_3_code 28 = .ok (.invokevirtual 39, 3) := by decide +kernel
theorem d_Surprise_judged_31 : decode prog_10_method_3_code 31 = .ok (.istore_n 2, 1) := by decide +kernel
theorem d_Surprise_judged_32 : decode prog_10_method_3_code 32 = .ok (.iload_n 1, 1) := by decide +kernel
theorem d_Surprise_judged_33 : decode prog_10_method_3_code 33 = .ok (.iconst 1, 1) := by decide +kernel
theorem d_Surprise_judged_34 : decode prog_10_method_3_code 34 = .ok (.if_icmp .ne 11, 3) := by decide +kernel
theorem d_Surprise_judged_37 : decode prog_10_method_3_code 37 = .ok (.iload_n 2, 1) := by decide +kernel
theorem d_Surprise_judged_38 : decode prog_10_method_3_code 38 = .ok (.ifCond .eq 7, 3) := by decide +kernel
theorem d_Surprise_judged_41 : decode prog_10_method_3_code 41 = .ok (.iconst 1, 1) := by decide +kernel
theorem d_Surprise_judged_42 : decode prog_10_method_3_code 42 = .ok (.goto 4, 3) := by decide +kernel
theorem d_Surprise_judged_45 : decode prog_10_method_3_code 45 = .ok (.iconst 0, 1) := by decide +kernel
theorem d_Surprise_judged_46 : decode prog_10_method_3_code 46 = .ok (.ireturn, 1) := by decide +kernel
set_option maxRecDepth 20000 in
theorem jc_Surprise_judged (N : Nat) (l0 : Option Nat) (h : Hp) : J p l e R s m args below meth c prog_10_method_3_code 3 "RingingChamber$Surprise" 4 87 (some .int) "judged" D dA B n0 s0 (QM below args s D dA B n0 s0 vI) 0 [(0, vr l0)] [] h (Surprise_judged N l0 h) := by
  unfold Surprise_judged
  refine j_aload_n d_Surprise_judged_0 0 rfl rfl ?_
  refine j_getR d_Surprise_judged_1 fl_7_9 (fun x1 => ?_)
  refine j_bipush (v := 11) d_Surprise_judged_4 (by decide) ?_
  refine j_dup2_11 d_Surprise_judged_6 rfl rfl ?_
  refine j_iald d_Surprise_judged_7 (fun x2 => ?_)
  refine j_iconst (v := 1) d_Surprise_judged_8 (by decide) ?_
  refine j_iadd d_Surprise_judged_9 ?_
  refine j_iast d_Surprise_judged_10 (fun h3 => ?_)
  refine j_aload_n d_Surprise_judged_11 0 rfl rfl ?_
  refine j_pI0 d_Surprise_judged_12 sl_7_35 kp_7_35 (by decide) (ct_Treble_judged N l D dA B l0 h3) (by decide) (by decide) (Nat.le_of_ble_eq_true rfl) (fun x5 h4 => ?_)
  refine j_istore_n (lv' := [(1, vi x5), (0, vr l0)]) d_Surprise_judged_15 rfl (by decide) rfl ?_
  refine j_iload_n d_Surprise_judged_16 0 rfl rfl ?_
  refine j_if_ge (tgt := 22) d_Surprise_judged_17 (by decide) ?_ ?_
  · refine j_aload_n d_Surprise_judged_22 1 rfl rfl ?_
    refine j_aload_n d_Surprise_judged_23 1 rfl rfl ?_
    refine j_iconst (v := 0) d_Surprise_judged_24 (by decide) ?_
    refine j_vR1 d_Surprise_judged_25 (allQ.cons (VD.mk vt_7_18_7 (ct_Plain_leadOf N l D dA B l0 0 h4) (by decide) (by decide)) allQ.nil) (Nat.le_of_ble_eq_true rfl) (fun x7 h6 => ?_)
    refine j_vI1 d_Surprise_judged_28 (allQ.cons (VD.mk vt_7_39_7 (ct_Surprise_hasPlacesWhereTrebleCrosses N l D dA B l0 x7 h6) (by decide) (by decide)) allQ.nil) (Nat.le_of_ble_eq_true rfl) (fun x9 h8 => ?_)
    refine j_istore_n (lv' := [(2, vi x9), (1, vi x5), (0, vr l0)]) d_Surprise_judged_31 rfl (by decide) rfl ?_
    refine j_iload_n d_Surprise_judged_32 1 rfl rfl ?_
    refine j_iconst (v := 1) d_Surprise_judged_33 (by decide) ?_
    refine j_icmp_ne (tgt := 45) d_Surprise_judged_34 (by decide) ?_ ?_
    · refine j_iload_n d_Surprise_judged_37 0 rfl rfl ?_
      refine j_if_eq (tgt := 45) d_Surprise_judged_38 (by decide) ?_ ?_
      · refine j_iconst (v := 0) d_Surprise_judged_45 (by decide) ?_
        exact j_retI d_Surprise_judged_46
      · refine j_iconst (v := 1) d_Surprise_judged_41 (by decide) ?_
        refine j_goto (tgt := 46) d_Surprise_judged_42 (by decide) ?_
        exact j_retI d_Surprise_judged_46
    · refine j_iconst (v := 0) d_Surprise_judged_45 (by decide) ?_
      exact j_retI d_Surprise_judged_46
  · refine j_iload_n d_Surprise_judged_20 0 rfl rfl ?_
    exact j_retI d_Surprise_judged_21
set_option maxRecDepth 20000 in
theorem ct_Surprise_judged (N : Nat) (l : Launch) (D : va_G) (dA : Nat → ClassId) (B : Nat) (l0 : Option Nat) (h : Hp) : Ct l (⟨"RingingChamber$Surprise", "judged", "()I"⟩ : MethodName) prog_10_method_3_code 3 (some .int) 4 87 D dA B [vr l0] h vI (Surprise_judged N l0 h) :=
  Ct.of2 (own := "RingingChamber$Surprise") (nme := "judged") (lv := [(0, vr l0)]) rfl rfl (by decide) (Nat.le_of_ble_eq_true rfl) rfl (fun p e R s m args below meth c => jc_Surprise_judged N l0 h)
theorem d_Spliced_judged_0 : decode prog_9_method_5_code 0 = .ok (.aload_n 0, 1) := by decide +kernel
theorem d_Spliced_judged_1 : decode prog_9_method_5_code 1 = .ok (.getfield 28, 3) := by decide +kernel
theorem d_Spliced_judged_4 : decode prog_9_method_5_code 4 = .ok (.bipush 17, 2) := by decide +kernel
theorem d_Spliced_judged_6 : decode prog_9_method_5_code 6 = .ok (.dup2, 1) := by decide +kernel
theorem d_Spliced_judged_7 : decode prog_9_method_5_code 7 = .ok (.iaload, 1) := by decide +kernel
theorem d_Spliced_judged_8 : decode prog_9_method_5_code 8 = .ok (.iconst 1, 1) := by decide +kernel
theorem d_Spliced_judged_9 : decode prog_9_method_5_code 9 = .ok (.iadd, 1) := by decide +kernel
theorem d_Spliced_judged_10 : decode prog_9_method_5_code 10 = .ok (.iastore, 1) := by decide +kernel
theorem d_Spliced_judged_11 : decode prog_9_method_5_code 11 = .ok (.bipush (-7), 2) := by decide +kernel
theorem d_Spliced_judged_13 : decode prog_9_method_5_code 13 = .ok (.istore_n 1, 1) := by decide +kernel
theorem d_Spliced_judged_14 : decode prog_9_method_5_code 14 = .ok (.iconst 0, 1) := by decide +kernel
theorem d_Spliced_judged_15 : decode prog_9_method_5_code 15 = .ok (.istore_n 2, 1) := by decide +kernel
theorem d_Spliced_judged_16 : decode prog_9_method_5_code 16 = .ok (.iload_n 2, 1) := by decide +kernel
theorem d_Spliced_judged_17 : decode prog_9_method_5_code 17 = .ok (.aload_n 0, 1) := by decide +kernel
theorem d_Spliced_judged_18 : decode prog_9_method_5_code 18 = .ok (.getfield 25, 3) := by decide +kernel
theorem d_Spliced_judged_21 : decode prog_9_method_5_code 21 = .ok (.if_icmp .ge 37, 3) := by decide +kernel
theorem d_Spliced_judged_24 : decode prog_9_method_5_code 24 = .ok (.aload_n 0, 1) := by decide +kernel
theorem d_Spliced_judged_25 : decode prog_9_method_5_code 25 = .ok (.getfield 9, 3) := by decide +kernel
theorem d_Spliced_judged_28 : decode prog_9_method_5_code 28 = .ok (.iload_n 2, 1) := by decide +kernel
theorem d_Spliced_judged_29 : decode prog_9_method_5_code 29 = .ok (.aaload, 1) := by decide +kernel
theorem d_Spliced_judged_30 : decode prog_9_method_5_code 30 = .ok (.astore_n 3, 1) := by decide +kernel
theorem d_Spliced_judged_31 : decode prog_9_method_5_code 31 = .ok (.aload_n 3, 1) := by decide +kernel
theorem d_Spliced_judged_32 : decode prog_9_method_5_code 32 = .ok (.ifnonnull 8, 3) := by decide +kernel
theorem d_Spliced_judged_35 : decode prog_9_method_5_code 35 = .ok (.bipush (-4), 2) := by decide +kernel
theorem d_Spliced_judged_37 : decode prog_9_method_5_code 37 = .ok (.goto 7, 3) := by decide +kernel
theorem d_Spliced_judged_40 : decode prog_9_method_5_code 40 = .ok (.aload_n 3, 1) := by decide +kernel
theorem d_Spliced_judged_41 : decode prog_9_method_5_code 41 = .ok (.invokevirtual 44, 3) := by decide +kernel
theorem d_Spliced_judged_44 : decode prog_9_method_5_code 44 = .ok (.istore_n 1, 1) := by decide +kernel
theorem d_Spliced_judged_45 : decode prog_9_method_5_code 45 = .ok (.iload_n 1, 1) := by decide +kernel
theorem d_Spliced_judged_46 : decode prog_9_method_5_code 46 = .ok (.iconst 1, 1) := by decide +kernel
theorem d_Spliced_judged_47 : decode prog_9_method_5_code 47 = .ok (.if_icmp .eq 5, 3) := by decide +kernel
theorem d_Spliced_judged_50 : decode prog_9_method_5_code 50 = .ok (.iload_n 1, 1) := by decide +kernel
theorem d_Spliced_judged_51 : decode prog_9_method_5_code 51 = .ok (.ireturn, 1) := by decide +kernel
theorem d_Spliced_judged_52 : decode prog_9_method_5_code 52 = .ok (.iinc 2 1, 3) := by decide +kernel
theorem d_Spliced_judged_55 : decode prog_9_method_5_code 55 = .ok (.goto (-39), 3) := by decide +kernel
theorem d_Spliced_judged_58 : decode prog_9_method_5_code 58 = .ok (.iload_n 1, 1) := by decide +kernel
theorem d_Spliced_judged_59 : decode prog_9_method_5_code 59 = .ok (.ireturn, 1) := by decide +kernel
set_option maxRecDepth 20000 in
theorem jc_Spliced_judged_44 (N : Nat) (re16 : Option Nat → Int32 → Int32 → Hp → Option (Int32 × Hp)) (hre16 : ∀ y0 y1 y2 h, J p l e R s m args below meth c prog_9_method_5_code 4 "RingingChamber$Spliced" 5 109 (some .int) "judged" D dA B n0 s0 (QM below args s D dA B n0 s0 vI) 16 [(0, vr y0), (1, vi y1), (2, vi y2)] [] h (re16 y0 y1 y2 h)) (l0 : Option Nat) (l2 : Int32) (u0 : Int32) (h : Hp) : J p l e R s m args below meth c prog_9_method_5_code 4 "RingingChamber$Spliced" 5 109 (some .int) "judged" D dA B n0 s0 (QM below args s D dA B n0 s0 vI) 44 [(0, vr l0), (2, vi l2)] [vi u0] h (Spliced_judged_44 N re16 l0 l2 u0 h) := by
  unfold Spliced_judged_44
  refine j_istore_n (lv' := [(1, vi u0), (0, vr l0), (2, vi l2)]) d_Spliced_judged_44 rfl (by decide) rfl ?_
  refine j_iload_n d_Spliced_judged_45 0 rfl rfl ?_
  refine j_iconst (v := 1) d_Spliced_judged_46 (by decide) ?_
  refine j_icmp_eq (tgt := 52) d_Spliced_judged_47 (by decide) ?_ ?_
  · refine j_iinc (lvv := fun x1 => [(2, vi x1), (1, vi u0), (0, vr l0)]) d_Spliced_judged_52 2 rfl rfl (by decide) (fun _ => rfl) (fun x1 => ?_)
    refine j_goto (tgt := 16) d_Spliced_judged_55 (by decide) ?_
    exact J.sub [2, 1, 0] rfl (hre16 l0 u0 x1 h)
  · refine j_iload_n d_Spliced_judged_50 0 rfl rfl ?_
    exact j_retI d_Spliced_judged_51
set_option maxRecDepth 20000 in
theorem jc_Spliced_judged_16 (N : Nat) : ∀ (n : Nat) (l0 : Option Nat) (l1 : Int32) (l2 : Int32) (h : Hp), J p l e R s m args below meth c prog_9_method_5_code 4 "RingingChamber$Spliced" 5 109 (some .int) "judged" D dA B n0 s0 (QM below args s D dA B n0 s0 vI) 16 [(0, vr l0), (1, vi l1), (2, vi l2)] [] h (Spliced_judged_16 N n l0 l1 l2 h) := by
  intro n
  induction n with
  | zero => intros; exact J.none
  | succ n ih =>
    intro l0 l1 l2 h
    rw [Spliced_judged_16]
    refine j_iload_n d_Spliced_judged_16 2 rfl rfl ?_
    refine j_aload_n d_Spliced_judged_17 0 rfl rfl ?_
    refine j_getI d_Spliced_judged_18 fl_6_25.r (fun x1 => ?_)
    refine j_icmp_ge (tgt := 58) d_Spliced_judged_21 (by decide) ?_ ?_
    · refine j_iload_n d_Spliced_judged_58 1 rfl rfl ?_
      exact j_retI d_Spliced_judged_59
    · refine j_aload_n d_Spliced_judged_24 0 rfl rfl ?_
      refine j_getR d_Spliced_judged_25 fl_6_9.r (fun x2 => ?_)
      refine j_iload_n d_Spliced_judged_28 2 rfl rfl ?_
      refine j_ald18 d_Spliced_judged_29 (fun x3 => ?_)
      refine j_astore_n (lv' := [(3, vr x3), (0, vr l0), (1, vi l1), (2, vi l2)]) d_Spliced_judged_30 rfl (by decide) rfl ?_
      refine j_aload_n d_Spliced_judged_31 0 rfl rfl ?_
      refine j_ifnonnull (tgt := 40) d_Spliced_judged_32 (by decide) ?_ ?_
      · refine j_bipush (v := -4) d_Spliced_judged_35 (by decide) ?_
        refine j_goto (tgt := 44) d_Spliced_judged_37 (by decide) ?_
        exact J.sub [1, 3] rfl (jc_Spliced_judged_44 N (Spliced_judged_16 N n) ih l0 l2 (-4) h)
      · refine j_aload_n d_Spliced_judged_40 0 rfl rfl ?_
        refine j_vI0 d_Spliced_judged_41 (allQ.cons (VD.mk vt_6_44_1 (ct_Little_judged N l D dA B x3 h) (by decide) (by decide)) (allQ.cons (VD.mk vt_6_44_2 (ct_Plain_judged N l D dA B x3 h) (by decide) (by decide)) (allQ.cons (VD.mk vt_6_44_3 (ct_Principle_judged N l D dA B x3 h) (by decide) (by decide)) (allQ.cons (VD.mk vt_6_44_7 (ct_Surprise_judged N l D dA B x3 h) (by decide) (by decide)) (allQ.cons (VD.mk vt_6_44_10 (ct_Treble_judged N l D dA B x3 h) (by decide) (by decide)) allQ.nil))))) (Nat.le_of_ble_eq_true rfl) (fun x5 h4 => ?_)
        exact J.sub [1, 3] rfl (jc_Spliced_judged_44 N (Spliced_judged_16 N n) ih l0 l2 x5 h4)
set_option maxRecDepth 20000 in
theorem jc_Spliced_judged (N : Nat) (l0 : Option Nat) (h : Hp) : J p l e R s m args below meth c prog_9_method_5_code 4 "RingingChamber$Spliced" 5 109 (some .int) "judged" D dA B n0 s0 (QM below args s D dA B n0 s0 vI) 0 [(0, vr l0)] [] h (Spliced_judged N l0 h) := by
  unfold Spliced_judged
  refine j_aload_n d_Spliced_judged_0 0 rfl rfl ?_
  refine j_getR d_Spliced_judged_1 fl_6_28 (fun x1 => ?_)
  refine j_bipush (v := 17) d_Spliced_judged_4 (by decide) ?_
  refine j_dup2_11 d_Spliced_judged_6 rfl rfl ?_
  refine j_iald d_Spliced_judged_7 (fun x2 => ?_)
  refine j_iconst (v := 1) d_Spliced_judged_8 (by decide) ?_
  refine j_iadd d_Spliced_judged_9 ?_
  refine j_iast d_Spliced_judged_10 (fun h3 => ?_)
  refine j_bipush (v := -7) d_Spliced_judged_11 (by decide) ?_
  refine j_istore_n (lv' := [(1, vi (-7)), (0, vr l0)]) d_Spliced_judged_13 rfl (by decide) rfl ?_
  refine j_iconst (v := 0) d_Spliced_judged_14 (by decide) ?_
  refine j_istore_n (lv' := [(2, vi 0), (1, vi (-7)), (0, vr l0)]) d_Spliced_judged_15 rfl (by decide) rfl ?_
  exact J.sub [2, 1, 0] rfl (jc_Spliced_judged_16 N N l0 (-7) 0 h3)
set_option maxRecDepth 20000 in
theorem ct_Spliced_judged (N : Nat) (l : Launch) (D : va_G) (dA : Nat → ClassId) (B : Nat) (l0 : Option Nat) (h : Hp) : Ct l (⟨"RingingChamber$Spliced", "judged", "()I"⟩ : MethodName) prog_9_method_5_code 4 (some .int) 5 109 D dA B [vr l0] h vI (Spliced_judged N l0 h) :=
  Ct.of2 (own := "RingingChamber$Spliced") (nme := "judged") (lv := [(0, vr l0)]) rfl rfl (by decide) (Nat.le_of_ble_eq_true rfl) rfl (fun p e R s m args below meth c => jc_Spliced_judged N l0 h)
theorem d_Treble_init_0 : decode prog_13_method_1_code 0 = .ok (.aload_n 0, 1) := by decide +kernel
theorem d_Treble_init_1 : decode prog_13_method_1_code 1 = .ok (.iload_n 1, 1) := by decide +kernel
theorem d_Treble_init_2 : decode prog_13_method_1_code 2 = .ok (.aload_n 2, 1) := by decide +kernel
theorem d_Treble_init_3 : decode prog_13_method_1_code 3 = .ok (.invokespecial 3, 3) := by decide +kernel
theorem d_Treble_init_6 : decode prog_13_method_1_code 6 = .ok (.return_, 1) := by decide +kernel
set_option maxRecDepth 20000 in
theorem jc_Treble_init (N : Nat) (l0 : Option Nat) (l1 : Int32) (l2 : Option Nat) (h : Hp) : J p l e R s m args below meth c prog_13_method_1_code 3 "RingingChamber$Treble" 4 84 none "<init>" D dA B n0 s0 (QM below args s D dA B n0 s0 vU) 0 [(0, vr l0), (1, vi l1), (2, vr l2)] [] h (Treble_init N l0 l1 l2 h) := by
  unfold Treble_init
  refine j_aload_n d_Treble_init_0 0 rfl rfl ?_
  refine j_iload_n d_Treble_init_1 1 rfl rfl ?_
  refine j_aload_n d_Treble_init_2 2 rfl rfl ?_
  refine j_i2 d_Treble_init_3 sl_10_3 ki_Plain_init (ct_Plain_init N l D dA B l0 l1 l2 h) (by decide) (by decide) (Nat.le_of_ble_eq_true rfl) (fun _ h1 => ?_)
  exact j_retU d_Treble_init_6
set_option maxRecDepth 20000 in
theorem ct_Treble_init (N : Nat) (l : Launch) (D : va_G) (dA : Nat → ClassId) (B : Nat) (l0 : Option Nat) (l1 : Int32) (l2 : Option Nat) (h : Hp) : Ct l (⟨"RingingChamber$Treble", "<init>", "(I[I)V"⟩ : MethodName) prog_13_method_1_code 3 none 4 84 D dA B [vr l0, vi l1, vr l2] h vU (Treble_init N l0 l1 l2 h) :=
  Ct.of2 (own := "RingingChamber$Treble") (nme := "<init>") (lv := [(0, vr l0), (1, vi l1), (2, vr l2)]) rfl rfl (by decide) (Nat.le_of_ble_eq_true rfl) rfl (fun p e R s m args below meth c => jc_Treble_init N l0 l1 l2 h)
theorem d_Surprise_init_0 : decode prog_10_method_1_code 0 = .ok (.aload_n 0, 1) := by decide +kernel
theorem d_Surprise_init_1 : decode prog_10_method_1_code 1 = .ok (.iload_n 1, 1) := by decide +kernel
theorem d_Surprise_init_2 : decode prog_10_method_1_code 2 = .ok (.aload_n 2, 1) := by decide +kernel
theorem d_Surprise_init_3 : decode prog_10_method_1_code 3 = .ok (.invokespecial 3, 3) := by decide +kernel
theorem d_Surprise_init_6 : decode prog_10_method_1_code 6 = .ok (.return_, 1) := by decide +kernel
set_option maxRecDepth 20000 in
theorem jc_Surprise_init (N : Nat) (l0 : Option Nat) (l1 : Int32) (l2 : Option Nat) (h : Hp) : J p l e R s m args below meth c prog_10_method_1_code 3 "RingingChamber$Surprise" 5 106 none "<init>" D dA B n0 s0 (QM below args s D dA B n0 s0 vU) 0 [(0, vr l0), (1, vi l1), (2, vr l2)] [] h (Surprise_init N l0 l1 l2 h) := by
  unfold Surprise_init
  refine j_aload_n d_Surprise_init_0 0 rfl rfl ?_
  refine j_iload_n d_Surprise_init_1 1 rfl rfl ?_
  refine j_aload_n d_Surprise_init_2 2 rfl rfl ?_
  refine j_i2 d_Surprise_init_3 sl_7_3 ki_Treble_init (ct_Treble_init N l D dA B l0 l1 l2 h) (by decide) (by decide) (Nat.le_of_ble_eq_true rfl) (fun _ h1 => ?_)
  exact j_retU d_Surprise_init_6
set_option maxRecDepth 20000 in
theorem ct_Surprise_init (N : Nat) (l : Launch) (D : va_G) (dA : Nat → ClassId) (B : Nat) (l0 : Option Nat) (l1 : Int32) (l2 : Option Nat) (h : Hp) : Ct l (⟨"RingingChamber$Surprise", "<init>", "(I[I)V"⟩ : MethodName) prog_10_method_1_code 3 none 5 106 D dA B [vr l0, vi l1, vr l2] h vU (Surprise_init N l0 l1 l2 h) :=
  Ct.of2 (own := "RingingChamber$Surprise") (nme := "<init>") (lv := [(0, vr l0), (1, vi l1), (2, vr l2)]) rfl rfl (by decide) (Nat.le_of_ble_eq_true rfl) rfl (fun p e R s m args below meth c => jc_Surprise_init N l0 l1 l2 h)
theorem d_Tape_init_0 : decode prog_11_method_1_code 0 = .ok (.aload_n 0, 1) := by decide +kernel
theorem d_Tape_init_1 : decode prog_11_method_1_code 1 = .ok (.invokespecial 3, 3) := by decide +kernel
theorem d_Tape_init_4 : decode prog_11_method_1_code 4 = .ok (.aload_n 0, 1) := by decide +kernel
theorem d_Tape_init_5 : decode prog_11_method_1_code 5 = .ok (.sipush 300, 3) := by decide +kernel
theorem d_Tape_init_8 : decode prog_11_method_1_code 8 = .ok (.newarray .byte, 2) := by decide +kernel
theorem d_Tape_init_10 : decode prog_11_method_1_code 10 = .ok (.putfield 9, 3) := by decide +kernel
theorem d_Tape_init_13 : decode prog_11_method_1_code 13 = .ok (.aload_n 0, 1) := by decide +kernel
theorem d_Tape_init_14 : decode prog_11_method_1_code 14 = .ok (.sipush 300, 3) := by decide +kernel
theorem d_Tape_init_17 : decode prog_11_method_1_code 17 = .ok (.newarray .int, 2) := by decide +kernel
theorem d_Tape_init_19 : decode prog_11_method_1_code 19 = .ok (.putfield 15, 3) := by decide +kernel
theorem d_Tape_init_22 : decode prog_11_method_1_code 22 = .ok (.return_, 1) := by decide +kernel
set_option maxRecDepth 20000 in
theorem jc_Tape_init (N : Nat) (l0 : Option Nat) (h : Hp) : J p l e R s m args below meth c prog_11_method_1_code 1 "RingingChamber$Tape" 1 20 none "<init>" D dA B n0 s0 (QM below args s D dA B n0 s0 vU) 0 [(0, vr l0)] [] h (Tape_init N l0 h) := by
  unfold Tape_init
  refine j_aload_n d_Tape_init_0 0 rfl rfl ?_
  refine j_obj d_Tape_init_1 ko_8_3 ko_i ko_c (by decide) (by decide) (Nat.le_of_ble_eq_true rfl) ?_
  refine j_aload_n d_Tape_init_4 0 rfl rfl ?_
  refine j_sipush (v := 300) d_Tape_init_5 (by decide) ?_
  refine j_newa15 d_Tape_init_8 ka_byte (fun x1 h2 => ?_)
  refine j_putR d_Tape_init_10 fl_8_9 (Or.inr rfl) (Or.inr ⟨_, rfl⟩) (fun h3 => ?_)
  refine j_aload_n d_Tape_init_13 0 rfl rfl ?_
  refine j_sipush (v := 300) d_Tape_init_14 (by decide) ?_
  refine j_newa13 d_Tape_init_17 ka_int (fun x4 h5 => ?_)
  refine j_putR d_Tape_init_19 fl_8_15 (Or.inr rfl) (Or.inr ⟨_, rfl⟩) (fun h6 => ?_)
  exact j_retU d_Tape_init_22
set_option maxRecDepth 20000 in
theorem ct_Tape_init (N : Nat) (l : Launch) (D : va_G) (dA : Nat → ClassId) (B : Nat) (l0 : Option Nat) (h : Hp) : Ct l (⟨"RingingChamber$Tape", "<init>", "()V"⟩ : MethodName) prog_11_method_1_code 1 none 1 20 D dA B [vr l0] h vU (Tape_init N l0 h) :=
  Ct.of2 (own := "RingingChamber$Tape") (nme := "<init>") (lv := [(0, vr l0)]) rfl rfl (by decide) (Nat.le_of_ble_eq_true rfl) rfl (fun p e R s m args below meth c => jc_Tape_init N l0 h)
theorem d_Tape_add_0 : decode prog_11_method_2_code 0 = .ok (.bipush 24, 2) := by decide +kernel
theorem d_Tape_add_2 : decode prog_11_method_2_code 2 = .ok (.istore_n 2, 1) := by decide +kernel
theorem d_Tape_add_3 : decode prog_11_method_2_code 3 = .ok (.iload_n 2, 1) := by decide +kernel
theorem d_Tape_add_4 : decode prog_11_method_2_code 4 = .ok (.ifCond .lt 42, 3) := by decide +kernel
theorem d_Tape_add_7 : decode prog_11_method_2_code 7 = .ok (.aload_n 0, 1) := by decide +kernel
theorem d_Tape_add_8 : decode prog_11_method_2_code 8 = .ok (.getfield 19, 3) := by decide +kernel
theorem d_Tape_add_11 : decode prog_11_method_2_code 11 = .ok (.sipush 300, 3) := by decide +kernel
theorem d_Tape_add_14 : decode prog_11_method_2_code 14 = .ok (.if_icmp .ge 32, 3) := by decide +kernel
theorem d_Tape_add_17 : decode prog_11_method_2_code 17 = .ok (.aload_n 0, 1) := by decide +kernel
theorem d_Tape_add_18 : decode prog_11_method_2_code 18 = .ok (.getfield 9, 3) := by decide +kernel
theorem d_Tape_add_21 : decode prog_11_method_2_code 21 = .ok (.aload_n 0, 1) := by decide +kernel
theorem d_Tape_add_22 : decode prog_11_method_2_code 22 = .ok (.getfield 19, 3) := by decide +kernel
theorem d_Tape_add_25 : decode prog_11_method_2_code 25 = .ok (.iload_n 1, 1) := by decide +kernel
theorem d_Tape_add_26 : decode prog_11_method_2_code 26 = .ok (.iload_n 2, 1) := by decide +kernel
theorem d_Tape_add_27 : decode prog_11_method_2_code 27 = .ok (.ishr, 1) := by decide +kernel
theorem d_Tape_add_28 : decode prog_11_method_2_code 28 = .ok (.i2b, 1) := by decide +kernel
theorem d_Tape_add_29 : decode prog_11_method_2_code 29 = .ok (.bastore, 1) := by decide +kernel
theorem d_Tape_add_30 : decode prog_11_method_2_code 30 = .ok (.aload_n 0, 1) := by decide +kernel
theorem d_Tape_add_31 : decode prog_11_method_2_code 31 = .ok (.dup, 1) := by decide +kernel
theorem d_Tape_add_32 : decode prog_11_method_2_code 32 = .ok (.getfield 19, 3) := by decide +kernel
theorem d_Tape_add_35 : decode prog_11_method_2_code 35 = .ok (.iconst 1, 1) := by decide +kernel
theorem d_Tape_add_36 : decode prog_11_method_2_code 36 = .ok (.iadd, 1) := by decide +kernel
theorem d_Tape_add_37 : decode prog_11_method_2_code 37 = .ok (.putfield 19, 3) := by decide +kernel
theorem d_Tape_add_40 : decode prog_11_method_2_code 40 = .ok (.iinc 2 (-8), 3) := by decide +kernel
theorem d_Tape_add_43 : decode prog_11_method_2_code 43 = .ok (.goto (-40), 3) := by decide +kernel
theorem d_Tape_add_46 : decode prog_11_method_2_code 46 = .ok (.return_, 1) := by decide +kernel
set_option maxRecDepth 20000 in
theorem jc_Tape_add_3 (N : Nat) : ∀ (n : Nat) (l0 : Option Nat) (l1 : Int32) (l2 : Int32) (h : Hp), J p l e R s m args below meth c prog_11_method_2_code 3 "RingingChamber$Tape" 0 0 none "add" D dA B n0 s0 (QM below args s D dA B n0 s0 vU) 3 [(0, vr l0), (1, vi l1), (2, vi l2)] [] h (Tape_add_3 N n l0 l1 l2 h) := by
  intro n
  induction n with
  | zero => intros; exact J.none
  | succ n ih =>
    intro l0 l1 l2 h
    rw [Tape_add_3]
    refine j_iload_n d_Tape_add_3 2 rfl rfl ?_
    refine j_if_lt (tgt := 46) d_Tape_add_4 (by decide) ?_ ?_
    · exact j_retU d_Tape_add_46
    · refine j_aload_n d_Tape_add_7 0 rfl rfl ?_
      refine j_getI d_Tape_add_8 fl_8_19.r (fun x1 => ?_)
      refine j_sipush (v := 300) d_Tape_add_11 (by decide) ?_
      refine j_icmp_ge (tgt := 46) d_Tape_add_14 (by decide) ?_ ?_
      · exact j_retU d_Tape_add_46
      · refine j_aload_n d_Tape_add_17 0 rfl rfl ?_
        refine j_getR d_Tape_add_18 fl_8_9.r (fun x2 => ?_)
        refine j_aload_n d_Tape_add_21 0 rfl rfl ?_
        refine j_getI d_Tape_add_22 fl_8_19.r (fun x3 => ?_)
        refine j_iload_n d_Tape_add_25 1 rfl rfl ?_
        refine j_iload_n d_Tape_add_26 2 rfl rfl ?_
        refine j_ishr d_Tape_add_27 ?_
        refine j_i2b d_Tape_add_28 ?_
        refine j_bast d_Tape_add_29 (fun h4 => ?_)
        refine j_aload_n d_Tape_add_30 0 rfl rfl ?_
        refine j_dup d_Tape_add_31 rfl ?_
        refine j_getI d_Tape_add_32 fl_8_19.r (fun x5 => ?_)
        refine j_iconst (v := 1) d_Tape_add_35 (by decide) ?_
        refine j_iadd d_Tape_add_36 ?_
        refine j_putI d_Tape_add_37 fl_8_19 (Or.inl rfl) (fun h6 => ?_)
        refine j_iinc (lvv := fun x7 => [(2, vi x7), (0, vr l0), (1, vi l1)]) d_Tape_add_40 2 rfl rfl (by decide) (fun _ => rfl) (fun x7 => ?_)
        refine j_goto (tgt := 3) d_Tape_add_43 (by decide) ?_
        exact J.sub [1, 2, 0] rfl (ih l0 l1 x7 h6)
set_option maxRecDepth 20000 in
theorem jc_Tape_add (N : Nat) (l0 : Option Nat) (l1 : Int32) (h : Hp) : J p l e R s m args below meth c prog_11_method_2_code 3 "RingingChamber$Tape" 0 0 none "add" D dA B n0 s0 (QM below args s D dA B n0 s0 vU) 0 [(0, vr l0), (1, vi l1)] [] h (Tape_add N l0 l1 h) := by
  unfold Tape_add
  refine j_bipush (v := 24) d_Tape_add_0 (by decide) ?_
  refine j_istore_n (lv' := [(2, vi 24), (0, vr l0), (1, vi l1)]) d_Tape_add_2 rfl (by decide) rfl ?_
  exact J.sub [1, 2, 0] rfl (jc_Tape_add_3 N N l0 l1 24 h)
set_option maxRecDepth 20000 in
theorem ct_Tape_add (N : Nat) (l : Launch) (D : va_G) (dA : Nat → ClassId) (B : Nat) (l0 : Option Nat) (l1 : Int32) (h : Hp) : Ct l (⟨"RingingChamber$Tape", "add", "(I)V"⟩ : MethodName) prog_11_method_2_code 3 none 0 0 D dA B [vr l0, vi l1] h vU (Tape_add N l0 l1 h) :=
  Ct.of2 (own := "RingingChamber$Tape") (nme := "add") (lv := [(0, vr l0), (1, vi l1)]) rfl rfl (by decide) (Nat.le_of_ble_eq_true rfl) rfl (fun p e R s m args below meth c => jc_Tape_add N l0 l1 h)
theorem d_Tape_placeTold_0 : decode prog_11_method_13_code 0 = .ok (.iload_n 0, 1) := by decide +kernel
theorem d_Tape_placeTold_1 : decode prog_11_method_13_code 1 = .ok (.bipush 49, 2) := by decide +kernel
theorem d_Tape_placeTold_3 : decode prog_11_method_13_code 3 = .ok (.if_icmp .lt 14, 3) := by decide +kernel
theorem d_Tape_placeTold_6 : decode prog_11_method_13_code 6 = .ok (.iload_n 0, 1) := by decide +kernel
theorem d_Tape_placeTold_7 : decode prog_11_method_13_code 7 = .ok (.bipush 57, 2) := by decide +kernel
theorem d_Tape_placeTold_9 : decode prog_11_method_13_code 9 = .ok (.if_icmp .gt 8, 3) := by decide +kernel
theorem d_Tape_placeTold_12 : decode prog_11_method_13_code 12 = .ok (.iload_n 0, 1) := by decide +kernel
theorem d_Tape_placeTold_13 : decode prog_11_method_13_code 13 = .ok (.bipush 48, 2) := by decide +kernel
theorem d_Tape_placeTold_15 : decode prog_11_method_13_code 15 = .ok (.isub, 1) := by decide +kernel
theorem d_Tape_placeTold_16 : decode prog_11_method_13_code 16 = .ok (.ireturn, 1) := by decide +kernel
theorem d_Tape_placeTold_17 : decode prog_11_method_13_code 17 = .ok (.iload_n 0, 1) := by decide +kernel
theorem d_Tape_placeTold_18 : decode prog_11_method_13_code 18 = .ok (.lookupswitch 43 #[(48, 34), (69, 37), (84, 40)], 34) := by decide +kernel
theorem d_Tape_placeTold_52 : decode prog_11_method_13_code 52 = .ok (.bipush 10, 2) := by decide +kernel
theorem d_Tape_placeTold_54 : decode prog_11_method_13_code 54 = .ok (.ireturn, 1) := by decide +kernel
theorem d_Tape_placeTold_55 : decode prog_11_method_13_code 55 = .ok (.bipush 11, 2) := by decide +kernel
theorem d_Tape_placeTold_57 : decode prog_11_method_13_code 57 = .ok (.ireturn, 1) := by decide +kernel
theorem d_Tape_placeTold_58 : decode prog_11_method_13_code 58 = .ok (.bipush 12, 2) := by decide +kernel
theorem d_Tape_placeTold_60 : decode prog_11_method_13_code 60 = .ok (.ireturn, 1) := by decide +kernel
theorem d_Tape_placeTold_61 : decode prog_11_method_13_code 61 = .ok (.iconst 0, 1) := by decide +kernel
theorem d_Tape_placeTold_62 : decode prog_11_method_13_code 62 = .ok (.ireturn, 1) := by decide +kernel
set_option maxRecDepth 20000 in
theorem lsw_Tape_placeTold_18 : ∀ y : Int32, ((18 : Nat) : Int) + Op.lookupswitch.offset (#[(48, 34), (69, 37), (84, 40)] : Array (Int × Int)).toList 43 y.toInt = ((swt y [(48, 52), (69, 55), (84, 58)] 61 : Nat) : Int) := by
  intro y
  have e0 : y.toInt = 48 ↔ y = 48 := ⟨fun q => Int32.toInt_inj.mp q, fun q => by rw [q]; rfl⟩
  have e1 : y.toInt = 69 ↔ y = 69 := ⟨fun q => Int32.toInt_inj.mp q, fun q => by rw [q]; rfl⟩
  have e2 : y.toInt = 84 ↔ y = 84 := ⟨fun q => Int32.toInt_inj.mp q, fun q => by rw [q]; rfl⟩
  have f0 : (48 : Int) = y.toInt ↔ y = 48 := ⟨fun q => e0.mp q.symm, fun q => (e0.mpr q).symm⟩
  have f1 : (69 : Int) = y.toInt ↔ y = 69 := ⟨fun q => e1.mp q.symm, fun q => (e1.mpr q).symm⟩
  have f2 : (84 : Int) = y.toInt ↔ y = 84 := ⟨fun q => e2.mp q.symm, fun q => (e2.mpr q).symm⟩
  simp only [Op.lookupswitch.offset, swt]
  by_cases q0 : y = 48 <;> by_cases q1 : y = 69 <;> by_cases q2 : y = 84 <;> simp_all [Op.lookupswitch.offset]
set_option maxRecDepth 20000 in
theorem jc_Tape_placeTold_17 (N : Nat) (l0 : Int32) (h : Hp) : J p l e R s m args below meth c prog_11_method_13_code 1 "RingingChamber$Tape" 0 0 (some .int) "placeTold" D dA B n0 s0 (QM below args s D dA B n0 s0 vI) 17 [(0, vi l0)] [] h (Tape_placeTold_17 N l0 h) := by
  unfold Tape_placeTold_17
  refine j_iload_n d_Tape_placeTold_17 0 rfl rfl ?_
  refine j_lsw (ts := [(48, 52), (69, 55), (84, 58)]) (d := 61) d_Tape_placeTold_18 (by decide +kernel) (lsw_Tape_placeTold_18) rfl ((allQ.cons (sw_case (t := 52) (by decide) ?_) (allQ.cons (sw_case (t := 55) (by decide) ?_) (allQ.cons (sw_case (t := 58) (by decide) ?_) allQ.nil)))) ?_
  · refine j_bipush (v := 10) d_Tape_placeTold_52 (by decide) ?_
    exact j_retI d_Tape_placeTold_54
  · refine j_bipush (v := 11) d_Tape_placeTold_55 (by decide) ?_
    exact j_retI d_Tape_placeTold_57
  · refine j_bipush (v := 12) d_Tape_placeTold_58 (by decide) ?_
    exact j_retI d_Tape_placeTold_60
  · refine j_iconst (v := 0) d_Tape_placeTold_61 (by decide) ?_
    exact j_retI d_Tape_placeTold_62
set_option maxRecDepth 20000 in
theorem jc_Tape_placeTold (N : Nat) (l0 : Int32) (h : Hp) : J p l e R s m args below meth c prog_11_method_13_code 1 "RingingChamber$Tape" 0 0 (some .int) "placeTold" D dA B n0 s0 (QM below args s D dA B n0 s0 vI) 0 [(0, vi l0)] [] h (Tape_placeTold N l0 h) := by
  unfold Tape_placeTold
  refine j_iload_n d_Tape_placeTold_0 0 rfl rfl ?_
  refine j_bipush (v := 49) d_Tape_placeTold_1 (by decide) ?_
  refine j_icmp_lt (tgt := 17) d_Tape_placeTold_3 (by decide) ?_ ?_
  · exact jc_Tape_placeTold_17 N l0 h
  · refine j_iload_n d_Tape_placeTold_6 0 rfl rfl ?_
    refine j_bipush (v := 57) d_Tape_placeTold_7 (by decide) ?_
    refine j_icmp_gt (tgt := 17) d_Tape_placeTold_9 (by decide) ?_ ?_
    · exact jc_Tape_placeTold_17 N l0 h
    · refine j_iload_n d_Tape_placeTold_12 0 rfl rfl ?_
      refine j_bipush (v := 48) d_Tape_placeTold_13 (by decide) ?_
      refine j_isub d_Tape_placeTold_15 ?_
      exact j_retI d_Tape_placeTold_16
set_option maxRecDepth 20000 in
theorem ct_Tape_placeTold (N : Nat) (l : Launch) (D : va_G) (dA : Nat → ClassId) (B : Nat) (l0 : Int32) (h : Hp) : Ct l (⟨"RingingChamber$Tape", "placeTold", "(I)I"⟩ : MethodName) prog_11_method_13_code 1 (some .int) 0 0 D dA B [vi l0] h vI (Tape_placeTold N l0 h) :=
  Ct.of2 (own := "RingingChamber$Tape") (nme := "placeTold") (lv := [(0, vi l0)]) rfl rfl (by decide) (Nat.le_of_ble_eq_true rfl) rfl (fun p e R s m args below meth c => jc_Tape_placeTold N l0 h)
theorem d_Tape_pairs_0 : decode prog_11_method_14_code 0 = .ok (.iconst 0, 1) := by decide +kernel
theorem d_Tape_pairs_1 : decode prog_11_method_14_code 1 = .ok (.istore_n 2, 1) := by decide +kernel
theorem d_Tape_pairs_2 : decode prog_11_method_14_code 2 = .ok (.iload_n 0, 1) := by decide +kernel
theorem d_Tape_pairs_3 : decode prog_11_method_14_code 3 = .ok (.istore_n 3, 1) := by decide +kernel
theorem d_Tape_pairs_4 : decode prog_11_method_14_code 4 = .ok (.iload_n 3, 1) := by decide +kernel
theorem d_Tape_pairs_5 : decode prog_11_method_14_code 5 = .ok (.iload_n 1, 1) := by decide +kernel
theorem d_Tape_pairs_6 : decode prog_11_method_14_code 6 = .ok (.if_icmp .ge 17, 3) := by decide +kernel
theorem d_Tape_pairs_9 : decode prog_11_method_14_code 9 = .ok (.iload_n 2, 1) := by decide +kernel
theorem d_Tape_pairs_10 : decode prog_11_method_14_code 10 = .ok (.iconst 1, 1) := by decide +kernel
theorem d_Tape_pairs_11 : decode prog_11_method_14_code 11 = .ok (.iload_n 3, 1) := by decide +kernel
theorem d_Tape_pairs_12 : decode prog_11_method_14_code 12 = .ok (.iconst 1, 1) := by decide +kernel
theorem d_Tape_pairs_13 : decode prog_11_method_14_code 13 = .ok (.isub, 1) := by decide +kernel
theorem d_Tape_pairs_14 : decode prog_11_method_14_code 14 = .ok (.ishl, 1) := by decide +kernel
theorem d_Tape_pairs_15 : decode prog_11_method_14_code 15 = .ok (.ior, 1) := by decide +kernel
theorem d_Tape_pairs_16 : decode prog_11_method_14_code 16 = .ok (.istore_n 2, 1) := by decide +kernel
theorem d_Tape_pairs_17 : decode prog_11_method_14_code 17 = .ok (.iinc 3 2, 3) := by decide +kernel
theorem d_Tape_pairs_20 : decode prog_11_method_14_code 20 = .ok (.goto (-16), 3) := by decide +kernel
theorem d_Tape_pairs_23 : decode prog_11_method_14_code 23 = .ok (.iload_n 2, 1) := by decide +kernel
theorem d_Tape_pairs_24 : decode prog_11_method_14_code 24 = .ok (.ireturn, 1) := by decide +kernel
set_option maxRecDepth 20000 in
theorem jc_Tape_pairs_4 (N : Nat) : ∀ (n : Nat) (l1 : Int32) (l2 : Int32) (l3 : Int32) (h : Hp), J p l e R s m args below meth c prog_11_method_14_code 4 "RingingChamber$Tape" 0 0 (some .int) "pairs" D dA B n0 s0 (QM below args s D dA B n0 s0 vI) 4 [(1, vi l1), (2, vi l2), (3, vi l3)] [] h (Tape_pairs_4 N n l1 l2 l3 h) := by
  intro n
  induction n with
  | zero => intros; exact J.none
  | succ n ih =>
    intro l1 l2 l3 h
    rw [Tape_pairs_4]
    refine j_iload_n d_Tape_pairs_4 2 rfl rfl ?_
    refine j_iload_n d_Tape_pairs_5 0 rfl rfl ?_
    refine j_icmp_ge (tgt := 23) d_Tape_pairs_6 (by decide) ?_ ?_
    · refine j_iload_n d_Tape_pairs_23 1 rfl rfl ?_
      exact j_retI d_Tape_pairs_24
    · refine j_iload_n d_Tape_pairs_9 1 rfl rfl ?_
      refine j_iconst (v := 1) d_Tape_pairs_10 (by decide) ?_
      refine j_iload_n d_Tape_pairs_11 2 rfl rfl ?_
      refine j_iconst (v := 1) d_Tape_pairs_12 (by decide) ?_
      refine j_isub d_Tape_pairs_13 ?_
      refine j_ishl d_Tape_pairs_14 ?_
      refine j_ior d_Tape_pairs_15 ?_
      refine j_nmi (fun x1 => ?_)
      refine j_istore_n (lv' := [(2, vi x1), (1, vi l1), (3, vi l3)]) d_Tape_pairs_16 rfl (by decide) rfl ?_
      refine j_iinc (lvv := fun x2 => [(3, vi x2), (2, vi x1), (1, vi l1)]) d_Tape_pairs_17 2 rfl rfl (by decide) (fun _ => rfl) (fun x2 => ?_)
      refine j_goto (tgt := 4) d_Tape_pairs_20 (by decide) ?_
      exact J.sub [2, 1, 0] rfl (ih l1 x1 x2 h)
set_option maxRecDepth 20000 in
theorem jc_Tape_pairs (N : Nat) (l0 : Int32) (l1 : Int32) (h : Hp) : J p l e R s m args below meth c prog_11_method_14_code 4 "RingingChamber$Tape" 0 0 (some .int) "pairs" D dA B n0 s0 (QM below args s D dA B n0 s0 vI) 0 [(0, vi l0), (1, vi l1)] [] h (Tape_pairs N l0 l1 h) := by
  unfold Tape_pairs
  refine j_iconst (v := 0) d_Tape_pairs_0 (by decide) ?_
  refine j_istore_n (lv' := [(2, vi 0), (0, vi l0), (1, vi l1)]) d_Tape_pairs_1 rfl (by decide) rfl ?_
  refine j_iload_n d_Tape_pairs_2 1 rfl rfl ?_
  refine j_istore_n (lv' := [(3, vi l0), (2, vi 0), (0, vi l0), (1, vi l1)]) d_Tape_pairs_3 rfl (by decide) rfl ?_
  exact J.sub [3, 1, 0] rfl (jc_Tape_pairs_4 N N l1 0 l0 h)
set_option maxRecDepth 20000 in
theorem ct_Tape_pairs (N : Nat) (l : Launch) (D : va_G) (dA : Nat → ClassId) (B : Nat) (l0 : Int32) (l1 : Int32) (h : Hp) : Ct l (⟨"RingingChamber$Tape", "pairs", "(II)I"⟩ : MethodName) prog_11_method_14_code 4 (some .int) 0 0 D dA B [vi l0, vi l1] h vI (Tape_pairs N l0 l1 h) :=
  Ct.of2 (own := "RingingChamber$Tape") (nme := "pairs") (lv := [(0, vi l0), (1, vi l1)]) rfl rfl (by decide) (Nat.le_of_ble_eq_true rfl) rfl (fun p e R s m args below meth c => jc_Tape_pairs N l0 l1 h)
theorem d_Tape_takesPlace_0 : decode prog_11_method_8_code 0 = .ok (.iload_n 1, 1) := by decide +kernel
theorem d_Tape_takesPlace_1 : decode prog_11_method_8_code 1 = .ok (.iconst 1, 1) := by decide +kernel
theorem d_Tape_takesPlace_2 : decode prog_11_method_8_code 2 = .ok (.if_icmp .lt 8, 3) := by decide +kernel
theorem d_Tape_takesPlace_5 : decode prog_11_method_8_code 5 = .ok (.iload_n 1, 1) := by decide +kernel
theorem d_Tape_takesPlace_6 : decode prog_11_method_8_code 6 = .ok (.iload_n 2, 1) := by decide +kernel
theorem d_Tape_takesPlace_7 : decode prog_11_method_8_code 7 = .ok (.if_icmp .le 5, 3) := by decide +kernel
theorem d_Tape_takesPlace_10 : decode prog_11_method_8_code 10 = .ok (.iconst 0, 1) := by decide +kernel
theorem d_Tape_takesPlace_11 : decode prog_11_method_8_code 11 = .ok (.ireturn, 1) := by decide +kernel
theorem d_Tape_takesPlace_12 : decode prog_11_method_8_code 12 = .ok (.aload_n 0, 1) := by decide +kernel
theorem d_Tape_takesPlace_13 : decode prog_11_method_8_code 13 = .ok (.getfield 29, 3) := by decide +kernel
theorem d_Tape_takesPlace_16 : decode prog_11_method_8_code 16 = .ok (.iconst 2, 1) := by decide +kernel
theorem d_Tape_takesPlace_17 : decode prog_11_method_8_code 17 = .ok (.if_icmp .eq 27, 3) := by decide +kernel
theorem d_Tape_takesPlace_20 : decode prog_11_method_8_code 20 = .ok (.aload_n 0, 1) := by decide +kernel
theorem d_Tape_takesPlace_21 : decode prog_11_method_8_code 21 = .ok (.iload_n 1, 1) := by decide +kernel
theorem d_Tape_takesPlace_22 : decode prog_11_method_8_code 22 = .ok (.iconst 2, 1) := by decide +kernel
theorem d_Tape_takesPlace_23 : decode prog_11_method_8_code 23 = .ok (.irem, 1) := by decide +kernel
theorem d_Tape_takesPlace_24 : decode prog_11_method_8_code 24 = .ok (.ifCond .ne 7, 3) := by decide +kernel
theorem d_Tape_takesPlace_27 : decode prog_11_method_8_code 27 = .ok (.iconst 2, 1) := by decide +kernel
theorem d_Tape_takesPlace_28 : decode prog_11_method_8_code 28 = .ok (.goto 4, 3) := by decide +kernel
theorem d_Tape_takesPlace_31 : decode prog_11_method_8_code 31 = .ok (.iconst 1, 1) := by decide +kernel
theorem d_Tape_takesPlace_32 : decode prog_11_method_8_code 32 = .ok (.iload_n 1, 1) := by decide +kernel
theorem d_Tape_takesPlace_33 : decode prog_11_method_8_code 33 = .ok (.iconst 1, 1) := by decide +kernel
theorem d_Tape_takesPlace_34 : decode prog_11_method_8_code 34 = .ok (.isub, 1) := by decide +kernel
theorem d_Tape_takesPlace_35 : decode prog_11_method_8_code 35 = .ok (.invokestatic 65, 3) := by decide +kernel
theorem d_Tape_takesPlace_38 : decode prog_11_method_8_code 38 = .ok (.putfield 72, 3) := by decide +kernel
theorem d_Tape_takesPlace_41 : decode prog_11_method_8_code 41 = .ok (.goto 48, 3) := by decide +kernel
theorem d_Tape_takesPlace_44 : decode prog_11_method_8_code 44 = .ok (.iload_n 1, 1) := by decide +kernel
theorem d_Tape_takesPlace_45 : decode prog_11_method_8_code 45 = .ok (.aload_n 0, 1) := by decide +kernel
theorem d_Tape_takesPlace_46 : decode prog_11_method_8_code 46 = .ok (.getfield 75, 3) := by decide +kernel
theorem d_Tape_takesPlace_49 : decode prog_11_method_8_code 49 = .ok (.if_icmp .le 38, 3) := by decide +kernel
theorem d_Tape_takesPlace_52 : decode prog_11_method_8_code 52 = .ok (.iload_n 1, 1) := by decide +kernel
theorem d_Tape_takesPlace_53 : decode prog_11_method_8_code 53 = .ok (.aload_n 0, 1) := by decide +kernel
theorem d_Tape_takesPlace_54 : decode prog_11_method_8_code 54 = .ok (.getfield 75, 3) := by decide +kernel
theorem d_Tape_takesPlace_57 : decode prog_11_method_8_code 57 = .ok (.isub, 1) := by decide +kernel
theorem d_Tape_takesPlace_58 : decode prog_11_method_8_code 58 = .ok (.iconst 2, 1) := by decide +kernel
theorem d_Tape_takesPlace_59 : decode prog_11_method_8_code 59 = .ok (.irem, 1) := by decide +kernel
theorem d_Tape_takesPlace_60 : decode prog_11_method_8_code 60 = .ok (.ifCond .eq 27, 3) := by decide +kernel
theorem d_Tape_takesPlace_63 : decode prog_11_method_8_code 63 = .ok (.aload_n 0, 1) := by decide +kernel
theorem d_Tape_takesPlace_64 : decode prog_11_method_8_code 64 = .ok (.dup, 1) := by decide +kernel
theorem d_Tape_takesPlace_65 : decode prog_11_method_8_code 65 = .ok (.getfield 72, 3) := by decide +kernel
theorem d_Tape_takesPlace_68 : decode prog_11_method_8_code 68 = .ok (.aload_n 0, 1) := by decide +kernel
theorem d_Tape_takesPlace_69 : decode prog_11_method_8_code 69 = .ok (.getfield 75, 3) := by decide +kernel
theorem d_Tape_takesPlace_72 : decode prog_11_method_8_code 72 = .ok (.iconst 1, 1) := by decide +kernel
theorem d_Tape_takesPlace_73 : decode prog_11_method_8_code 73 = .ok (.iadd, 1) := by decide +kernel
theorem d_Tape_takesPlace_74 : decode prog_11_method_8_code 74 = .ok (.iload_n 1, 1) := by decide +kernel
theorem d_Tape_takesPlace_75 : decode prog_11_method_8_code 75 = .ok (.iconst 1, 1) := by decide +kernel
theorem d_Tape_takesPlace_76 : decode prog_11_method_8_code 76 = .ok (.isub, 1) := by decide +kernel
theorem d_Tape_takesPlace_77 : decode prog_11_method_8_code 77 = .ok (.invokestatic 65, 3) := by decide +kernel
theorem d_Tape_takesPlace_80 : decode prog_11_method_8_code 80 = .ok (.ior, 1) := by decide +kernel
theorem d_Tape_takesPlace_81 : decode prog_11_method_8_code 81 = .ok (.putfield 72, 3) := by decide +kernel
theorem d_Tape_takesPlace_84 : decode prog_11_method_8_code 84 = .ok (.goto 5, 3) := by decide +kernel
theorem d_Tape_takesPlace_87 : decode prog_11_method_8_code 87 = .ok (.iconst 0, 1) := by decide +kernel
theorem d_Tape_takesPlace_88 : decode prog_11_method_8_code 88 = .ok (.ireturn, 1) := by decide +kernel
theorem d_Tape_takesPlace_89 : decode prog_11_method_8_code 89 = .ok (.aload_n 0, 1) := by decide +kernel
theorem d_Tape_takesPlace_90 : decode prog_11_method_8_code 90 = .ok (.iload_n 1, 1) := by decide +kernel
theorem d_Tape_takesPlace_91 : decode prog_11_method_8_code 91 = .ok (.putfield 75, 3) := by decide +kernel
theorem d_Tape_takesPlace_94 : decode prog_11_method_8_code 94 = .ok (.aload_n 0, 1) := by decide +kernel
theorem d_Tape_takesPlace_95 : decode prog_11_method_8_code 95 = .ok (.iconst 2, 1) := by decide +kernel
theorem d_Tape_takesPlace_96 : decode prog_11_method_8_code 96 = .ok (.putfield 29, 3) := by decide +kernel
theorem d_Tape_takesPlace_99 : decode prog_11_method_8_code 99 = .ok (.iconst 1, 1) := by decide +kernel
theorem d_Tape_takesPlace_100 : decode prog_11_method_8_code 100 = .ok (.ireturn, 1) := by decide +kernel
set_option maxRecDepth 20000 in
theorem jc_Tape_takesPlace_89 (N : Nat) (l0 : Option Nat) (l1 : Int32) (h : Hp) : J p l e R s m args below meth c prog_11_method_8_code 3 "RingingChamber$Tape" 1 23 (some .boolean) "takesPlace" D dA B n0 s0 (QM below args s D dA B n0 s0 vI) 89 [(0, vr l0), (1, vi l1)] [] h (Tape_takesPlace_89 N l0 l1 h) := by
  unfold Tape_takesPlace_89
  refine j_aload_n d_Tape_takesPlace_89 0 rfl rfl ?_
  refine j_iload_n d_Tape_takesPlace_90 1 rfl rfl ?_
  refine j_putI d_Tape_takesPlace_91 fl_8_75 (Or.inl rfl) (fun h1 => ?_)
  refine j_aload_n d_Tape_takesPlace_94 0 rfl rfl ?_
  refine j_iconst (v := 2) d_Tape_takesPlace_95 (by decide) ?_
  refine j_putI d_Tape_takesPlace_96 fl_8_29 (Or.inl rfl) (fun h2 => ?_)
  refine j_iconst (v := 1) d_Tape_takesPlace_99 (by decide) ?_
  exact j_retZ d_Tape_takesPlace_100
set_option maxRecDepth 20000 in
theorem jc_Tape_takesPlace_32 (N : Nat) (l0 : Option Nat) (l1 : Int32) (u0 : Option Nat) (u1 : Int32) (h : Hp) : J p l e R s m args below meth c prog_11_method_8_code 3 "RingingChamber$Tape" 1 23 (some .boolean) "takesPlace" D dA B n0 s0 (QM below args s D dA B n0 s0 vI) 32 [(0, vr l0), (1, vi l1)] [vi u1, vr u0] h (Tape_takesPlace_32 N l0 l1 u0 u1 h) := by
  unfold Tape_takesPlace_32
  refine j_iload_n d_Tape_takesPlace_32 1 rfl rfl ?_
  refine j_iconst (v := 1) d_Tape_takesPlace_33 (by decide) ?_
  refine j_isub d_Tape_takesPlace_34 ?_
  refine j_cSI2 d_Tape_takesPlace_35 sl_8_65 ks_Tape_pairs (ct_Tape_pairs N l D dA B u1 (l1 - (1 : Int32)) h) (by decide) (by decide) (Nat.le_of_ble_eq_true rfl) (fun x2 h1 => ?_)
  refine j_putI d_Tape_takesPlace_38 fl_8_72 (Or.inl rfl) (fun h3 => ?_)
  refine j_goto (tgt := 89) d_Tape_takesPlace_41 (by decide) ?_
  exact jc_Tape_takesPlace_89 N l0 l1 h3
set_option maxRecDepth 20000 in
theorem jc_Tape_takesPlace (N : Nat) (l0 : Option Nat) (l1 : Int32) (l2 : Int32) (h : Hp) : J p l e R s m args below meth c prog_11_method_8_code 3 "RingingChamber$Tape" 1 23 (some .boolean) "takesPlace" D dA B n0 s0 (QM below args s D dA B n0 s0 vI) 0 [(0, vr l0), (1, vi l1), (2, vi l2)] [] h (Tape_takesPlace N l0 l1 l2 h) := by
  unfold Tape_takesPlace
  refine j_iload_n d_Tape_takesPlace_0 1 rfl rfl ?_
  refine j_iconst (v := 1) d_Tape_takesPlace_1 (by decide) ?_
  refine j_icmp_lt (tgt := 10) d_Tape_takesPlace_2 (by decide) ?_ ?_
  · refine j_iconst (v := 0) d_Tape_takesPlace_10 (by decide) ?_
    exact j_retZ d_Tape_takesPlace_11
  · refine j_iload_n d_Tape_takesPlace_5 1 rfl rfl ?_
    refine j_iload_n d_Tape_takesPlace_6 2 rfl rfl ?_
    refine j_icmp_le (tgt := 12) d_Tape_takesPlace_7 (by decide) ?_ ?_
    · refine j_aload_n d_Tape_takesPlace_12 0 rfl rfl ?_
      refine j_getI d_Tape_takesPlace_13 fl_8_29.r (fun x1 => ?_)
      refine j_iconst (v := 2) d_Tape_takesPlace_16 (by decide) ?_
      refine j_icmp_eq (tgt := 44) d_Tape_takesPlace_17 (by decide) ?_ ?_
      · refine j_iload_n d_Tape_takesPlace_44 1 rfl rfl ?_
        refine j_aload_n d_Tape_takesPlace_45 0 rfl rfl ?_
        refine j_getI d_Tape_takesPlace_46 fl_8_75.r (fun x2 => ?_)
        refine j_icmp_le (tgt := 87) d_Tape_takesPlace_49 (by decide) ?_ ?_
        · refine j_iconst (v := 0) d_Tape_takesPlace_87 (by decide) ?_
          exact j_retZ d_Tape_takesPlace_88
        · refine j_iload_n d_Tape_takesPlace_52 1 rfl rfl ?_
          refine j_aload_n d_Tape_takesPlace_53 0 rfl rfl ?_
          refine j_getI d_Tape_takesPlace_54 fl_8_75.r (fun x3 => ?_)
          refine j_isub d_Tape_takesPlace_57 ?_
          refine j_iconst (v := 2) d_Tape_takesPlace_58 (by decide) ?_
          refine j_irem d_Tape_takesPlace_59 ?_
          refine j_if_eq (tgt := 87) d_Tape_takesPlace_60 (by decide) ?_ ?_
          · refine j_iconst (v := 0) d_Tape_takesPlace_87 (by decide) ?_
            exact j_retZ d_Tape_takesPlace_88
          · refine j_aload_n d_Tape_takesPlace_63 0 rfl rfl ?_
            refine j_dup d_Tape_takesPlace_64 rfl ?_
            refine j_getI d_Tape_takesPlace_65 fl_8_72.r (fun x4 => ?_)
            refine j_aload_n d_Tape_takesPlace_68 0 rfl rfl ?_
            refine j_getI d_Tape_takesPlace_69 fl_8_75.r (fun x5 => ?_)
            refine j_iconst (v := 1) d_Tape_takesPlace_72 (by decide) ?_
            refine j_iadd d_Tape_takesPlace_73 ?_
            refine j_iload_n d_Tape_takesPlace_74 1 rfl rfl ?_
            refine j_iconst (v := 1) d_Tape_takesPlace_75 (by decide) ?_
            refine j_isub d_Tape_takesPlace_76 ?_
            refine j_cSI2 d_Tape_takesPlace_77 sl_8_65 ks_Tape_pairs (ct_Tape_pairs N l D dA B (x5 + (1 : Int32)) (l1 - (1 : Int32)) h) (by decide) (by decide) (Nat.le_of_ble_eq_true rfl) (fun x7 h6 => ?_)
            refine j_ior d_Tape_takesPlace_80 ?_
            refine j_putI d_Tape_takesPlace_81 fl_8_72 (Or.inl rfl) (fun h8 => ?_)
            refine j_goto (tgt := 89) d_Tape_takesPlace_84 (by decide) ?_
            exact J.sub [0, 1] rfl (jc_Tape_takesPlace_89 N l0 l1 h8)
      · refine j_aload_n d_Tape_takesPlace_20 0 rfl rfl ?_
        refine j_iload_n d_Tape_takesPlace_21 1 rfl rfl ?_
        refine j_iconst (v := 2) d_Tape_takesPlace_22 (by decide) ?_
        refine j_irem d_Tape_takesPlace_23 ?_
        refine j_if_ne (tgt := 31) d_Tape_takesPlace_24 (by decide) ?_ ?_
        · refine j_iconst (v := 2) d_Tape_takesPlace_27 (by decide) ?_
          refine j_goto (tgt := 32) d_Tape_takesPlace_28 (by decide) ?_
          exact J.sub [0, 1] rfl (jc_Tape_takesPlace_32 N l0 l1 l0 2 h)
        · refine j_iconst (v := 1) d_Tape_takesPlace_31 (by decide) ?_
          exact J.sub [0, 1] rfl (jc_Tape_takesPlace_32 N l0 l1 l0 1 h)
    · refine j_iconst (v := 0) d_Tape_takesPlace_10 (by decide) ?_
      exact j_retZ d_Tape_takesPlace_11
set_option maxRecDepth 20000 in
theorem ct_Tape_takesPlace (N : Nat) (l : Launch) (D : va_G) (dA : Nat → ClassId) (B : Nat) (l0 : Option Nat) (l1 : Int32) (l2 : Int32) (h : Hp) : Ct l (⟨"RingingChamber$Tape", "takesPlace", "(II)Z"⟩ : MethodName) prog_11_method_8_code 3 (some .boolean) 1 23 D dA B [vr l0, vi l1, vi l2] h vI (Tape_takesPlace N l0 l1 l2 h) :=
  Ct.of2 (own := "RingingChamber$Tape") (nme := "takesPlace") (lv := [(0, vr l0), (1, vi l1), (2, vi l2)]) rfl rfl (by decide) (Nat.le_of_ble_eq_true rfl) rfl (fun p e R s m args below meth c => jc_Tape_takesPlace N l0 l1 l2 h)
theorem d_Tape_tell_0 : decode prog_11_method_11_code 0 = .ok (.aload_n 0, 1) := by decide +kernel
theorem d_Tape_tell_1 : decode prog_11_method_11_code 1 = .ok (.getfield 23, 3) := by decide +kernel
theorem d_Tape_tell_4 : decode prog_11_method_11_code 4 = .ok (.sipush 300, 3) := by decide +kernel
theorem d_Tape_tell_7 : decode prog_11_method_11_code 7 = .ok (.if_icmp .ge 23, 3) := by decide +kernel
theorem d_Tape_tell_10 : decode prog_11_method_11_code 10 = .ok (.aload_n 0, 1) := by decide +kernel
theorem d_Tape_tell_11 : decode prog_11_method_11_code 11 = .ok (.getfield 15, 3) := by decide +kernel
theorem d_Tape_tell_14 : decode prog_11_method_11_code 14 = .ok (.aload_n 0, 1) := by decide +kernel
theorem d_Tape_tell_15 : decode prog_11_method_11_code 15 = .ok (.getfield 23, 3) := by decide +kernel
theorem d_Tape_tell_18 : decode prog_11_method_11_code 18 = .ok (.iload_n 1, 1) := by decide +kernel
theorem d_Tape_tell_19 : decode prog_11_method_11_code 19 = .ok (.iastore, 1) := by decide +kernel
theorem d_Tape_tell_20 : decode prog_11_method_11_code 20 = .ok (.aload_n 0, 1) := by decide +kernel
theorem d_Tape_tell_21 : decode prog_11_method_11_code 21 = .ok (.dup, 1) := by decide +kernel
theorem d_Tape_tell_22 : decode prog_11_method_11_code 22 = .ok (.getfield 23, 3) := by decide +kernel
theorem d_Tape_tell_25 : decode prog_11_method_11_code 25 = .ok (.iconst 1, 1) := by decide +kernel
theorem d_Tape_tell_26 : decode prog_11_method_11_code 26 = .ok (.iadd, 1) := by decide +kernel
theorem d_Tape_tell_27 : decode prog_11_method_11_code 27 = .ok (.putfield 23, 3) := by decide +kernel
theorem d_Tape_tell_30 : decode prog_11_method_11_code 30 = .ok (.return_, 1) := by decide +kernel
set_option maxRecDepth 20000 in
theorem jc_Tape_tell (N : Nat) (l0 : Option Nat) (l1 : Int32) (h : Hp) : J p l e R s m args below meth c prog_11_method_11_code 2 "RingingChamber$Tape" 0 0 none "tell" D dA B n0 s0 (QM below args s D dA B n0 s0 vU) 0 [(0, vr l0), (1, vi l1)] [] h (Tape_tell N l0 l1 h) := by
  unfold Tape_tell
  refine j_aload_n d_Tape_tell_0 0 rfl rfl ?_
  refine j_getI d_Tape_tell_1 fl_8_23.r (fun x1 => ?_)
  refine j_sipush (v := 300) d_Tape_tell_4 (by decide) ?_
  refine j_icmp_ge (tgt := 30) d_Tape_tell_7 (by decide) ?_ ?_
  · exact j_retU d_Tape_tell_30
  · refine j_aload_n d_Tape_tell_10 0 rfl rfl ?_
    refine j_getR d_Tape_tell_11 fl_8_15.r (fun x2 => ?_)
    refine j_aload_n d_Tape_tell_14 0 rfl rfl ?_
    refine j_getI d_Tape_tell_15 fl_8_23.r (fun x3 => ?_)
    refine j_iload_n d_Tape_tell_18 1 rfl rfl ?_
    refine j_iast d_Tape_tell_19 (fun h4 => ?_)
    refine j_aload_n d_Tape_tell_20 0 rfl rfl ?_
    refine j_dup d_Tape_tell_21 rfl ?_
    refine j_getI d_Tape_tell_22 fl_8_23.r (fun x5 => ?_)
    refine j_iconst (v := 1) d_Tape_tell_25 (by decide) ?_
    refine j_iadd d_Tape_tell_26 ?_
    refine j_putI d_Tape_tell_27 fl_8_23 (Or.inl rfl) (fun h6 => ?_)
    exact j_retU d_Tape_tell_30
set_option maxRecDepth 20000 in
theorem ct_Tape_tell (N : Nat) (l : Launch) (D : va_G) (dA : Nat → ClassId) (B : Nat) (l0 : Option Nat) (l1 : Int32) (h : Hp) : Ct l (⟨"RingingChamber$Tape", "tell", "(I)V"⟩ : MethodName) prog_11_method_11_code 2 none 0 0 D dA B [vr l0, vi l1] h vU (Tape_tell N l0 l1 h) :=
  Ct.of2 (own := "RingingChamber$Tape") (nme := "tell") (lv := [(0, vr l0), (1, vi l1)]) rfl rfl (by decide) (Nat.le_of_ble_eq_true rfl) rfl (fun p e R s m args below meth c => jc_Tape_tell N l0 l1 h)
theorem d_Tape_closePlaces_0 : decode prog_11_method_10_code 0 = .ok (.aload_n 0, 1) := by decide +kernel
theorem d_Tape_closePlaces_1 : decode prog_11_method_10_code 1 = .ok (.getfield 29, 3) := by decide +kernel
theorem d_Tape_closePlaces_4 : decode prog_11_method_10_code 4 = .ok (.iconst 2, 1) := by decide +kernel
theorem d_Tape_closePlaces_5 : decode prog_11_method_10_code 5 = .ok (.if_icmp .ne 22, 3) := by decide +kernel
theorem d_Tape_closePlaces_8 : decode prog_11_method_10_code 8 = .ok (.aload_n 0, 1) := by decide +kernel
theorem d_Tape_closePlaces_9 : decode prog_11_method_10_code 9 = .ok (.aload_n 0, 1) := by decide +kernel
theorem d_Tape_closePlaces_10 : decode prog_11_method_10_code 10 = .ok (.getfield 72, 3) := by decide +kernel
theorem d_Tape_closePlaces_13 : decode prog_11_method_10_code 13 = .ok (.aload_n 0, 1) := by decide +kernel
theorem d_Tape_closePlaces_14 : decode prog_11_method_10_code 14 = .ok (.getfield 75, 3) := by decide +kernel
theorem d_Tape_closePlaces_17 : decode prog_11_method_10_code 17 = .ok (.iconst 1, 1) := by decide +kernel
theorem d_Tape_closePlaces_18 : decode prog_11_method_10_code 18 = .ok (.iadd, 1) := by decide +kernel
theorem d_Tape_closePlaces_19 : decode prog_11_method_10_code 19 = .ok (.iload_n 1, 1) := by decide +kernel
theorem d_Tape_closePlaces_20 : decode prog_11_method_10_code 20 = .ok (.invokestatic 65, 3) := by decide +kernel
theorem d_Tape_closePlaces_23 : decode prog_11_method_10_code 23 = .ok (.ior, 1) := by decide +kernel
theorem d_Tape_closePlaces_24 : decode prog_11_method_10_code 24 = .ok (.invokevirtual 69, 3) := by decide +kernel
theorem d_Tape_closePlaces_27 : decode prog_11_method_10_code 27 = .ok (.return_, 1) := by decide +kernel
set_option maxRecDepth 20000 in
theorem jc_Tape_closePlaces (N : Nat) (l0 : Option Nat) (l1 : Int32) (h : Hp) : J p l e R s m args below meth c prog_11_method_10_code 2 "RingingChamber$Tape" 1 23 none "closePlaces" D dA B n0 s0 (QM below args s D dA B n0 s0 vU) 0 [(0, vr l0), (1, vi l1)] [] h (Tape_closePlaces N l0 l1 h) := by
  unfold Tape_closePlaces
  refine j_aload_n d_Tape_closePlaces_0 0 rfl rfl ?_
  refine j_getI d_Tape_closePlaces_1 fl_8_29.r (fun x1 => ?_)
  refine j_iconst (v := 2) d_Tape_closePlaces_4 (by decide) ?_
  refine j_icmp_ne (tgt := 27) d_Tape_closePlaces_5 (by decide) ?_ ?_
  · refine j_aload_n d_Tape_closePlaces_8 0 rfl rfl ?_
    refine j_aload_n d_Tape_closePlaces_9 0 rfl rfl ?_
    refine j_getI d_Tape_closePlaces_10 fl_8_72.r (fun x2 => ?_)
    refine j_aload_n d_Tape_closePlaces_13 0 rfl rfl ?_
    refine j_getI d_Tape_closePlaces_14 fl_8_75.r (fun x3 => ?_)
    refine j_iconst (v := 1) d_Tape_closePlaces_17 (by decide) ?_
    refine j_iadd d_Tape_closePlaces_18 ?_
    refine j_iload_n d_Tape_closePlaces_19 1 rfl rfl ?_
    refine j_cSI2 d_Tape_closePlaces_20 sl_8_65 ks_Tape_pairs (ct_Tape_pairs N l D dA B (x3 + (1 : Int32)) l1 h) (by decide) (by decide) (Nat.le_of_ble_eq_true rfl) (fun x5 h4 => ?_)
    refine j_ior d_Tape_closePlaces_23 ?_
    refine j_vU1 d_Tape_closePlaces_24 (allQ.cons (VD.mk vt_8_69_8 (ct_Tape_tell N l D dA B l0 (x2 ||| x5) h4) (by decide) (by decide)) allQ.nil) (Nat.le_of_ble_eq_true rfl) (fun _ h6 => ?_)
    exact j_retU d_Tape_closePlaces_27
  · exact j_retU d_Tape_closePlaces_27
set_option maxRecDepth 20000 in
theorem ct_Tape_closePlaces (N : Nat) (l : Launch) (D : va_G) (dA : Nat → ClassId) (B : Nat) (l0 : Option Nat) (l1 : Int32) (h : Hp) : Ct l (⟨"RingingChamber$Tape", "closePlaces", "(I)V"⟩ : MethodName) prog_11_method_10_code 2 none 1 23 D dA B [vr l0, vi l1] h vU (Tape_closePlaces N l0 l1 h) :=
  Ct.of2 (own := "RingingChamber$Tape") (nme := "closePlaces") (lv := [(0, vr l0), (1, vi l1)]) rfl rfl (by decide) (Nat.le_of_ble_eq_true rfl) rfl (fun p e R s m args below meth c => jc_Tape_closePlaces N l0 l1 h)
theorem d_Tape_takesCross_0 : decode prog_11_method_5_code 0 = .ok (.aload_n 0, 1) := by decide +kernel
theorem d_Tape_takesCross_1 : decode prog_11_method_5_code 1 = .ok (.getfield 29, 3) := by decide +kernel
theorem d_Tape_takesCross_4 : decode prog_11_method_5_code 4 = .ok (.iconst 3, 1) := by decide +kernel
theorem d_Tape_takesCross_5 : decode prog_11_method_5_code 5 = .ok (.if_icmp .ne 5, 3) := by decide +kernel
theorem d_Tape_takesCross_8 : decode prog_11_method_5_code 8 = .ok (.iconst 0, 1) := by decide +kernel
theorem d_Tape_takesCross_9 : decode prog_11_method_5_code 9 = .ok (.ireturn, 1) := by decide +kernel
theorem d_Tape_takesCross_10 : decode prog_11_method_5_code 10 = .ok (.aload_n 0, 1) := by decide +kernel
theorem d_Tape_takesCross_11 : decode prog_11_method_5_code 11 = .ok (.iload_n 1, 1) := by decide +kernel
theorem d_Tape_takesCross_12 : decode prog_11_method_5_code 12 = .ok (.invokevirtual 40, 3) := by decide +kernel
theorem d_Tape_takesCross_15 : decode prog_11_method_5_code 15 = .ok (.aload_n 0, 1) := by decide +kernel
theorem d_Tape_takesCross_16 : decode prog_11_method_5_code 16 = .ok (.iconst 1, 1) := by decide +kernel
theorem d_Tape_takesCross_17 : decode prog_11_method_5_code 17 = .ok (.iload_n 1, 1) := by decide +kernel
theorem d_Tape_takesCross_18 : decode prog_11_method_5_code 18 = .ok (.invokestatic 65, 3) := by decide +kernel
theorem d_Tape_takesCross_21 : decode prog_11_method_5_code 21 = .ok (.invokevirtual 69, 3) := by decide +kernel
theorem d_Tape_takesCross_24 : decode prog_11_method_5_code 24 = .ok (.aload_n 0, 1) := by decide +kernel
theorem d_Tape_takesCross_25 : decode prog_11_method_5_code 25 = .ok (.iconst 1, 1) := by decide +kernel
theorem d_Tape_takesCross_26 : decode prog_11_method_5_code 26 = .ok (.putfield 29, 3) := by decide +kernel
theorem d_Tape_takesCross_29 : decode prog_11_method_5_code 29 = .ok (.iconst 1, 1) := by decide +kernel
theorem d_Tape_takesCross_30 : decode prog_11_method_5_code 30 = .ok (.ireturn, 1) := by decide +kernel
set_option maxRecDepth 20000 in
theorem jc_Tape_takesCross (N : Nat) (l0 : Option Nat) (l1 : Int32) (h : Hp) : J p l e R s m args below meth c prog_11_method_5_code 2 "RingingChamber$Tape" 2 44 (some .boolean) "takesCross" D dA B n0 s0 (QM below args s D dA B n0 s0 vI) 0 [(0, vr l0), (1, vi l1)] [] h (Tape_takesCross N l0 l1 h) := by
  unfold Tape_takesCross
  refine j_aload_n d_Tape_takesCross_0 0 rfl rfl ?_
  refine j_getI d_Tape_takesCross_1 fl_8_29.r (fun x1 => ?_)
  refine j_iconst (v := 3) d_Tape_takesCross_4 (by decide) ?_
  refine j_icmp_ne (tgt := 10) d_Tape_takesCross_5 (by decide) ?_ ?_
  · refine j_iconst (v := 0) d_Tape_takesCross_8 (by decide) ?_
    exact j_retZ d_Tape_takesCross_9
  · refine j_aload_n d_Tape_takesCross_10 0 rfl rfl ?_
    refine j_iload_n d_Tape_takesCross_11 1 rfl rfl ?_
    refine j_vU1 d_Tape_takesCross_12 (allQ.cons (VD.mk vt_8_40_8 (ct_Tape_closePlaces N l D dA B l0 l1 h) (by decide) (by decide)) allQ.nil) (Nat.le_of_ble_eq_true rfl) (fun _ h2 => ?_)
    refine j_aload_n d_Tape_takesCross_15 0 rfl rfl ?_
    refine j_iconst (v := 1) d_Tape_takesCross_16 (by decide) ?_
    refine j_iload_n d_Tape_takesCross_17 1 rfl rfl ?_
    refine j_cSI2 d_Tape_takesCross_18 sl_8_65 ks_Tape_pairs (ct_Tape_pairs N l D dA B 1 l1 h2) (by decide) (by decide) (Nat.le_of_ble_eq_true rfl) (fun x4 h3 => ?_)
    refine j_vU1 d_Tape_takesCross_21 (allQ.cons (VD.mk vt_8_69_8 (ct_Tape_tell N l D dA B l0 x4 h3) (by decide) (by decide)) allQ.nil) (Nat.le_of_ble_eq_true rfl) (fun _ h5 => ?_)
    refine j_aload_n d_Tape_takesCross_24 0 rfl rfl ?_
    refine j_iconst (v := 1) d_Tape_takesCross_25 (by decide) ?_
    refine j_putI d_Tape_takesCross_26 fl_8_29 (Or.inl rfl) (fun h6 => ?_)
    refine j_iconst (v := 1) d_Tape_takesCross_29 (by decide) ?_
    exact j_retZ d_Tape_takesCross_30
set_option maxRecDepth 20000 in
theorem ct_Tape_takesCross (N : Nat) (l : Launch) (D : va_G) (dA : Nat → ClassId) (B : Nat) (l0 : Option Nat) (l1 : Int32) (h : Hp) : Ct l (⟨"RingingChamber$Tape", "takesCross", "(I)Z"⟩ : MethodName) prog_11_method_5_code 2 (some .boolean) 2 44 D dA B [vr l0, vi l1] h vI (Tape_takesCross N l0 l1 h) :=
  Ct.of2 (own := "RingingChamber$Tape") (nme := "takesCross") (lv := [(0, vr l0), (1, vi l1)]) rfl rfl (by decide) (Nat.le_of_ble_eq_true rfl) rfl (fun p e R s m args below meth c => jc_Tape_takesCross N l0 l1 h)
theorem d_Tape_takesDot_0 : decode prog_11_method_6_code 0 = .ok (.aload_n 0, 1) := by decide +kernel
theorem d_Tape_takesDot_1 : decode prog_11_method_6_code 1 = .ok (.getfield 29, 3) := by decide +kernel
theorem d_Tape_takesDot_4 : decode prog_11_method_6_code 4 = .ok (.iconst 2, 1) := by decide +kernel
theorem d_Tape_takesDot_5 : decode prog_11_method_6_code 5 = .ok (.if_icmp .eq 5, 3) := by decide +kernel
theorem d_Tape_takesDot_8 : decode prog_11_method_6_code 8 = .ok (.iconst 0, 1) := by decide +kernel
theorem d_Tape_takesDot_9 : decode prog_11_method_6_code 9 = .ok (.ireturn, 1) := by decide +kernel
theorem d_Tape_takesDot_10 : decode prog_11_method_6_code 10 = .ok (.aload_n 0, 1) := by decide +kernel
theorem d_Tape_takesDot_11 : decode prog_11_method_6_code 11 = .ok (.iload_n 1, 1) := by decide +kernel
theorem d_Tape_takesDot_12 : decode prog_11_method_6_code 12 = .ok (.invokevirtual 40, 3) := by decide +kernel
theorem d_Tape_takesDot_15 : decode prog_11_method_6_code 15 = .ok (.aload_n 0, 1) := by decide +kernel
theorem d_Tape_takesDot_16 : decode prog_11_method_6_code 16 = .ok (.iconst 3, 1) := by decide +kernel
theorem d_Tape_takesDot_17 : decode prog_11_method_6_code 17 = .ok (.putfield 29, 3) := by decide +kernel
theorem d_Tape_takesDot_20 : decode prog_11_method_6_code 20 = .ok (.iconst 1, 1) := by decide +kernel
theorem d_Tape_takesDot_21 : decode prog_11_method_6_code 21 = .ok (.ireturn, 1) := by decide +kernel
set_option maxRecDepth 20000 in
theorem jc_Tape_takesDot (N : Nat) (l0 : Option Nat) (l1 : Int32) (h : Hp) : J p l e R s m args below meth c prog_11_method_6_code 2 "RingingChamber$Tape" 2 44 (some .boolean) "takesDot" D dA B n0 s0 (QM below args s D dA B n0 s0 vI) 0 [(0, vr l0), (1, vi l1)] [] h (Tape_takesDot N l0 l1 h) := by
  unfold Tape_takesDot
  refine j_aload_n d_Tape_takesDot_0 0 rfl rfl ?_
  refine j_getI d_Tape_takesDot_1 fl_8_29.r (fun x1 => ?_)
  refine j_iconst (v := 2) d_Tape_takesDot_4 (by decide) ?_
  refine j_icmp_eq (tgt := 10) d_Tape_takesDot_5 (by decide) ?_ ?_
  · refine j_aload_n d_Tape_takesDot_10 0 rfl rfl ?_
    refine j_iload_n d_Tape_takesDot_11 1 rfl rfl ?_
    refine j_vU1 d_Tape_takesDot_12 (allQ.cons (VD.mk vt_8_40_8 (ct_Tape_closePlaces N l D dA B l0 l1 h) (by decide) (by decide)) allQ.nil) (Nat.le_of_ble_eq_true rfl) (fun _ h2 => ?_)
    refine j_aload_n d_Tape_takesDot_15 0 rfl rfl ?_
    refine j_iconst (v := 3) d_Tape_takesDot_16 (by decide) ?_
    refine j_putI d_Tape_takesDot_17 fl_8_29 (Or.inl rfl) (fun h3 => ?_)
    refine j_iconst (v := 1) d_Tape_takesDot_20 (by decide) ?_
    exact j_retZ d_Tape_takesDot_21
  · refine j_iconst (v := 0) d_Tape_takesDot_8 (by decide) ?_
    exact j_retZ d_Tape_takesDot_9
set_option maxRecDepth 20000 in
theorem ct_Tape_takesDot (N : Nat) (l : Launch) (D : va_G) (dA : Nat → ClassId) (B : Nat) (l0 : Option Nat) (l1 : Int32) (h : Hp) : Ct l (⟨"RingingChamber$Tape", "takesDot", "(I)Z"⟩ : MethodName) prog_11_method_6_code 2 (some .boolean) 2 44 D dA B [vr l0, vi l1] h vI (Tape_takesDot N l0 l1 h) :=
  Ct.of2 (own := "RingingChamber$Tape") (nme := "takesDot") (lv := [(0, vr l0), (1, vi l1)]) rfl rfl (by decide) (Nat.le_of_ble_eq_true rfl) rfl (fun p e R s m args below meth c => jc_Tape_takesDot N l0 l1 h)
theorem d_Tape_canCloseBlock_0 : decode prog_11_method_9_code 0 = .ok (.aload_n 0, 1) := by decide +kernel
theorem d_Tape_canCloseBlock_1 : decode prog_11_method_9_code 1 = .ok (.getfield 29, 3) := by decide +kernel
theorem d_Tape_canCloseBlock_4 : decode prog_11_method_9_code 4 = .ok (.iconst 1, 1) := by decide +kernel
theorem d_Tape_canCloseBlock_5 : decode prog_11_method_9_code 5 = .ok (.if_icmp .eq 11, 3) := by decide +kernel
theorem d_Tape_canCloseBlock_8 : decode prog_11_method_9_code 8 = .ok (.aload_n 0, 1) := by decide +kernel
theorem d_Tape_canCloseBlock_9 : decode prog_11_method_9_code 9 = .ok (.getfield 29, 3) := by decide +kernel
theorem d_Tape_canCloseBlock_12 : decode prog_11_method_9_code 12 = .ok (.iconst 2, 1) := by decide +kernel
theorem d_Tape_canCloseBlock_13 : decode prog_11_method_9_code 13 = .ok (.if_icmp .ne 7, 3) := by decide +kernel
theorem d_Tape_canCloseBlock_16 : decode prog_11_method_9_code 16 = .ok (.iconst 1, 1) := by decide +kernel
theorem d_Tape_canCloseBlock_17 : decode prog_11_method_9_code 17 = .ok (.goto 4, 3) := by decide +kernel
theorem d_Tape_canCloseBlock_20 : decode prog_11_method_9_code 20 = .ok (.iconst 0, 1) := by decide +kernel
theorem d_Tape_canCloseBlock_21 : decode prog_11_method_9_code 21 = .ok (.ireturn, 1) := by decide +kernel
set_option maxRecDepth 20000 in
theorem jc_Tape_canCloseBlock_16 (N : Nat)  (h : Hp) : J p l e R s m args below meth c prog_11_method_9_code 1 "RingingChamber$Tape" 0 0 (some .boolean) "canCloseBlock" D dA B n0 s0 (QM below args s D dA B n0 s0 vI) 16 [] [] h (Tape_canCloseBlock_16 N  h) := by
  unfold Tape_canCloseBlock_16
  refine j_iconst (v := 1) d_Tape_canCloseBlock_16 (by decide) ?_
  refine j_goto (tgt := 21) d_Tape_canCloseBlock_17 (by decide) ?_
  exact j_retZ d_Tape_canCloseBlock_21
set_option maxRecDepth 20000 in
theorem jc_Tape_canCloseBlock (N : Nat) (l0 : Option Nat) (h : Hp) : J p l e R s m args below meth c prog_11_method_9_code 1 "RingingChamber$Tape" 0 0 (some .boolean) "canCloseBlock" D dA B n0 s0 (QM below args s D dA B n0 s0 vI) 0 [(0, vr l0)] [] h (Tape_canCloseBlock N l0 h) := by
  unfold Tape_canCloseBlock
  refine j_aload_n d_Tape_canCloseBlock_0 0 rfl rfl ?_
  refine j_getI d_Tape_canCloseBlock_1 fl_8_29.r (fun x1 => ?_)
  refine j_iconst (v := 1) d_Tape_canCloseBlock_4 (by decide) ?_
  refine j_icmp_eq (tgt := 16) d_Tape_canCloseBlock_5 (by decide) ?_ ?_
  · exact J.sub [] rfl (jc_Tape_canCloseBlock_16 N  h)
  · refine j_aload_n d_Tape_canCloseBlock_8 0 rfl rfl ?_
    refine j_getI d_Tape_canCloseBlock_9 fl_8_29.r (fun x2 => ?_)
    refine j_iconst (v := 2) d_Tape_canCloseBlock_12 (by decide) ?_
    refine j_icmp_ne (tgt := 20) d_Tape_canCloseBlock_13 (by decide) ?_ ?_
    · exact J.sub [] rfl (jc_Tape_canCloseBlock_16 N  h)
    · refine j_iconst (v := 0) d_Tape_canCloseBlock_20 (by decide) ?_
      exact j_retZ d_Tape_canCloseBlock_21
set_option maxRecDepth 20000 in
theorem ct_Tape_canCloseBlock (N : Nat) (l : Launch) (D : va_G) (dA : Nat → ClassId) (B : Nat) (l0 : Option Nat) (h : Hp) : Ct l (⟨"RingingChamber$Tape", "canCloseBlock", "()Z"⟩ : MethodName) prog_11_method_9_code 1 (some .boolean) 0 0 D dA B [vr l0] h vI (Tape_canCloseBlock N l0 h) :=
  Ct.of2 (own := "RingingChamber$Tape") (nme := "canCloseBlock") (lv := [(0, vr l0)]) rfl rfl (by decide) (Nat.le_of_ble_eq_true rfl) rfl (fun p e R s m args below meth c => jc_Tape_canCloseBlock N l0 h)
theorem d_Tape_takesComma_0 : decode prog_11_method_7_code 0 = .ok (.aload_n 0, 1) := by decide +kernel
theorem d_Tape_takesComma_1 : decode prog_11_method_7_code 1 = .ok (.getfield 26, 3) := by decide +kernel
theorem d_Tape_takesComma_4 : decode prog_11_method_7_code 4 = .ok (.ifCond .ne 10, 3) := by decide +kernel
theorem d_Tape_takesComma_7 : decode prog_11_method_7_code 7 = .ok (.aload_n 0, 1) := by decide +kernel
theorem d_Tape_takesComma_8 : decode prog_11_method_7_code 8 = .ok (.invokevirtual 36, 3) := by decide +kernel
theorem d_Tape_takesComma_11 : decode prog_11_method_7_code 11 = .ok (.ifCond .ne 5, 3) := by decide +kernel
theorem d_Tape_takesComma_14 : decode prog_11_method_7_code 14 = .ok (.iconst 0, 1) := by decide +kernel
theorem d_Tape_takesComma_15 : decode prog_11_method_7_code 15 = .ok (.ireturn, 1) := by decide +kernel
theorem d_Tape_takesComma_16 : decode prog_11_method_7_code 16 = .ok (.aload_n 0, 1) := by decide +kernel
theorem d_Tape_takesComma_17 : decode prog_11_method_7_code 17 = .ok (.iload_n 1, 1) := by decide +kernel
theorem d_Tape_takesComma_18 : decode prog_11_method_7_code 18 = .ok (.invokevirtual 40, 3) := by decide +kernel
theorem d_Tape_takesComma_21 : decode prog_11_method_7_code 21 = .ok (.aload_n 0, 1) := by decide +kernel
theorem d_Tape_takesComma_22 : decode prog_11_method_7_code 22 = .ok (.aload_n 0, 1) := by decide +kernel
theorem d_Tape_takesComma_23 : decode prog_11_method_7_code 23 = .ok (.getfield 23, 3) := by decide +kernel
theorem d_Tape_takesComma_26 : decode prog_11_method_7_code 26 = .ok (.putfield 26, 3) := by decide +kernel
theorem d_Tape_takesComma_29 : decode prog_11_method_7_code 29 = .ok (.aload_n 0, 1) := by decide +kernel
theorem d_Tape_takesComma_30 : decode prog_11_method_7_code 30 = .ok (.iconst 0, 1) := by decide +kernel
theorem d_Tape_takesComma_31 : decode prog_11_method_7_code 31 = .ok (.putfield 29, 3) := by decide +kernel
theorem d_Tape_takesComma_34 : decode prog_11_method_7_code 34 = .ok (.iconst 1, 1) := by decide +kernel
theorem d_Tape_takesComma_35 : decode prog_11_method_7_code 35 = .ok (.ireturn, 1) := by decide +kernel
set_option maxRecDepth 20000 in
theorem jc_Tape_takesComma (N : Nat) (l0 : Option Nat) (l1 : Int32) (h : Hp) : J p l e R s m args below meth c prog_11_method_7_code 2 "RingingChamber$Tape" 2 44 (some .boolean) "takesComma" D dA B n0 s0 (QM below args s D dA B n0 s0 vI) 0 [(0, vr l0), (1, vi l1)] [] h (Tape_takesComma N l0 l1 h) := by
  unfold Tape_takesComma
  refine j_aload_n d_Tape_takesComma_0 0 rfl rfl ?_
  refine j_getI d_Tape_takesComma_1 fl_8_26.r (fun x1 => ?_)
  refine j_if_ne (tgt := 14) d_Tape_takesComma_4 (by decide) ?_ ?_
  · refine j_aload_n d_Tape_takesComma_7 0 rfl rfl ?_
    refine j_vI0 d_Tape_takesComma_8 (allQ.cons (VD.mk vt_8_36_8 (ct_Tape_canCloseBlock N l D dA B l0 h) (by decide) (by decide)) allQ.nil) (Nat.le_of_ble_eq_true rfl) (fun x3 h2 => ?_)
    refine j_if_ne (tgt := 16) d_Tape_takesComma_11 (by decide) ?_ ?_
    · refine j_iconst (v := 0) d_Tape_takesComma_14 (by decide) ?_
      exact j_retZ d_Tape_takesComma_15
    · refine j_aload_n d_Tape_takesComma_16 0 rfl rfl ?_
      refine j_iload_n d_Tape_takesComma_17 1 rfl rfl ?_
      refine j_vU1 d_Tape_takesComma_18 (allQ.cons (VD.mk vt_8_40_8 (ct_Tape_closePlaces N l D dA B l0 l1 h2) (by decide) (by decide)) allQ.nil) (Nat.le_of_ble_eq_true rfl) (fun _ h4 => ?_)
      refine j_aload_n d_Tape_takesComma_21 0 rfl rfl ?_
      refine j_aload_n d_Tape_takesComma_22 0 rfl rfl ?_
      refine j_getI d_Tape_takesComma_23 fl_8_23.r (fun x5 => ?_)
      refine j_putI d_Tape_takesComma_26 fl_8_26 (Or.inl rfl) (fun h6 => ?_)
      refine j_aload_n d_Tape_takesComma_29 0 rfl rfl ?_
      refine j_iconst (v := 0) d_Tape_takesComma_30 (by decide) ?_
      refine j_putI d_Tape_takesComma_31 fl_8_29 (Or.inl rfl) (fun h7 => ?_)
      refine j_iconst (v := 1) d_Tape_takesComma_34 (by decide) ?_
      exact j_retZ d_Tape_takesComma_35
  · refine j_iconst (v := 0) d_Tape_takesComma_14 (by decide) ?_
    exact j_retZ d_Tape_takesComma_15
set_option maxRecDepth 20000 in
theorem ct_Tape_takesComma (N : Nat) (l : Launch) (D : va_G) (dA : Nat → ClassId) (B : Nat) (l0 : Option Nat) (l1 : Int32) (h : Hp) : Ct l (⟨"RingingChamber$Tape", "takesComma", "(I)Z"⟩ : MethodName) prog_11_method_7_code 2 (some .boolean) 2 44 D dA B [vr l0, vi l1] h vI (Tape_takesComma N l0 l1 h) :=
  Ct.of2 (own := "RingingChamber$Tape") (nme := "takesComma") (lv := [(0, vr l0), (1, vi l1)]) rfl rfl (by decide) (Nat.le_of_ble_eq_true rfl) rfl (fun p e R s m args below meth c => jc_Tape_takesComma N l0 l1 h)
theorem d_Tape_takes_0 : decode prog_11_method_4_code 0 = .ok (.iload_n 1, 1) := by decide +kernel
theorem d_Tape_takes_1 : decode prog_11_method_4_code 1 = .ok (.lookupswitch 53 #[(44, 47), (46, 41), (120, 35)], 35) := by decide +kernel
theorem d_Tape_takes_36 : decode prog_11_method_4_code 36 = .ok (.aload_n 0, 1) := by decide +kernel
theorem d_Tape_takes_37 : decode prog_11_method_4_code 37 = .ok (.iload_n 2, 1) := by decide +kernel
theorem d_Tape_takes_38 : decode prog_11_method_4_code 38 = .ok (.invokevirtual 48, 3) := by decide +kernel
theorem d_Tape_takes_41 : decode prog_11_method_4_code 41 = .ok (.ireturn, 1) := by decide +kernel
theorem d_Tape_takes_42 : decode prog_11_method_4_code 42 = .ok (.aload_n 0, 1) := by decide +kernel
theorem d_Tape_takes_43 : decode prog_11_method_4_code 43 = .ok (.iload_n 2, 1) := by decide +kernel
theorem d_Tape_takes_44 : decode prog_11_method_4_code 44 = .ok (.invokevirtual 52, 3) := by decide +kernel
theorem d_Tape_takes_47 : decode prog_11_method_4_code 47 = .ok (.ireturn, 1) := by decide +kernel
theorem d_Tape_takes_48 : decode prog_11_method_4_code 48 = .ok (.aload_n 0, 1) := by decide +kernel
theorem d_Tape_takes_49 : decode prog_11_method_4_code 49 = .ok (.iload_n 2, 1) := by decide +kernel
theorem d_Tape_takes_50 : decode prog_11_method_4_code 50 = .ok (.invokevirtual 55, 3) := by decide +kernel
theorem d_Tape_takes_53 : decode prog_11_method_4_code 53 = .ok (.ireturn, 1) := by decide +kernel
theorem d_Tape_takes_54 : decode prog_11_method_4_code 54 = .ok (.aload_n 0, 1) := by decide +kernel
theorem d_Tape_takes_55 : decode prog_11_method_4_code 55 = .ok (.iload_n 1, 1) := by decide +kernel
theorem d_Tape_takes_56 : decode prog_11_method_4_code 56 = .ok (.invokestatic 58, 3) := by decide +kernel
theorem d_Tape_takes_59 : decode prog_11_method_4_code 59 = .ok (.iload_n 2, 1) := by decide +kernel
theorem d_Tape_takes_60 : decode prog_11_method_4_code 60 = .ok (.invokevirtual 62, 3) := by decide +kernel
theorem d_Tape_takes_63 : decode prog_11_method_4_code 63 = .ok (.ireturn, 1) := by decide +kernel
set_option maxRecDepth 20000 in
theorem lsw_Tape_takes_1 : ∀ y : Int32, ((1 : Nat) : Int) + Op.lookupswitch.offset (#[(44, 47), (46, 41), (120, 35)] : Array (Int × Int)).toList 53 y.toInt = ((swt y [(44, 48), (46, 42), (120, 36)] 54 : Nat) : Int) := by
  intro y
  have e0 : y.toInt = 44 ↔ y = 44 := ⟨fun q => Int32.toInt_inj.mp q, fun q => by rw [q]; rfl⟩
  have e1 : y.toInt = 46 ↔ y = 46 := ⟨fun q => Int32.toInt_inj.mp q, fun q => by rw [q]; rfl⟩
  have e2 : y.toInt = 120 ↔ y = 120 := ⟨fun q => Int32.toInt_inj.mp q, fun q => by rw [q]; rfl⟩
  have f0 : (44 : Int) = y.toInt ↔ y = 44 := ⟨fun q => e0.mp q.symm, fun q => (e0.mpr q).symm⟩
  have f1 : (46 : Int) = y.toInt ↔ y = 46 := ⟨fun q => e1.mp q.symm, fun q => (e1.mpr q).symm⟩
  have f2 : (120 : Int) = y.toInt ↔ y = 120 := ⟨fun q => e2.mp q.symm, fun q => (e2.mpr q).symm⟩
  simp only [Op.lookupswitch.offset, swt]
  by_cases q0 : y = 44 <;> by_cases q1 : y = 46 <;> by_cases q2 : y = 120 <;> simp_all [Op.lookupswitch.offset]
set_option maxRecDepth 20000 in
theorem jc_Tape_takes (N : Nat) (l0 : Option Nat) (l1 : Int32) (l2 : Int32) (h : Hp) : J p l e R s m args below meth c prog_11_method_4_code 3 "RingingChamber$Tape" 3 65 (some .boolean) "takes" D dA B n0 s0 (QM below args s D dA B n0 s0 vI) 0 [(0, vr l0), (1, vi l1), (2, vi l2)] [] h (Tape_takes N l0 l1 l2 h) := by
  unfold Tape_takes
  refine j_iload_n d_Tape_takes_0 1 rfl rfl ?_
  refine j_lsw (ts := [(44, 48), (46, 42), (120, 36)]) (d := 54) d_Tape_takes_1 (by decide +kernel) (lsw_Tape_takes_1) rfl ((allQ.cons (sw_case (t := 48) (by decide) ?_) (allQ.cons (sw_case (t := 42) (by decide) ?_) (allQ.cons (sw_case (t := 36) (by decide) ?_) allQ.nil)))) ?_
  · refine j_aload_n d_Tape_takes_48 0 rfl rfl ?_
    refine j_iload_n d_Tape_takes_49 2 rfl rfl ?_
    refine j_vI1 d_Tape_takes_50 (allQ.cons (VD.mk vt_8_55_8 (ct_Tape_takesComma N l D dA B l0 l2 h) (by decide) (by decide)) allQ.nil) (Nat.le_of_ble_eq_true rfl) (fun x2 h1 => ?_)
    exact j_retZ d_Tape_takes_53
  · refine j_aload_n d_Tape_takes_42 0 rfl rfl ?_
    refine j_iload_n d_Tape_takes_43 2 rfl rfl ?_
    refine j_vI1 d_Tape_takes_44 (allQ.cons (VD.mk vt_8_52_8 (ct_Tape_takesDot N l D dA B l0 l2 h) (by decide) (by decide)) allQ.nil) (Nat.le_of_ble_eq_true rfl) (fun x4 h3 => ?_)
    exact j_retZ d_Tape_takes_47
  · refine j_aload_n d_Tape_takes_36 0 rfl rfl ?_
    refine j_iload_n d_Tape_takes_37 2 rfl rfl ?_
    refine j_vI1 d_Tape_takes_38 (allQ.cons (VD.mk vt_8_48_8 (ct_Tape_takesCross N l D dA B l0 l2 h) (by decide) (by decide)) allQ.nil) (Nat.le_of_ble_eq_true rfl) (fun x6 h5 => ?_)
    exact j_retZ d_Tape_takes_41
  · refine j_aload_n d_Tape_takes_54 0 rfl rfl ?_
    refine j_iload_n d_Tape_takes_55 1 rfl rfl ?_
    refine j_cSI1 d_Tape_takes_56 sl_8_58 ks_Tape_placeTold (ct_Tape_placeTold N l D dA B l1 h) (by decide) (by decide) (Nat.le_of_ble_eq_true rfl) (fun x8 h7 => ?_)
    refine j_iload_n d_Tape_takes_59 2 rfl rfl ?_
    refine j_vI2 d_Tape_takes_60 (allQ.cons (VD.mk vt_8_62_8 (ct_Tape_takesPlace N l D dA B l0 x8 l2 h7) (by decide) (by decide)) allQ.nil) (Nat.le_of_ble_eq_true rfl) (fun x10 h9 => ?_)
    exact j_retZ d_Tape_takes_63
set_option maxRecDepth 20000 in
theorem ct_Tape_takes (N : Nat) (l : Launch) (D : va_G) (dA : Nat → ClassId) (B : Nat) (l0 : Option Nat) (l1 : Int32) (l2 : Int32) (h : Hp) : Ct l (⟨"RingingChamber$Tape", "takes", "(II)Z"⟩ : MethodName) prog_11_method_4_code 3 (some .boolean) 3 65 D dA B [vr l0, vi l1, vi l2] h vI (Tape_takes N l0 l1 l2 h) :=
  Ct.of2 (own := "RingingChamber$Tape") (nme := "takes") (lv := [(0, vr l0), (1, vi l1), (2, vi l2)]) rfl rfl (by decide) (Nat.le_of_ble_eq_true rfl) rfl (fun p e R s m args below meth c => jc_Tape_takes N l0 l1 l2 h)
theorem d_Tape_write_0 : decode prog_11_method_12_code 0 = .ok (.aload_n 1, 1) := by decide +kernel
theorem d_Tape_write_1 : decode prog_11_method_12_code 1 = .ok (.iconst 0, 1) := by decide +kernel
theorem d_Tape_write_2 : decode prog_11_method_12_code 2 = .ok (.putfield 78, 3) := by decide +kernel
theorem d_Tape_write_5 : decode prog_11_method_12_code 5 = .ok (.aload_n 1, 1) := by decide +kernel
theorem d_Tape_write_6 : decode prog_11_method_12_code 6 = .ok (.iconst 0, 1) := by decide +kernel
theorem d_Tape_write_7 : decode prog_11_method_12_code 7 = .ok (.putfield 83, 3) := by decide +kernel
theorem d_Tape_write_10 : decode prog_11_method_12_code 10 = .ok (.iconst 0, 1) := by decide +kernel
theorem d_Tape_write_11 : decode prog_11_method_12_code 11 = .ok (.istore_n 2, 1) := by decide +kernel
theorem d_Tape_write_12 : decode prog_11_method_12_code 12 = .ok (.iload_n 2, 1) := by decide +kernel
theorem d_Tape_write_13 : decode prog_11_method_12_code 13 = .ok (.aload_n 0, 1) := by decide +kernel
theorem d_Tape_write_14 : decode prog_11_method_12_code 14 = .ok (.getfield 26, 3) := by decide +kernel
theorem d_Tape_write_17 : decode prog_11_method_12_code 17 = .ok (.if_icmp .ge 19, 3) := by decide +kernel
theorem d_Tape_write_20 : decode prog_11_method_12_code 20 = .ok (.aload_n 1, 1) := by decide +kernel
theorem d_Tape_write_21 : decode prog_11_method_12_code 21 = .ok (.aload_n 0, 1) := by decide +kernel
theorem d_Tape_write_22 : decode prog_11_method_12_code 22 = .ok (.getfield 15, 3) := by decide +kernel
theorem d_Tape_write_25 : decode prog_11_method_12_code 25 = .ok (.iload_n 2, 1) := by decide +kernel
theorem d_Tape_write_26 : decode prog_11_method_12_code 26 = .ok (.iaload, 1) := by decide +kernel
theorem d_Tape_write_27 : decode prog_11_method_12_code 27 = .ok (.invokevirtual 86, 3) := by decide +kernel
theorem d_Tape_write_30 : decode prog_11_method_12_code 30 = .ok (.iinc 2 1, 3) := by decide +kernel
theorem d_Tape_write_33 : decode prog_11_method_12_code 33 = .ok (.goto (-21), 3) := by decide +kernel
theorem d_Tape_write_36 : decode prog_11_method_12_code 36 = .ok (.aload_n 0, 1) := by decide +kernel
theorem d_Tape_write_37 : decode prog_11_method_12_code 37 = .ok (.getfield 26, 3) := by decide +kernel
theorem d_Tape_write_40 : decode prog_11_method_12_code 40 = .ok (.iconst 2, 1) := by decide +kernel
theorem d_Tape_write_41 : decode prog_11_method_12_code 41 = .ok (.isub, 1) := by decide +kernel
theorem d_Tape_write_42 : decode prog_11_method_12_code 42 = .ok (.istore_n 2, 1) := by decide +kernel
theorem d_Tape_write_43 : decode prog_11_method_12_code 43 = .ok (.iload_n 2, 1) := by decide +kernel
theorem d_Tape_write_44 : decode prog_11_method_12_code 44 = .ok (.ifCond .lt 19, 3) := by decide +kernel
theorem d_Tape_write_47 : decode prog_11_method_12_code 47 = .ok (.aload_n 1, 1) := by decide +kernel
theorem d_Tape_write_48 : decode prog_11_method_12_code 48 = .ok (.aload_n 0, 1) := by decide +kernel
theorem d_Tape_write_49 : decode prog_11_method_12_code 49 = .ok (.getfield 15, 3) := by decide +kernel
theorem d_Tape_write_52 : decode prog_11_method_12_code 52 = .ok (.iload_n 2, 1) := by decide +kernel
theorem d_Tape_write_53 : decode prog_11_method_12_code 53 = .ok (.iaload, 1) := by decide +kernel
theorem d_Tape_write_54 : decode prog_11_method_12_code 54 = .ok (.invokevirtual 86, 3) := by decide +kernel
theorem d_Tape_write_57 : decode prog_11_method_12_code 57 = .ok (.iinc 2 (-1), 3) := by decide +kernel
theorem d_Tape_write_60 : decode prog_11_method_12_code 60 = .ok (.goto (-17), 3) := by decide +kernel
theorem d_Tape_write_63 : decode prog_11_method_12_code 63 = .ok (.aload_n 0, 1) := by decide +kernel
theorem d_Tape_write_64 : decode prog_11_method_12_code 64 = .ok (.getfield 26, 3) := by decide +kernel
theorem d_Tape_write_67 : decode prog_11_method_12_code 67 = .ok (.istore_n 2, 1) := by decide +kernel
theorem d_Tape_write_68 : decode prog_11_method_12_code 68 = .ok (.iload_n 2, 1) := by decide +kernel
theorem d_Tape_write_69 : decode prog_11_method_12_code 69 = .ok (.aload_n 0, 1) := by decide +kernel
theorem d_Tape_write_70 : decode prog_11_method_12_code 70 = .ok (.getfield 23, 3) := by decide +kernel
theorem d_Tape_write_73 : decode prog_11_method_12_code 73 = .ok (.if_icmp .ge 19, 3) := by decide +kernel
theorem d_Tape_write_76 : decode prog_11_method_12_code 76 = .ok (.aload_n 1, 1) := by decide +kernel
theorem d_Tape_write_77 : decode prog_11_method_12_code 77 = .ok (.aload_n 0, 1) := by decide +kernel
theorem d_Tape_write_78 : decode prog_11_method_12_code 78 = .ok (.getfield 15, 3) := by decide +kernel
theorem d_Tape_write_81 : decode prog_11_method_12_code 81 = .ok (.iload_n 2, 1) := by decide +kernel
theorem d_Tape_write_82 : decode prog_11_method_12_code 82 = .ok (.iaload, 1) := by decide +kernel
theorem d_Tape_write_83 : decode prog_11_method_12_code 83 = .ok (.invokevirtual 86, 3) := by decide +kernel
theorem d_Tape_write_86 : decode prog_11_method_12_code 86 = .ok (.iinc 2 1, 3) := by decide +kernel
theorem d_Tape_write_89 : decode prog_11_method_12_code 89 = .ok (.goto (-21), 3) := by decide +kernel
theorem d_Tape_write_92 : decode prog_11_method_12_code 92 = .ok (.aload_n 0, 1) := by decide +kernel
theorem d_Tape_write_93 : decode prog_11_method_12_code 93 = .ok (.getfield 23, 3) := by decide +kernel
theorem d_Tape_write_96 : decode prog_11_method_12_code 96 = .ok (.iconst 2, 1) := by decide +kernel
theorem d_Tape_write_97 : decode prog_11_method_12_code 97 = .ok (.isub, 1) := by decide +kernel
theorem d_Tape_write_98 : decode prog_11_method_12_code 98 = .ok (.istore_n 2, 1) := by decide +kernel
theorem d_Tape_write_99 : decode prog_11_method_12_code 99 = .ok (.aload_n 0, 1) := by decide +kernel
theorem d_Tape_write_100 : decode prog_11_method_12_code 100 = .ok (.getfield 26, 3) := by decide +kernel
theorem d_Tape_write_103 : decode prog_11_method_12_code 103 = .ok (.ifCond .le 27, 3) := by decide +kernel
theorem d_Tape_write_106 : decode prog_11_method_12_code 106 = .ok (.iload_n 2, 1) := by decide +kernel
theorem d_Tape_write_107 : decode prog_11_method_12_code 107 = .ok (.aload_n 0, 1) := by decide +kernel
theorem d_Tape_write_108 : decode prog_11_method_12_code 108 = .ok (.getfield 26, 3) := by decide +kernel
theorem d_Tape_write_111 : decode prog_11_method_12_code 111 = .ok (.if_icmp .lt 19, 3) := by decide +kernel
theorem d_Tape_write_114 : decode prog_11_method_12_code 114 = .ok (.aload_n 1, 1) := by decide +kernel
theorem d_Tape_write_115 : decode prog_11_method_12_code 115 = .ok (.aload_n 0, 1) := by decide +kernel
theorem d_Tape_write_116 : decode prog_11_method_12_code 116 = .ok (.getfield 15, 3) := by decide +kernel
theorem d_Tape_write_119 : decode prog_11_method_12_code 119 = .ok (.iload_n 2, 1) := by decide +kernel
theorem d_Tape_write_120 : decode prog_11_method_12_code 120 = .ok (.iaload, 1) := by decide +kernel
theorem d_Tape_write_121 : decode prog_11_method_12_code 121 = .ok (.invokevirtual 86, 3) := by decide +kernel
theorem d_Tape_write_124 : decode prog_11_method_12_code 124 = .ok (.iinc 2 (-1), 3) := by decide +kernel
theorem d_Tape_write_127 : decode prog_11_method_12_code 127 = .ok (.goto (-28), 3) := by decide +kernel
theorem d_Tape_write_130 : decode prog_11_method_12_code 130 = .ok (.return_, 1) := by decide +kernel
set_option maxRecDepth 20000 in
theorem jc_Tape_write_99 (N : Nat) : ∀ (n : Nat) (l0 : Option Nat) (l1 : Option Nat) (l2 : Int32) (h : Hp), J p l e R s m args below meth c prog_11_method_12_code 3 "RingingChamber$Tape" 1 21 none "write" D dA B n0 s0 (QM below args s D dA B n0 s0 vU) 99 [(0, vr l0), (1, vr l1), (2, vi l2)] [] h (Tape_write_99 N n l0 l1 l2 h) := by
  intro n
  induction n with
  | zero => intros; exact J.none
  | succ n ih =>
    intro l0 l1 l2 h
    rw [Tape_write_99]
    refine j_aload_n d_Tape_write_99 0 rfl rfl ?_
    refine j_getI d_Tape_write_100 fl_8_26.r (fun x1 => ?_)
    refine j_if_le (tgt := 130) d_Tape_write_103 (by decide) ?_ ?_
    · exact j_retU d_Tape_write_130
    · refine j_iload_n d_Tape_write_106 2 rfl rfl ?_
      refine j_aload_n d_Tape_write_107 0 rfl rfl ?_
      refine j_getI d_Tape_write_108 fl_8_26.r (fun x2 => ?_)
      refine j_icmp_lt (tgt := 130) d_Tape_write_111 (by decide) ?_ ?_
      · exact j_retU d_Tape_write_130
      · refine j_aload_n d_Tape_write_114 1 rfl rfl ?_
        refine j_aload_n d_Tape_write_115 0 rfl rfl ?_
        refine j_getR d_Tape_write_116 fl_8_15.r (fun x3 => ?_)
        refine j_iload_n d_Tape_write_119 2 rfl rfl ?_
        refine j_iald d_Tape_write_120 (fun x4 => ?_)
        refine j_vU1 d_Tape_write_121 (allQ.cons (VD.mk vt_8_86_0 (ct_Lead_add N l D dA B l1 x4 h) (by decide) (by decide)) allQ.nil) (Nat.le_of_ble_eq_true rfl) (fun _ h5 => ?_)
        refine j_iinc (lvv := fun x6 => [(2, vi x6), (0, vr l0), (1, vr l1)]) d_Tape_write_124 2 rfl rfl (by decide) (fun _ => rfl) (fun x6 => ?_)
        refine j_goto (tgt := 99) d_Tape_write_127 (by decide) ?_
        exact J.sub [1, 2, 0] rfl (ih l0 l1 x6 h5)
set_option maxRecDepth 20000 in
theorem jc_Tape_write_68 (N : Nat) : ∀ (n : Nat) (l0 : Option Nat) (l1 : Option Nat) (l2 : Int32) (h : Hp), J p l e R s m args below meth c prog_11_method_12_code 3 "RingingChamber$Tape" 1 21 none "write" D dA B n0 s0 (QM below args s D dA B n0 s0 vU) 68 [(0, vr l0), (1, vr l1), (2, vi l2)] [] h (Tape_write_68 N n l0 l1 l2 h) := by
  intro n
  induction n with
  | zero => intros; exact J.none
  | succ n ih =>
    intro l0 l1 l2 h
    rw [Tape_write_68]
    refine j_iload_n d_Tape_write_68 2 rfl rfl ?_
    refine j_aload_n d_Tape_write_69 0 rfl rfl ?_
    refine j_getI d_Tape_write_70 fl_8_23.r (fun x1 => ?_)
    refine j_icmp_ge (tgt := 92) d_Tape_write_73 (by decide) ?_ ?_
    · refine j_aload_n d_Tape_write_92 0 rfl rfl ?_
      refine j_getI d_Tape_write_93 fl_8_23.r (fun x2 => ?_)
      refine j_iconst (v := 2) d_Tape_write_96 (by decide) ?_
      refine j_isub d_Tape_write_97 ?_
      refine j_nmi (fun x3 => ?_)
      refine j_istore_n (lv' := [(2, vi x3), (0, vr l0), (1, vr l1)]) d_Tape_write_98 rfl (by decide) rfl ?_
      exact J.sub [1, 2, 0] rfl (jc_Tape_write_99 N N l0 l1 x3 h)
    · refine j_aload_n d_Tape_write_76 1 rfl rfl ?_
      refine j_aload_n d_Tape_write_77 0 rfl rfl ?_
      refine j_getR d_Tape_write_78 fl_8_15.r (fun x4 => ?_)
      refine j_iload_n d_Tape_write_81 2 rfl rfl ?_
      refine j_iald d_Tape_write_82 (fun x5 => ?_)
      refine j_vU1 d_Tape_write_83 (allQ.cons (VD.mk vt_8_86_0 (ct_Lead_add N l D dA B l1 x5 h) (by decide) (by decide)) allQ.nil) (Nat.le_of_ble_eq_true rfl) (fun _ h6 => ?_)
      refine j_iinc (lvv := fun x7 => [(2, vi x7), (0, vr l0), (1, vr l1)]) d_Tape_write_86 2 rfl rfl (by decide) (fun _ => rfl) (fun x7 => ?_)
      refine j_goto (tgt := 68) d_Tape_write_89 (by decide) ?_
      exact J.sub [1, 2, 0] rfl (ih l0 l1 x7 h6)
set_option maxRecDepth 20000 in
theorem jc_Tape_write_43 (N : Nat) : ∀ (n : Nat) (l0 : Option Nat) (l1 : Option Nat) (l2 : Int32) (h : Hp), J p l e R s m args below meth c prog_11_method_12_code 3 "RingingChamber$Tape" 1 21 none "write" D dA B n0 s0 (QM below args s D dA B n0 s0 vU) 43 [(0, vr l0), (1, vr l1), (2, vi l2)] [] h (Tape_write_43 N n l0 l1 l2 h) := by
  intro n
  induction n with
  | zero => intros; exact J.none
  | succ n ih =>
    intro l0 l1 l2 h
    rw [Tape_write_43]
    refine j_iload_n d_Tape_write_43 2 rfl rfl ?_
    refine j_if_lt (tgt := 63) d_Tape_write_44 (by decide) ?_ ?_
    · refine j_aload_n d_Tape_write_63 0 rfl rfl ?_
      refine j_getI d_Tape_write_64 fl_8_26.r (fun x1 => ?_)
      refine j_istore_n (lv' := [(2, vi x1), (0, vr l0), (1, vr l1)]) d_Tape_write_67 rfl (by decide) rfl ?_
      exact J.sub [1, 2, 0] rfl (jc_Tape_write_68 N N l0 l1 x1 h)
    · refine j_aload_n d_Tape_write_47 1 rfl rfl ?_
      refine j_aload_n d_Tape_write_48 0 rfl rfl ?_
      refine j_getR d_Tape_write_49 fl_8_15.r (fun x2 => ?_)
      refine j_iload_n d_Tape_write_52 2 rfl rfl ?_
      refine j_iald d_Tape_write_53 (fun x3 => ?_)
      refine j_vU1 d_Tape_write_54 (allQ.cons (VD.mk vt_8_86_0 (ct_Lead_add N l D dA B l1 x3 h) (by decide) (by decide)) allQ.nil) (Nat.le_of_ble_eq_true rfl) (fun _ h4 => ?_)
      refine j_iinc (lvv := fun x5 => [(2, vi x5), (0, vr l0), (1, vr l1)]) d_Tape_write_57 2 rfl rfl (by decide) (fun _ => rfl) (fun x5 => ?_)
      refine j_goto (tgt := 43) d_Tape_write_60 (by decide) ?_
      exact J.sub [1, 2, 0] rfl (ih l0 l1 x5 h4)
set_option maxRecDepth 20000 in
theorem jc_Tape_write_12 (N : Nat) : ∀ (n : Nat) (l0 : Option Nat) (l1 : Option Nat) (l2 : Int32) (h : Hp), J p l e R s m args below meth c prog_11_method_12_code 3 "RingingChamber$Tape" 1 21 none "write" D dA B n0 s0 (QM below args s D dA B n0 s0 vU) 12 [(0, vr l0), (1, vr l1), (2, vi l2)] [] h (Tape_write_12 N n l0 l1 l2 h) := by
  intro n
  induction n with
  | zero => intros; exact J.none
  | succ n ih =>
    intro l0 l1 l2 h
    rw [Tape_write_12]
    refine j_iload_n d_Tape_write_12 2 rfl rfl ?_
    refine j_aload_n d_Tape_write_13 0 rfl rfl ?_
    refine j_getI d_Tape_write_14 fl_8_26.r (fun x1 => ?_)
    refine j_icmp_ge (tgt := 36) d_Tape_write_17 (by decide) ?_ ?_
    · refine j_aload_n d_Tape_write_36 0 rfl rfl ?_
      refine j_getI d_Tape_write_37 fl_8_26.r (fun x2 => ?_)
      refine j_iconst (v := 2) d_Tape_write_40 (by decide) ?_
      refine j_isub d_Tape_write_41 ?_
      refine j_nmi (fun x3 => ?_)
      refine j_istore_n (lv' := [(2, vi x3), (0, vr l0), (1, vr l1)]) d_Tape_write_42 rfl (by decide) rfl ?_
      exact J.sub [1, 2, 0] rfl (jc_Tape_write_43 N N l0 l1 x3 h)
    · refine j_aload_n d_Tape_write_20 1 rfl rfl ?_
      refine j_aload_n d_Tape_write_21 0 rfl rfl ?_
      refine j_getR d_Tape_write_22 fl_8_15.r (fun x4 => ?_)
      refine j_iload_n d_Tape_write_25 2 rfl rfl ?_
      refine j_iald d_Tape_write_26 (fun x5 => ?_)
      refine j_vU1 d_Tape_write_27 (allQ.cons (VD.mk vt_8_86_0 (ct_Lead_add N l D dA B l1 x5 h) (by decide) (by decide)) allQ.nil) (Nat.le_of_ble_eq_true rfl) (fun _ h6 => ?_)
      refine j_iinc (lvv := fun x7 => [(2, vi x7), (0, vr l0), (1, vr l1)]) d_Tape_write_30 2 rfl rfl (by decide) (fun _ => rfl) (fun x7 => ?_)
      refine j_goto (tgt := 12) d_Tape_write_33 (by decide) ?_
      exact J.sub [1, 2, 0] rfl (ih l0 l1 x7 h6)
set_option maxRecDepth 20000 in
theorem jc_Tape_write (N : Nat) (l0 : Option Nat) (l1 : Option Nat) (h : Hp) : J p l e R s m args below meth c prog_11_method_12_code 3 "RingingChamber$Tape" 1 21 none "write" D dA B n0 s0 (QM below args s D dA B n0 s0 vU) 0 [(0, vr l0), (1, vr l1)] [] h (Tape_write N l0 l1 h) := by
  unfold Tape_write
  refine j_aload_n d_Tape_write_0 1 rfl rfl ?_
  refine j_iconst (v := 0) d_Tape_write_1 (by decide) ?_
  refine j_putI d_Tape_write_2 fl_8_78 (Or.inl rfl) (fun h1 => ?_)
  refine j_aload_n d_Tape_write_5 1 rfl rfl ?_
  refine j_iconst (v := 0) d_Tape_write_6 (by decide) ?_
  refine j_putI d_Tape_write_7 fl_8_83 (Or.inl rfl) (fun h2 => ?_)
  refine j_iconst (v := 0) d_Tape_write_10 (by decide) ?_
  refine j_istore_n (lv' := [(2, vi 0), (0, vr l0), (1, vr l1)]) d_Tape_write_11 rfl (by decide) rfl ?_
  exact J.sub [1, 2, 0] rfl (jc_Tape_write_12 N N l0 l1 0 h2)
set_option maxRecDepth 20000 in
theorem ct_Tape_write (N : Nat) (l : Launch) (D : va_G) (dA : Nat → ClassId) (B : Nat) (l0 : Option Nat) (l1 : Option Nat) (h : Hp) : Ct l (⟨"RingingChamber$Tape", "write", "(LRingingChamber$Lead;)V"⟩ : MethodName) prog_11_method_12_code 3 none 1 21 D dA B [vr l0, vr l1] h vU (Tape_write N l0 l1 h) :=
  Ct.of2 (own := "RingingChamber$Tape") (nme := "write") (lv := [(0, vr l0), (1, vr l1)]) rfl rfl (by decide) (Nat.le_of_ble_eq_true rfl) rfl (fun p e R s m args below meth c => jc_Tape_write N l0 l1 h)
theorem d_Tape_readLead_0 : decode prog_11_method_3_code 0 = .ok (.aload_n 0, 1) := by decide +kernel
theorem d_Tape_readLead_1 : decode prog_11_method_3_code 1 = .ok (.iconst 0, 1) := by decide +kernel
theorem d_Tape_readLead_2 : decode prog_11_method_3_code 2 = .ok (.putfield 23, 3) := by decide +kernel
theorem d_Tape_readLead_5 : decode prog_11_method_3_code 5 = .ok (.aload_n 0, 1) := by decide +kernel
theorem d_Tape_readLead_6 : decode prog_11_method_3_code 6 = .ok (.iconst 0, 1) := by decide +kernel
theorem d_Tape_readLead_7 : decode prog_11_method_3_code 7 = .ok (.putfield 26, 3) := by decide +kernel
theorem d_Tape_readLead_10 : decode prog_11_method_3_code 10 = .ok (.aload_n 0, 1) := by decide +kernel
theorem d_Tape_readLead_11 : decode prog_11_method_3_code 11 = .ok (.iconst 0, 1) := by decide +kernel
theorem d_Tape_readLead_12 : decode prog_11_method_3_code 12 = .ok (.putfield 29, 3) := by decide +kernel
theorem d_Tape_readLead_15 : decode prog_11_method_3_code 15 = .ok (.iconst 0, 1) := by decide +kernel
theorem d_Tape_readLead_16 : decode prog_11_method_3_code 16 = .ok (.istore_n 3, 1) := by decide +kernel
theorem d_Tape_readLead_17 : decode prog_11_method_3_code 17 = .ok (.iload_n 3, 1) := by decide +kernel
theorem d_Tape_readLead_18 : decode prog_11_method_3_code 18 = .ok (.aload_n 0, 1) := by decide +kernel
theorem d_Tape_readLead_19 : decode prog_11_method_3_code 19 = .ok (.getfield 19, 3) := by decide +kernel
theorem d_Tape_readLead_22 : decode prog_11_method_3_code 22 = .ok (.if_icmp .ge 27, 3) := by decide +kernel
theorem d_Tape_readLead_25 : decode prog_11_method_3_code 25 = .ok (.aload_n 0, 1) := by decide +kernel
theorem d_Tape_readLead_26 : decode prog_11_method_3_code 26 = .ok (.aload_n 0, 1) := by decide +kernel
theorem d_Tape_readLead_27 : decode prog_11_method_3_code 27 = .ok (.getfield 9, 3) := by decide +kernel
theorem d_Tape_readLead_30 : decode prog_11_method_3_code 30 = .ok (.iload_n 3, 1) := by decide +kernel
theorem d_Tape_readLead_31 : decode prog_11_method_3_code 31 = .ok (.baload, 1) := by decide +kernel
theorem d_Tape_readLead_32 : decode prog_11_method_3_code 32 = .ok (.iload_n 1, 1) := by decide +kernel
theorem d_Tape_readLead_33 : decode prog_11_method_3_code 33 = .ok (.invokevirtual 32, 3) := by decide +kernel
theorem d_Tape_readLead_36 : decode prog_11_method_3_code 36 = .ok (.ifCond .ne 7, 3) := by decide +kernel
theorem d_Tape_readLead_39 : decode prog_11_method_3_code 39 = .ok (.iconst (-1), 1) := by decide +kernel
theorem d_Tape_readLead_40 : decode prog_11_method_3_code 40 = .ok (.iload_n 3, 1) := by decide +kernel
theorem d_Tape_readLead_41 : decode prog_11_method_3_code 41 = .ok (.isub, 1) := by decide +kernel
theorem d_Tape_readLead_42 : decode prog_11_method_3_code 42 = .ok (.ireturn, 1) := by decide +kernel
theorem d_Tape_readLead_43 : decode prog_11_method_3_code 43 = .ok (.iinc 3 1, 3) := by decide +kernel
theorem d_Tape_readLead_46 : decode prog_11_method_3_code 46 = .ok (.goto (-29), 3) := by decide +kernel
theorem d_Tape_readLead_49 : decode prog_11_method_3_code 49 = .ok (.aload_n 0, 1) := by decide +kernel
theorem d_Tape_readLead_50 : decode prog_11_method_3_code 50 = .ok (.invokevirtual 36, 3) := by decide +kernel
theorem d_Tape_readLead_53 : decode prog_11_method_3_code 53 = .ok (.ifCond .ne 10, 3) := by decide +kernel
theorem d_Tape_readLead_56 : decode prog_11_method_3_code 56 = .ok (.iconst (-1), 1) := by decide +kernel
theorem d_Tape_readLead_57 : decode prog_11_method_3_code 57 = .ok (.aload_n 0, 1) := by decide +kernel
theorem d_Tape_readLead_58 : decode prog_11_method_3_code 58 = .ok (.getfield 19, 3) := by decide +kernel
theorem d_Tape_readLead_61 : decode prog_11_method_3_code 61 = .ok (.isub, 1) := by decide +kernel
theorem d_Tape_readLead_62 : decode prog_11_method_3_code 62 = .ok (.ireturn, 1) := by decide +kernel
theorem d_Tape_readLead_63 : decode prog_11_method_3_code 63 = .ok (.aload_n 0, 1) := by decide +kernel
theorem d_Tape_readLead_64 : decode prog_11_method_3_code 64 = .ok (.iload_n 1, 1) := by decide +kernel
theorem d_Tape_readLead_65 : decode prog_11_method_3_code 65 = .ok (.invokevirtual 40, 3) := by decide +kernel
theorem d_Tape_readLead_68 : decode prog_11_method_3_code 68 = .ok (.aload_n 0, 1) := by decide +kernel
theorem d_Tape_readLead_69 : decode prog_11_method_3_code 69 = .ok (.getfield 26, 3) := by decide +kernel
theorem d_Tape_readLead_72 : decode prog_11_method_3_code 72 = .ok (.ifCond .ne 10, 3) := by decide +kernel
theorem d_Tape_readLead_75 : decode prog_11_method_3_code 75 = .ok (.aload_n 0, 1) := by decide +kernel
theorem d_Tape_readLead_76 : decode prog_11_method_3_code 76 = .ok (.getfield 23, 3) := by decide +kernel
theorem d_Tape_readLead_79 : decode prog_11_method_3_code 79 = .ok (.goto 11, 3) := by decide +kernel
theorem d_Tape_readLead_82 : decode prog_11_method_3_code 82 = .ok (.iconst 2, 1) := by decide +kernel
theorem d_Tape_readLead_83 : decode prog_11_method_3_code 83 = .ok (.aload_n 0, 1) := by decide +kernel
theorem d_Tape_readLead_84 : decode prog_11_method_3_code 84 = .ok (.getfield 23, 3) := by decide +kernel
theorem d_Tape_readLead_87 : decode prog_11_method_3_code 87 = .ok (.imul, 1) := by decide +kernel
theorem d_Tape_readLead_88 : decode prog_11_method_3_code 88 = .ok (.iconst 2, 1) := by decide +kernel
theorem d_Tape_readLead_89 : decode prog_11_method_3_code 89 = .ok (.isub, 1) := by decide +kernel
theorem d_Tape_readLead_90 : decode prog_11_method_3_code 90 = .ok (.istore_n 3, 1) := by decide +kernel
theorem d_Tape_readLead_91 : decode prog_11_method_3_code 91 = .ok (.iload_n 3, 1) := by decide +kernel
theorem d_Tape_readLead_92 : decode prog_11_method_3_code 92 = .ok (.bipush 100, 2) := by decide +kernel
theorem d_Tape_readLead_94 : decode prog_11_method_3_code 94 = .ok (.if_icmp .le 7, 3) := by decide +kernel
theorem d_Tape_readLead_97 : decode prog_11_method_3_code 97 = .ok (.sipush (-1000), 3) := by decide +kernel
theorem d_Tape_readLead_100 : decode prog_11_method_3_code 100 = .ok (.ireturn, 1) := by decide +kernel
theorem d_Tape_readLead_101 : decode prog_11_method_3_code 101 = .ok (.aload_n 0, 1) := by decide +kernel
theorem d_Tape_readLead_102 : decode prog_11_method_3_code 102 = .ok (.aload_n 2, 1) := by decide +kernel
theorem d_Tape_readLead_103 : decode prog_11_method_3_code 103 = .ok (.invokevirtual 44, 3) := by decide +kernel
theorem d_Tape_readLead_106 : decode prog_11_method_3_code 106 = .ok (.iload_n 3, 1) := by decide +kernel
theorem d_Tape_readLead_107 : decode prog_11_method_3_code 107 = .ok (.ireturn, 1) := by decide +kernel
set_option maxRecDepth 20000 in
theorem jc_Tape_readLead_90 (N : Nat) (l0 : Option Nat) (l2 : Option Nat) (u0 : Int32) (h : Hp) : J p l e R s m args below meth c prog_11_method_3_code 4 "RingingChamber$Tape" 4 87 (some .int) "readLead" D dA B n0 s0 (QM below args s D dA B n0 s0 vI) 90 [(0, vr l0), (2, vr l2)] [vi u0] h (Tape_readLead_90 N l0 l2 u0 h) := by
  unfold Tape_readLead_90
  refine j_istore_n (lv' := [(3, vi u0), (0, vr l0), (2, vr l2)]) d_Tape_readLead_90 rfl (by decide) rfl ?_
  refine j_iload_n d_Tape_readLead_91 0 rfl rfl ?_
  refine j_bipush (v := 100) d_Tape_readLead_92 (by decide) ?_
  refine j_icmp_le (tgt := 101) d_Tape_readLead_94 (by decide) ?_ ?_
  · refine j_aload_n d_Tape_readLead_101 1 rfl rfl ?_
    refine j_aload_n d_Tape_readLead_102 2 rfl rfl ?_
    refine j_vU1 d_Tape_readLead_103 (allQ.cons (VD.mk vt_8_44_8 (ct_Tape_write N l D dA B l0 l2 h) (by decide) (by decide)) allQ.nil) (Nat.le_of_ble_eq_true rfl) (fun _ h1 => ?_)
    refine j_iload_n d_Tape_readLead_106 0 rfl rfl ?_
    exact j_retI d_Tape_readLead_107
  · refine j_sipush (v := -1000) d_Tape_readLead_97 (by decide) ?_
    exact j_retI d_Tape_readLead_100
set_option maxRecDepth 20000 in
theorem jc_Tape_readLead_17 (N : Nat) : ∀ (n : Nat) (l0 : Option Nat) (l1 : Int32) (l2 : Option Nat) (l3 : Int32) (h : Hp), J p l e R s m args below meth c prog_11_method_3_code 4 "RingingChamber$Tape" 4 87 (some .int) "readLead" D dA B n0 s0 (QM below args s D dA B n0 s0 vI) 17 [(0, vr l0), (1, vi l1), (2, vr l2), (3, vi l3)] [] h (Tape_readLead_17 N n l0 l1 l2 l3 h) := by
  intro n
  induction n with
  | zero => intros; exact J.none
  | succ n ih =>
    intro l0 l1 l2 l3 h
    rw [Tape_readLead_17]
    refine j_iload_n d_Tape_readLead_17 3 rfl rfl ?_
    refine j_aload_n d_Tape_readLead_18 0 rfl rfl ?_
    refine j_getI d_Tape_readLead_19 fl_8_19.r (fun x1 => ?_)
    refine j_icmp_ge (tgt := 49) d_Tape_readLead_22 (by decide) ?_ ?_
    · refine j_aload_n d_Tape_readLead_49 0 rfl rfl ?_
      refine j_vI0 d_Tape_readLead_50 (allQ.cons (VD.mk vt_8_36_8 (ct_Tape_canCloseBlock N l D dA B l0 h) (by decide) (by decide)) allQ.nil) (Nat.le_of_ble_eq_true rfl) (fun x3 h2 => ?_)
      refine j_if_ne (tgt := 63) d_Tape_readLead_53 (by decide) ?_ ?_
      · refine j_iconst (v := -1) d_Tape_readLead_56 (by decide) ?_
        refine j_aload_n d_Tape_readLead_57 0 rfl rfl ?_
        refine j_getI d_Tape_readLead_58 fl_8_19.r (fun x8 => ?_)
        refine j_isub d_Tape_readLead_61 ?_
        exact j_retI d_Tape_readLead_62
      · refine j_aload_n d_Tape_readLead_63 0 rfl rfl ?_
        refine j_iload_n d_Tape_readLead_64 1 rfl rfl ?_
        refine j_vU1 d_Tape_readLead_65 (allQ.cons (VD.mk vt_8_40_8 (ct_Tape_closePlaces N l D dA B l0 l1 h2) (by decide) (by decide)) allQ.nil) (Nat.le_of_ble_eq_true rfl) (fun _ h4 => ?_)
        refine j_aload_n d_Tape_readLead_68 0 rfl rfl ?_
        refine j_getI d_Tape_readLead_69 fl_8_26.r (fun x5 => ?_)
        refine j_if_ne (tgt := 82) d_Tape_readLead_72 (by decide) ?_ ?_
        · refine j_aload_n d_Tape_readLead_75 0 rfl rfl ?_
          refine j_getI d_Tape_readLead_76 fl_8_23.r (fun x7 => ?_)
          refine j_goto (tgt := 90) d_Tape_readLead_79 (by decide) ?_
          exact J.sub [0, 2] rfl (jc_Tape_readLead_90 N l0 l2 x7 h4)
        · refine j_iconst (v := 2) d_Tape_readLead_82 (by decide) ?_
          refine j_aload_n d_Tape_readLead_83 0 rfl rfl ?_
          refine j_getI d_Tape_readLead_84 fl_8_23.r (fun x6 => ?_)
          refine j_imul d_Tape_readLead_87 ?_
          refine j_iconst (v := 2) d_Tape_readLead_88 (by decide) ?_
          refine j_isub d_Tape_readLead_89 ?_
          exact J.sub [0, 2] rfl (jc_Tape_readLead_90 N l0 l2 (((2 : Int32) * x6) - (2 : Int32)) h4)
    · refine j_aload_n d_Tape_readLead_25 0 rfl rfl ?_
      refine j_aload_n d_Tape_readLead_26 0 rfl rfl ?_
      refine j_getR d_Tape_readLead_27 fl_8_9.r (fun x9 => ?_)
      refine j_iload_n d_Tape_readLead_30 3 rfl rfl ?_
      refine j_bald d_Tape_readLead_31 (fun x10 => ?_)
      refine j_iload_n d_Tape_readLead_32 1 rfl rfl ?_
      refine j_vI2 d_Tape_readLead_33 (allQ.cons (VD.mk vt_8_32_8 (ct_Tape_takes N l D dA B l0 x10 l1 h) (by decide) (by decide)) allQ.nil) (Nat.le_of_ble_eq_true rfl) (fun x12 h11 => ?_)
      refine j_if_ne (tgt := 43) d_Tape_readLead_36 (by decide) ?_ ?_
      · refine j_iconst (v := -1) d_Tape_readLead_39 (by decide) ?_
        refine j_iload_n d_Tape_readLead_40 3 rfl rfl ?_
        refine j_isub d_Tape_readLead_41 ?_
        exact j_retI d_Tape_readLead_42
      · refine j_iinc (lvv := fun x13 => [(3, vi x13), (0, vr l0), (1, vi l1), (2, vr l2)]) d_Tape_readLead_43 3 rfl rfl (by decide) (fun _ => rfl) (fun x13 => ?_)
        refine j_goto (tgt := 17) d_Tape_readLead_46 (by decide) ?_
        exact J.sub [1, 2, 3, 0] rfl (ih l0 l1 l2 x13 h11)
set_option maxRecDepth 20000 in
theorem jc_Tape_readLead (N : Nat) (l0 : Option Nat) (l1 : Int32) (l2 : Option Nat) (h : Hp) : J p l e R s m args below meth c prog_11_method_3_code 4 "RingingChamber$Tape" 4 87 (some .int) "readLead" D dA B n0 s0 (QM below args s D dA B n0 s0 vI) 0 [(0, vr l0), (1, vi l1), (2, vr l2)] [] h (Tape_readLead N l0 l1 l2 h) := by
  unfold Tape_readLead
  refine j_aload_n d_Tape_readLead_0 0 rfl rfl ?_
  refine j_iconst (v := 0) d_Tape_readLead_1 (by decide) ?_
  refine j_putI d_Tape_readLead_2 fl_8_23 (Or.inl rfl) (fun h1 => ?_)
  refine j_aload_n d_Tape_readLead_5 0 rfl rfl ?_
  refine j_iconst (v := 0) d_Tape_readLead_6 (by decide) ?_
  refine j_putI d_Tape_readLead_7 fl_8_26 (Or.inl rfl) (fun h2 => ?_)
  refine j_aload_n d_Tape_readLead_10 0 rfl rfl ?_
  refine j_iconst (v := 0) d_Tape_readLead_11 (by decide) ?_
  refine j_putI d_Tape_readLead_12 fl_8_29 (Or.inl rfl) (fun h3 => ?_)
  refine j_iconst (v := 0) d_Tape_readLead_15 (by decide) ?_
  refine j_istore_n (lv' := [(3, vi 0), (0, vr l0), (1, vi l1), (2, vr l2)]) d_Tape_readLead_16 rfl (by decide) rfl ?_
  exact J.sub [1, 2, 3, 0] rfl (jc_Tape_readLead_17 N N l0 l1 l2 0 h3)
set_option maxRecDepth 20000 in
theorem ct_Tape_readLead (N : Nat) (l : Launch) (D : va_G) (dA : Nat → ClassId) (B : Nat) (l0 : Option Nat) (l1 : Int32) (l2 : Option Nat) (h : Hp) : Ct l (⟨"RingingChamber$Tape", "readLead", "(ILRingingChamber$Lead;)I"⟩ : MethodName) prog_11_method_3_code 4 (some .int) 4 87 D dA B [vr l0, vi l1, vr l2] h vI (Tape_readLead N l0 l1 l2 h) :=
  Ct.of2 (own := "RingingChamber$Tape") (nme := "readLead") (lv := [(0, vr l0), (1, vi l1), (2, vr l2)]) rfl rfl (by decide) (Nat.le_of_ble_eq_true rfl) rfl (fun p e R s m args below meth c => jc_Tape_readLead N l0 l1 l2 h)
end
