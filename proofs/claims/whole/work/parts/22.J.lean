section
variable {p : Program} {l : Launch} {e : Env} {R : Room} {s : State} {m : MethodId} {args : Array Value} {below : List Frame} {meth : Method} {c : Code} {D : va_G} {dA : Nat → ClassId} {B n0 s0 : Nat}
theorem d_Touch_init_0 : decode prog_12_method_1_code 0 = .ok (.aload_n 0, 1) := by decide +kernel
theorem d_Touch_init_1 : decode prog_12_method_1_code 1 = .ok (.invokespecial 3, 3) := by decide +kernel
theorem d_Touch_init_4 : decode prog_12_method_1_code 4 = .ok (.aload_n 0, 1) := by decide +kernel
theorem d_Touch_init_5 : decode prog_12_method_1_code 5 = .ok (.bipush 100, 2) := by decide +kernel
theorem d_Touch_init_7 : decode prog_12_method_1_code 7 = .ok (.anewarray 9, 3) := by decide +kernel
theorem d_Touch_init_10 : decode prog_12_method_1_code 10 = .ok (.putfield 11, 3) := by decide +kernel
theorem d_Touch_init_13 : decode prog_12_method_1_code 13 = .ok (.aload_n 0, 1) := by decide +kernel
theorem d_Touch_init_14 : decode prog_12_method_1_code 14 = .ok (.bipush 100, 2) := by decide +kernel
theorem d_Touch_init_16 : decode prog_12_method_1_code 16 = .ok (.newarray .int, 2) := by decide +kernel
theorem d_Touch_init_18 : decode prog_12_method_1_code 18 = .ok (.putfield 17, 3) := by decide +kernel
theorem d_Touch_init_21 : decode prog_12_method_1_code 21 = .ok (.aload_n 0, 1) := by decide +kernel
theorem d_Touch_init_22 : decode prog_12_method_1_code 22 = .ok (.new 21, 3) := by decide +kernel
theorem d_Touch_init_25 : decode prog_12_method_1_code 25 = .ok (.dup, 1) := by decide +kernel
theorem d_Touch_init_26 : decode prog_12_method_1_code 26 = .ok (.sipush 2001, 3) := by decide +kernel
theorem d_Touch_init_29 : decode prog_12_method_1_code 29 = .ok (.invokespecial 23, 3) := by decide +kernel
theorem d_Touch_init_32 : decode prog_12_method_1_code 32 = .ok (.putfield 26, 3) := by decide +kernel
theorem d_Touch_init_35 : decode prog_12_method_1_code 35 = .ok (.aload_n 0, 1) := by decide +kernel
theorem d_Touch_init_36 : decode prog_12_method_1_code 36 = .ok (.new 30, 3) := by decide +kernel
theorem d_Touch_init_39 : decode prog_12_method_1_code 39 = .ok (.dup, 1) := by decide +kernel
theorem d_Touch_init_40 : decode prog_12_method_1_code 40 = .ok (.invokespecial 32, 3) := by decide +kernel
theorem d_Touch_init_43 : decode prog_12_method_1_code 43 = .ok (.putfield 33, 3) := by decide +kernel
theorem d_Touch_init_46 : decode prog_12_method_1_code 46 = .ok (.aload_n 0, 1) := by decide +kernel
theorem d_Touch_init_47 : decode prog_12_method_1_code 47 = .ok (.sipush 2001, 3) := by decide +kernel
theorem d_Touch_init_50 : decode prog_12_method_1_code 50 = .ok (.newarray .int, 2) := by decide +kernel
theorem d_Touch_init_52 : decode prog_12_method_1_code 52 = .ok (.putfield 37, 3) := by decide +kernel
theorem d_Touch_init_55 : decode prog_12_method_1_code 55 = .ok (.aload_n 0, 1) := by decide +kernel
theorem d_Touch_init_56 : decode prog_12_method_1_code 56 = .ok (.sipush 2001, 3) := by decide +kernel
theorem d_Touch_init_59 : decode prog_12_method_1_code 59 = .ok (.newarray .int, 2) := by decide +kernel
theorem d_Touch_init_61 : decode prog_12_method_1_code 61 = .ok (.putfield 40, 3) := by decide +kernel
theorem d_Touch_init_64 : decode prog_12_method_1_code 64 = .ok (.return_, 1) := by decide +kernel
set_option maxRecDepth 20000 in
theorem jc_Touch_init (N : Nat) (l0 : Option Nat) (h : Hp) : J p l e R s m args below meth c prog_12_method_1_code 1 "RingingChamber$Touch" 2 51 none "<init>" D dA B n0 s0 (QM below args s D dA B n0 s0 vU) 0 [(0, vr l0)] [] h (Touch_init N l0 h) := by
  unfold Touch_init
  refine j_aload_n d_Touch_init_0 0 rfl rfl ?_
  refine j_obj d_Touch_init_1 ko_9_3 ko_i ko_c (by decide) (by decide) (Nat.le_of_ble_eq_true rfl) ?_
  refine j_aload_n d_Touch_init_4 0 rfl rfl ?_
  refine j_bipush (v := 100) d_Touch_init_5 (by decide) ?_
  refine j_newa18 d_Touch_init_7 kl_9_9 (fun x1 h2 => ?_)
  refine j_putR d_Touch_init_10 fl_9_11 (Or.inr rfl) (Or.inr ⟨_, rfl⟩) (fun h3 => ?_)
  refine j_aload_n d_Touch_init_13 0 rfl rfl ?_
  refine j_bipush (v := 100) d_Touch_init_14 (by decide) ?_
  refine j_newa13 d_Touch_init_16 ka_int (fun x4 h5 => ?_)
  refine j_putR d_Touch_init_18 fl_9_17 (Or.inr rfl) (Or.inr ⟨_, rfl⟩) (fun h6 => ?_)
  refine j_aload_n d_Touch_init_21 0 rfl rfl ?_
  refine j_new d_Touch_init_22 nl_9_21 (fun x7 h8 => ?_)
  refine j_dup d_Touch_init_25 rfl ?_
  refine j_sipush (v := 2001) d_Touch_init_26 (by decide) ?_
  refine j_i1 d_Touch_init_29 sl_9_23 ki_Rows_init (ct_Rows_init N l D dA B x7 2001 h8) (by decide) (by decide) (Nat.le_of_ble_eq_true rfl) (fun _ h9 => ?_)
  refine j_putR d_Touch_init_32 fl_9_26 (Or.inr rfl) (Or.inl ⟨_, rfl⟩) (fun h10 => ?_)
  refine j_aload_n d_Touch_init_35 0 rfl rfl ?_
  refine j_new d_Touch_init_36 nl_9_30 (fun x11 h12 => ?_)
  refine j_dup d_Touch_init_39 rfl ?_
  refine j_i0 d_Touch_init_40 sl_9_32 ki_Lead_init (ct_Lead_init N l D dA B x11 h12) (by decide) (by decide) (Nat.le_of_ble_eq_true rfl) (fun _ h13 => ?_)
  refine j_putR d_Touch_init_43 fl_9_33 (Or.inr rfl) (Or.inl ⟨_, rfl⟩) (fun h14 => ?_)
  refine j_aload_n d_Touch_init_46 0 rfl rfl ?_
  refine j_sipush (v := 2001) d_Touch_init_47 (by decide) ?_
  refine j_newa13 d_Touch_init_50 ka_int (fun x15 h16 => ?_)
  refine j_putR d_Touch_init_52 fl_9_37 (Or.inr rfl) (Or.inr ⟨_, rfl⟩) (fun h17 => ?_)
  refine j_aload_n d_Touch_init_55 0 rfl rfl ?_
  refine j_sipush (v := 2001) d_Touch_init_56 (by decide) ?_
  refine j_newa13 d_Touch_init_59 ka_int (fun x18 h19 => ?_)
  refine j_putR d_Touch_init_61 fl_9_40 (Or.inr rfl) (Or.inr ⟨_, rfl⟩) (fun h20 => ?_)
  exact j_retU d_Touch_init_64
set_option maxRecDepth 20000 in
theorem ct_Touch_init (N : Nat) (l : Launch) (D : va_G) (dA : Nat → ClassId) (B : Nat) (l0 : Option Nat) (h : Hp) : Ct l (⟨"RingingChamber$Touch", "<init>", "()V"⟩ : MethodName) prog_12_method_1_code 1 none 2 51 D dA B [vr l0] h vU (Touch_init N l0 h) :=
  Ct.of2 (own := "RingingChamber$Touch") (nme := "<init>") (lv := [(0, vr l0)]) rfl rfl (by decide) (Nat.le_of_ble_eq_true rfl) rfl (fun p e R s m args below meth c => jc_Touch_init N l0 h)
theorem d_Touch_beginAnew_0 : decode prog_12_method_3_code 0 = .ok (.aload_n 0, 1) := by decide +kernel
theorem d_Touch_beginAnew_1 : decode prog_12_method_3_code 1 = .ok (.getfield 26, 3) := by decide +kernel
theorem d_Touch_beginAnew_4 : decode prog_12_method_3_code 4 = .ok (.iconst 0, 1) := by decide +kernel
theorem d_Touch_beginAnew_5 : decode prog_12_method_3_code 5 = .ok (.invokevirtual 63, 3) := by decide +kernel
theorem d_Touch_beginAnew_8 : decode prog_12_method_3_code 8 = .ok (.aload_n 0, 1) := by decide +kernel
theorem d_Touch_beginAnew_9 : decode prog_12_method_3_code 9 = .ok (.getfield 26, 3) := by decide +kernel
theorem d_Touch_beginAnew_12 : decode prog_12_method_3_code 12 = .ok (.aload_n 0, 1) := by decide +kernel
theorem d_Touch_beginAnew_13 : decode prog_12_method_3_code 13 = .ok (.getfield 51, 3) := by decide +kernel
theorem d_Touch_beginAnew_16 : decode prog_12_method_3_code 16 = .ok (.invokevirtual 66, 3) := by decide +kernel
theorem d_Touch_beginAnew_19 : decode prog_12_method_3_code 19 = .ok (.aload_n 0, 1) := by decide +kernel
theorem d_Touch_beginAnew_20 : decode prog_12_method_3_code 20 = .ok (.getfield 33, 3) := by decide +kernel
theorem d_Touch_beginAnew_23 : decode prog_12_method_3_code 23 = .ok (.iconst 0, 1) := by decide +kernel
theorem d_Touch_beginAnew_24 : decode prog_12_method_3_code 24 = .ok (.putfield 70, 3) := by decide +kernel
theorem d_Touch_beginAnew_27 : decode prog_12_method_3_code 27 = .ok (.aload_n 0, 1) := by decide +kernel
theorem d_Touch_beginAnew_28 : decode prog_12_method_3_code 28 = .ok (.iconst 0, 1) := by decide +kernel
theorem d_Touch_beginAnew_29 : decode prog_12_method_3_code 29 = .ok (.putfield 73, 3) := by decide +kernel
theorem d_Touch_beginAnew_32 : decode prog_12_method_3_code 32 = .ok (.aload_n 0, 1) := by decide +kernel
theorem d_Touch_beginAnew_33 : decode prog_12_method_3_code 33 = .ok (.iconst 0, 1) := by decide +kernel
theorem d_Touch_beginAnew_34 : decode prog_12_method_3_code 34 = .ok (.putfield 76, 3) := by decide +kernel
theorem d_Touch_beginAnew_37 : decode prog_12_method_3_code 37 = .ok (.aload_n 0, 1) := by decide +kernel
theorem d_Touch_beginAnew_38 : decode prog_12_method_3_code 38 = .ok (.iconst 0, 1) := by decide +kernel
theorem d_Touch_beginAnew_39 : decode prog_12_method_3_code 39 = .ok (.putfield 79, 3) := by decide +kernel
theorem d_Touch_beginAnew_42 : decode prog_12_method_3_code 42 = .ok (.aload_n 0, 1) := by decide +kernel
theorem d_Touch_beginAnew_43 : decode prog_12_method_3_code 43 = .ok (.iconst (-1), 1) := by decide +kernel
theorem d_Touch_beginAnew_44 : decode prog_12_method_3_code 44 = .ok (.putfield 83, 3) := by decide +kernel
theorem d_Touch_beginAnew_47 : decode prog_12_method_3_code 47 = .ok (.aload_n 0, 1) := by decide +kernel
theorem d_Touch_beginAnew_48 : decode prog_12_method_3_code 48 = .ok (.iconst (-1), 1) := by decide +kernel
theorem d_Touch_beginAnew_49 : decode prog_12_method_3_code 49 = .ok (.putfield 86, 3) := by decide +kernel
theorem d_Touch_beginAnew_52 : decode prog_12_method_3_code 52 = .ok (.aload_n 0, 1) := by decide +kernel
theorem d_Touch_beginAnew_53 : decode prog_12_method_3_code 53 = .ok (.iconst 0, 1) := by decide +kernel
theorem d_Touch_beginAnew_54 : decode prog_12_method_3_code 54 = .ok (.putfield 89, 3) := by decide +kernel
theorem d_Touch_beginAnew_57 : decode prog_12_method_3_code 57 = .ok (.return_, 1) := by decide +kernel
set_option maxRecDepth 20000 in
theorem jc_Touch_beginAnew (N : Nat) (l0 : Option Nat) (h : Hp) : J p l e R s m args below meth c prog_12_method_3_code 1 "RingingChamber$Touch" 2 44 none "beginAnew" D dA B n0 s0 (QM below args s D dA B n0 s0 vU) 0 [(0, vr l0)] [] h (Touch_beginAnew N l0 h) := by
  unfold Touch_beginAnew
  refine j_aload_n d_Touch_beginAnew_0 0 rfl rfl ?_
  refine j_getR d_Touch_beginAnew_1 fl_9_26.r (fun x1 => ?_)
  refine j_iconst (v := 0) d_Touch_beginAnew_4 (by decide) ?_
  refine j_vU1 d_Touch_beginAnew_5 (allQ.cons (VD.mk vt_9_63_4 (ct_Rows_keepFirst N l D dA B x1 0 h) (by decide) (by decide)) allQ.nil) (Nat.le_of_ble_eq_true rfl) (fun _ h2 => ?_)
  refine j_aload_n d_Touch_beginAnew_8 0 rfl rfl ?_
  refine j_getR d_Touch_beginAnew_9 fl_9_26.r (fun x3 => ?_)
  refine j_aload_n d_Touch_beginAnew_12 0 rfl rfl ?_
  refine j_getL d_Touch_beginAnew_13 fl_9_51.r (fun x4 => ?_)
  refine j_vU1 d_Touch_beginAnew_16 (allQ.cons (VD.mk vt_9_66_4 (ct_Rows_add N l D dA B x3 x4 h2) (by decide) (by decide)) allQ.nil) (Nat.le_of_ble_eq_true rfl) (fun _ h5 => ?_)
  refine j_aload_n d_Touch_beginAnew_19 0 rfl rfl ?_
  refine j_getR d_Touch_beginAnew_20 fl_9_33.r (fun x6 => ?_)
  refine j_iconst (v := 0) d_Touch_beginAnew_23 (by decide) ?_
  refine j_putI d_Touch_beginAnew_24 fl_9_70 (Or.inl rfl) (fun h7 => ?_)
  refine j_aload_n d_Touch_beginAnew_27 0 rfl rfl ?_
  refine j_iconst (v := 0) d_Touch_beginAnew_28 (by decide) ?_
  refine j_putI d_Touch_beginAnew_29 fl_9_73 (Or.inl rfl) (fun h8 => ?_)
  refine j_aload_n d_Touch_beginAnew_32 0 rfl rfl ?_
  refine j_iconst (v := 0) d_Touch_beginAnew_33 (by decide) ?_
  refine j_putI d_Touch_beginAnew_34 fl_9_76 (Or.inl rfl) (fun h9 => ?_)
  refine j_aload_n d_Touch_beginAnew_37 0 rfl rfl ?_
  refine j_iconst (v := 0) d_Touch_beginAnew_38 (by decide) ?_
  refine j_putZ d_Touch_beginAnew_39 fl_9_79 (Or.inl rfl) (fun h10 => ?_)
  refine j_aload_n d_Touch_beginAnew_42 0 rfl rfl ?_
  refine j_iconst (v := -1) d_Touch_beginAnew_43 (by decide) ?_
  refine j_putI d_Touch_beginAnew_44 fl_9_83 (Or.inl rfl) (fun h11 => ?_)
  refine j_aload_n d_Touch_beginAnew_47 0 rfl rfl ?_
  refine j_iconst (v := -1) d_Touch_beginAnew_48 (by decide) ?_
  refine j_putI d_Touch_beginAnew_49 fl_9_86 (Or.inl rfl) (fun h12 => ?_)
  refine j_aload_n d_Touch_beginAnew_52 0 rfl rfl ?_
  refine j_iconst (v := 0) d_Touch_beginAnew_53 (by decide) ?_
  refine j_putI d_Touch_beginAnew_54 fl_9_89 (Or.inl rfl) (fun h13 => ?_)
  exact j_retU d_Touch_beginAnew_57
set_option maxRecDepth 20000 in
theorem ct_Touch_beginAnew (N : Nat) (l : Launch) (D : va_G) (dA : Nat → ClassId) (B : Nat) (l0 : Option Nat) (h : Hp) : Ct l (⟨"RingingChamber$Touch", "beginAnew", "()V"⟩ : MethodName) prog_12_method_3_code 1 none 2 44 D dA B [vr l0] h vU (Touch_beginAnew N l0 h) :=
  Ct.of2 (own := "RingingChamber$Touch") (nme := "beginAnew") (lv := [(0, vr l0)]) rfl rfl (by decide) (Nat.le_of_ble_eq_true rfl) rfl (fun p e R s m args below meth c => jc_Touch_beginAnew N l0 h)
theorem d_Touch_forget_0 : decode prog_12_method_2_code 0 = .ok (.aload_n 0, 1) := by decide +kernel
theorem d_Touch_forget_1 : decode prog_12_method_2_code 1 = .ok (.iload_n 1, 1) := by decide +kernel
theorem d_Touch_forget_2 : decode prog_12_method_2_code 2 = .ok (.putfield 43, 3) := by decide +kernel
theorem d_Touch_forget_5 : decode prog_12_method_2_code 5 = .ok (.aload_n 0, 1) := by decide +kernel
theorem d_Touch_forget_6 : decode prog_12_method_2_code 6 = .ok (.iload_n 1, 1) := by decide +kernel
theorem d_Touch_forget_7 : decode prog_12_method_2_code 7 = .ok (.invokestatic 47, 3) := by decide +kernel
theorem d_Touch_forget_10 : decode prog_12_method_2_code 10 = .ok (.putfield 51, 3) := by decide +kernel
theorem d_Touch_forget_13 : decode prog_12_method_2_code 13 = .ok (.aload_n 0, 1) := by decide +kernel
theorem d_Touch_forget_14 : decode prog_12_method_2_code 14 = .ok (.iconst 0, 1) := by decide +kernel
theorem d_Touch_forget_15 : decode prog_12_method_2_code 15 = .ok (.putfield 54, 3) := by decide +kernel
theorem d_Touch_forget_18 : decode prog_12_method_2_code 18 = .ok (.aload_n 0, 1) := by decide +kernel
theorem d_Touch_forget_19 : decode prog_12_method_2_code 19 = .ok (.iconst 0, 1) := by decide +kernel
theorem d_Touch_forget_20 : decode prog_12_method_2_code 20 = .ok (.putfield 57, 3) := by decide +kernel
theorem d_Touch_forget_23 : decode prog_12_method_2_code 23 = .ok (.aload_n 0, 1) := by decide +kernel
theorem d_Touch_forget_24 : decode prog_12_method_2_code 24 = .ok (.invokevirtual 60, 3) := by decide +kernel
theorem d_Touch_forget_27 : decode prog_12_method_2_code 27 = .ok (.return_, 1) := by decide +kernel
set_option maxRecDepth 20000 in
theorem jc_Touch_forget (N : Nat) (l0 : Option Nat) (l1 : Int32) (h : Hp) : J p l e R s m args below meth c prog_12_method_2_code 2 "RingingChamber$Touch" 3 64 none "forget" D dA B n0 s0 (QM below args s D dA B n0 s0 vU) 0 [(0, vr l0), (1, vi l1)] [] h (Touch_forget N l0 l1 h) := by
  unfold Touch_forget
  refine j_aload_n d_Touch_forget_0 0 rfl rfl ?_
  refine j_iload_n d_Touch_forget_1 1 rfl rfl ?_
  refine j_putI d_Touch_forget_2 fl_9_43 (Or.inl rfl) (fun h1 => ?_)
  refine j_aload_n d_Touch_forget_5 0 rfl rfl ?_
  refine j_iload_n d_Touch_forget_6 1 rfl rfl ?_
  refine j_cSL1 d_Touch_forget_7 sl_9_47 ks_Rows_rounds (ct_Rows_rounds N l D dA B l1 h1) (by decide) (by decide) (Nat.le_of_ble_eq_true rfl) (fun x3 h2 => ?_)
  refine j_putL d_Touch_forget_10 fl_9_51 (Or.inl rfl) (fun h4 => ?_)
  refine j_aload_n d_Touch_forget_13 0 rfl rfl ?_
  refine j_iconst (v := 0) d_Touch_forget_14 (by decide) ?_
  refine j_putI d_Touch_forget_15 fl_9_54 (Or.inl rfl) (fun h5 => ?_)
  refine j_aload_n d_Touch_forget_18 0 rfl rfl ?_
  refine j_iconst (v := 0) d_Touch_forget_19 (by decide) ?_
  refine j_putI d_Touch_forget_20 fl_9_57 (Or.inl rfl) (fun h6 => ?_)
  refine j_aload_n d_Touch_forget_23 0 rfl rfl ?_
  refine j_vU0 d_Touch_forget_24 (allQ.cons (VD.mk vt_9_60_9 (ct_Touch_beginAnew N l D dA B l0 h6) (by decide) (by decide)) allQ.nil) (Nat.le_of_ble_eq_true rfl) (fun _ h7 => ?_)
  exact j_retU d_Touch_forget_27
set_option maxRecDepth 20000 in
theorem ct_Touch_forget (N : Nat) (l : Launch) (D : va_G) (dA : Nat → ClassId) (B : Nat) (l0 : Option Nat) (l1 : Int32) (h : Hp) : Ct l (⟨"RingingChamber$Touch", "forget", "(I)V"⟩ : MethodName) prog_12_method_2_code 2 none 3 64 D dA B [vr l0, vi l1] h vU (Touch_forget N l0 l1 h) :=
  Ct.of2 (own := "RingingChamber$Touch") (nme := "forget") (lv := [(0, vr l0), (1, vi l1)]) rfl rfl (by decide) (Nat.le_of_ble_eq_true rfl) rfl (fun p e R s m args below meth c => jc_Touch_forget N l0 l1 h)
theorem d_Touch_addItem_0 : decode prog_12_method_4_code 0 = .ok (.aload_n 0, 1) := by decide +kernel
theorem d_Touch_addItem_1 : decode prog_12_method_4_code 1 = .ok (.getfield 54, 3) := by decide +kernel
theorem d_Touch_addItem_4 : decode prog_12_method_4_code 4 = .ok (.bipush 100, 2) := by decide +kernel
theorem d_Touch_addItem_6 : decode prog_12_method_4_code 6 = .ok (.if_icmp .ge 33, 3) := by decide +kernel
theorem d_Touch_addItem_9 : decode prog_12_method_4_code 9 = .ok (.aload_n 0, 1) := by decide +kernel
theorem d_Touch_addItem_10 : decode prog_12_method_4_code 10 = .ok (.getfield 11, 3) := by decide +kernel
theorem d_Touch_addItem_13 : decode prog_12_method_4_code 13 = .ok (.aload_n 0, 1) := by decide +kernel
theorem d_Touch_addItem_14 : decode prog_12_method_4_code 14 = .ok (.getfield 54, 3) := by decide +kernel
theorem d_Touch_addItem_17 : decode prog_12_method_4_code 17 = .ok (.aload_n 1, 1) := by decide +kernel
theorem d_Touch_addItem_18 : decode prog_12_method_4_code 18 = .ok (.aastore, 1) := by decide +kernel
theorem d_Touch_addItem_19 : decode prog_12_method_4_code 19 = .ok (.aload_n 0, 1) := by decide +kernel
theorem d_Touch_addItem_20 : decode prog_12_method_4_code 20 = .ok (.getfield 17, 3) := by decide +kernel
theorem d_Touch_addItem_23 : decode prog_12_method_4_code 23 = .ok (.aload_n 0, 1) := by decide +kernel
theorem d_Touch_addItem_24 : decode prog_12_method_4_code 24 = .ok (.getfield 54, 3) := by decide +kernel
theorem d_Touch_addItem_27 : decode prog_12_method_4_code 27 = .ok (.iload_n 2, 1) := by decide +kernel
theorem d_Touch_addItem_28 : decode prog_12_method_4_code 28 = .ok (.iastore, 1) := by decide +kernel
theorem d_Touch_addItem_29 : decode prog_12_method_4_code 29 = .ok (.aload_n 0, 1) := by decide +kernel
theorem d_Touch_addItem_30 : decode prog_12_method_4_code 30 = .ok (.dup, 1) := by decide +kernel
theorem d_Touch_addItem_31 : decode prog_12_method_4_code 31 = .ok (.getfield 54, 3) := by decide +kernel
theorem d_Touch_addItem_34 : decode prog_12_method_4_code 34 = .ok (.iconst 1, 1) := by decide +kernel
theorem d_Touch_addItem_35 : decode prog_12_method_4_code 35 = .ok (.iadd, 1) := by decide +kernel
theorem d_Touch_addItem_36 : decode prog_12_method_4_code 36 = .ok (.putfield 54, 3) := by decide +kernel
theorem d_Touch_addItem_39 : decode prog_12_method_4_code 39 = .ok (.return_, 1) := by decide +kernel
set_option maxRecDepth 20000 in
theorem jc_Touch_addItem (N : Nat) (l0 : Option Nat) (l1 : Option Nat) (l2 : Int32) (h : Hp) : J p l e R s m args below meth c prog_12_method_4_code 3 "RingingChamber$Touch" 0 0 none "addItem" D dA B n0 s0 (QM below args s D dA B n0 s0 vU) 0 [(0, vr l0), (1, vr l1), (2, vi l2)] [] h (Touch_addItem N l0 l1 l2 h) := by
  unfold Touch_addItem
  refine j_aload_n d_Touch_addItem_0 0 rfl rfl ?_
  refine j_getI d_Touch_addItem_1 fl_9_54.r (fun x1 => ?_)
  refine j_bipush (v := 100) d_Touch_addItem_4 (by decide) ?_
  refine j_icmp_ge (tgt := 39) d_Touch_addItem_6 (by decide) ?_ ?_
  · exact j_retU d_Touch_addItem_39
  · refine j_aload_n d_Touch_addItem_9 0 rfl rfl ?_
    refine j_getR d_Touch_addItem_10 fl_9_11.r (fun x2 => ?_)
    refine j_aload_n d_Touch_addItem_13 0 rfl rfl ?_
    refine j_getI d_Touch_addItem_14 fl_9_54.r (fun x3 => ?_)
    refine j_aload_n d_Touch_addItem_17 1 rfl rfl ?_
    refine j_ast18 d_Touch_addItem_18 (fun h4 => ?_)
    refine j_aload_n d_Touch_addItem_19 0 rfl rfl ?_
    refine j_getR d_Touch_addItem_20 fl_9_17.r (fun x5 => ?_)
    refine j_aload_n d_Touch_addItem_23 0 rfl rfl ?_
    refine j_getI d_Touch_addItem_24 fl_9_54.r (fun x6 => ?_)
    refine j_iload_n d_Touch_addItem_27 2 rfl rfl ?_
    refine j_iast d_Touch_addItem_28 (fun h7 => ?_)
    refine j_aload_n d_Touch_addItem_29 0 rfl rfl ?_
    refine j_dup d_Touch_addItem_30 rfl ?_
    refine j_getI d_Touch_addItem_31 fl_9_54.r (fun x8 => ?_)
    refine j_iconst (v := 1) d_Touch_addItem_34 (by decide) ?_
    refine j_iadd d_Touch_addItem_35 ?_
    refine j_putI d_Touch_addItem_36 fl_9_54 (Or.inl rfl) (fun h9 => ?_)
    exact j_retU d_Touch_addItem_39
set_option maxRecDepth 20000 in
theorem ct_Touch_addItem (N : Nat) (l : Launch) (D : va_G) (dA : Nat → ClassId) (B : Nat) (l0 : Option Nat) (l1 : Option Nat) (l2 : Int32) (h : Hp) : Ct l (⟨"RingingChamber$Touch", "addItem", "(LRingingChamber$Method;I)V"⟩ : MethodName) prog_12_method_4_code 3 none 0 0 D dA B [vr l0, vr l1, vi l2] h vU (Touch_addItem N l0 l1 l2 h) :=
  Ct.of2 (own := "RingingChamber$Touch") (nme := "addItem") (lv := [(0, vr l0), (1, vr l1), (2, vi l2)]) rfl rfl (by decide) (Nat.le_of_ble_eq_true rfl) rfl (fun p e R s m args below meth c => jc_Touch_addItem N l0 l1 l2 h)
theorem d_Touch_ringRow_0 : decode prog_12_method_7_code 0 = .ok (.aload_n 0, 1) := by decide +kernel
theorem d_Touch_ringRow_1 : decode prog_12_method_7_code 1 = .ok (.getfield 26, 3) := by decide +kernel
theorem d_Touch_ringRow_4 : decode prog_12_method_7_code 4 = .ok (.getfield 103, 3) := by decide +kernel
theorem d_Touch_ringRow_7 : decode prog_12_method_7_code 7 = .ok (.istore_n 1, 1) := by decide +kernel
theorem d_Touch_ringRow_8 : decode prog_12_method_7_code 8 = .ok (.aload_n 0, 1) := by decide +kernel
theorem d_Touch_ringRow_9 : decode prog_12_method_7_code 9 = .ok (.getfield 26, 3) := by decide +kernel
theorem d_Touch_ringRow_12 : decode prog_12_method_7_code 12 = .ok (.iload_n 1, 1) := by decide +kernel
theorem d_Touch_ringRow_13 : decode prog_12_method_7_code 13 = .ok (.iconst 1, 1) := by decide +kernel
theorem d_Touch_ringRow_14 : decode prog_12_method_7_code 14 = .ok (.isub, 1) := by decide +kernel
theorem d_Touch_ringRow_15 : decode prog_12_method_7_code 15 = .ok (.invokevirtual 104, 3) := by decide +kernel
theorem d_Touch_ringRow_18 : decode prog_12_method_7_code 18 = .ok (.aload_n 0, 1) := by decide +kernel
theorem d_Touch_ringRow_19 : decode prog_12_method_7_code 19 = .ok (.getfield 33, 3) := by decide +kernel
theorem d_Touch_ringRow_22 : decode prog_12_method_7_code 22 = .ok (.getfield 107, 3) := by decide +kernel
theorem d_Touch_ringRow_25 : decode prog_12_method_7_code 25 = .ok (.aload_n 0, 1) := by decide +kernel
theorem d_Touch_ringRow_26 : decode prog_12_method_7_code 26 = .ok (.getfield 73, 3) := by decide +kernel
theorem d_Touch_ringRow_29 : decode prog_12_method_7_code 29 = .ok (.iaload, 1) := by decide +kernel
theorem d_Touch_ringRow_30 : decode prog_12_method_7_code 30 = .ok (.invokestatic 110, 3) := by decide +kernel
theorem d_Touch_ringRow_33 : decode prog_12_method_7_code 33 = .ok (.lstore_n 2, 1) := by decide +kernel
theorem d_Touch_ringRow_34 : decode prog_12_method_7_code 34 = .ok (.aload_n 0, 1) := by decide +kernel
theorem d_Touch_ringRow_35 : decode prog_12_method_7_code 35 = .ok (.dup, 1) := by decide +kernel
theorem d_Touch_ringRow_36 : decode prog_12_method_7_code 36 = .ok (.getfield 73, 3) := by decide +kernel
theorem d_Touch_ringRow_39 : decode prog_12_method_7_code 39 = .ok (.iconst 1, 1) := by decide +kernel
theorem d_Touch_ringRow_40 : decode prog_12_method_7_code 40 = .ok (.iadd, 1) := by decide +kernel
theorem d_Touch_ringRow_41 : decode prog_12_method_7_code 41 = .ok (.putfield 73, 3) := by decide +kernel
theorem d_Touch_ringRow_44 : decode prog_12_method_7_code 44 = .ok (.lload_n 2, 1) := by decide +kernel
theorem d_Touch_ringRow_45 : decode prog_12_method_7_code 45 = .ok (.aload_n 0, 1) := by decide +kernel
theorem d_Touch_ringRow_46 : decode prog_12_method_7_code 46 = .ok (.getfield 51, 3) := by decide +kernel
theorem d_Touch_ringRow_49 : decode prog_12_method_7_code 49 = .ok (.lcmp, 1) := by decide +kernel
theorem d_Touch_ringRow_50 : decode prog_12_method_7_code 50 = .ok (.ifCond .ne 11, 3) := by decide +kernel
theorem d_Touch_ringRow_53 : decode prog_12_method_7_code 53 = .ok (.aload_n 0, 1) := by decide +kernel
theorem d_Touch_ringRow_54 : decode prog_12_method_7_code 54 = .ok (.iload_n 1, 1) := by decide +kernel
theorem d_Touch_ringRow_55 : decode prog_12_method_7_code 55 = .ok (.putfield 83, 3) := by decide +kernel
theorem d_Touch_ringRow_58 : decode prog_12_method_7_code 58 = .ok (.goto 41, 3) := by decide +kernel
theorem d_Touch_ringRow_61 : decode prog_12_method_7_code 61 = .ok (.aload_n 0, 1) := by decide +kernel
theorem d_Touch_ringRow_62 : decode prog_12_method_7_code 62 = .ok (.getfield 86, 3) := by decide +kernel
theorem d_Touch_ringRow_65 : decode prog_12_method_7_code 65 = .ok (.ifCond .ge 34, 3) := by decide +kernel
theorem d_Touch_ringRow_68 : decode prog_12_method_7_code 68 = .ok (.aload_n 0, 1) := by decide +kernel
theorem d_Touch_ringRow_69 : decode prog_12_method_7_code 69 = .ok (.getfield 26, 3) := by decide +kernel
theorem d_Touch_ringRow_72 : decode prog_12_method_7_code 72 = .ok (.lload_n 2, 1) := by decide +kernel
theorem d_Touch_ringRow_73 : decode prog_12_method_7_code 73 = .ok (.invokevirtual 114, 3) := by decide +kernel
theorem d_Touch_ringRow_76 : decode prog_12_method_7_code 76 = .ok (.istore 4, 2) := by decide +kernel
theorem d_Touch_ringRow_78 : decode prog_12_method_7_code 78 = .ok (.aload_n 0, 1) := by decide +kernel
theorem d_Touch_ringRow_79 : decode prog_12_method_7_code 79 = .ok (.iload 4, 2) := by decide +kernel
theorem d_Touch_ringRow_81 : decode prog_12_method_7_code 81 = .ok (.ifCond .ge 7, 3) := by decide +kernel
theorem d_Touch_ringRow_84 : decode prog_12_method_7_code 84 = .ok (.iconst (-1), 1) := by decide +kernel
theorem d_Touch_ringRow_85 : decode prog_12_method_7_code 85 = .ok (.goto 11, 3) := by decide +kernel
theorem d_Touch_ringRow_88 : decode prog_12_method_7_code 88 = .ok (.iload_n 1, 1) := by decide +kernel
theorem d_Touch_ringRow_89 : decode prog_12_method_7_code 89 = .ok (.sipush 10000, 3) := by decide +kernel
theorem d_Touch_ringRow_92 : decode prog_12_method_7_code 92 = .ok (.imul, 1) := by decide +kernel
theorem d_Touch_ringRow_93 : decode prog_12_method_7_code 93 = .ok (.iload 4, 2) := by decide +kernel
theorem d_Touch_ringRow_95 : decode prog_12_method_7_code 95 = .ok (.iadd, 1) := by decide +kernel
theorem d_Touch_ringRow_96 : decode prog_12_method_7_code 96 = .ok (.putfield 86, 3) := by decide +kernel
theorem d_Touch_ringRow_99 : decode prog_12_method_7_code 99 = .ok (.aload_n 0, 1) := by decide +kernel
theorem d_Touch_ringRow_100 : decode prog_12_method_7_code 100 = .ok (.getfield 26, 3) := by decide +kernel
theorem d_Touch_ringRow_103 : decode prog_12_method_7_code 103 = .ok (.lload_n 2, 1) := by decide +kernel
theorem d_Touch_ringRow_104 : decode prog_12_method_7_code 104 = .ok (.invokevirtual 66, 3) := by decide +kernel
theorem d_Touch_ringRow_107 : decode prog_12_method_7_code 107 = .ok (.aload_n 0, 1) := by decide +kernel
theorem d_Touch_ringRow_108 : decode prog_12_method_7_code 108 = .ok (.lload_n 2, 1) := by decide +kernel
theorem d_Touch_ringRow_109 : decode prog_12_method_7_code 109 = .ok (.aload_n 0, 1) := by decide +kernel
theorem d_Touch_ringRow_110 : decode prog_12_method_7_code 110 = .ok (.getfield 51, 3) := by decide +kernel
theorem d_Touch_ringRow_113 : decode prog_12_method_7_code 113 = .ok (.lcmp, 1) := by decide +kernel
theorem d_Touch_ringRow_114 : decode prog_12_method_7_code 114 = .ok (.ifCond .eq 10, 3) := by decide +kernel
theorem d_Touch_ringRow_117 : decode prog_12_method_7_code 117 = .ok (.iload_n 1, 1) := by decide +kernel
theorem d_Touch_ringRow_118 : decode prog_12_method_7_code 118 = .ok (.sipush 2000, 3) := by decide +kernel
theorem d_Touch_ringRow_121 : decode prog_12_method_7_code 121 = .ok (.if_icmp .lt 7, 3) := by decide +kernel
theorem d_Touch_ringRow_124 : decode prog_12_method_7_code 124 = .ok (.iconst 1, 1) := by decide +kernel
theorem d_Touch_ringRow_125 : decode prog_12_method_7_code 125 = .ok (.goto 4, 3) := by decide +kernel
theorem d_Touch_ringRow_128 : decode prog_12_method_7_code 128 = .ok (.iconst 0, 1) := by decide +kernel
theorem d_Touch_ringRow_129 : decode prog_12_method_7_code 129 = .ok (.putfield 79, 3) := by decide +kernel
theorem d_Touch_ringRow_132 : decode prog_12_method_7_code 132 = .ok (.return_, 1) := by decide +kernel
set_option maxRecDepth 20000 in
theorem jc_Touch_ringRow_129 (N : Nat) (u0 : Option Nat) (u1 : Int32) (h : Hp) : J p l e R s m args below meth c prog_12_method_7_code 5 "RingingChamber$Touch" 2 45 none "ringRow" D dA B n0 s0 (QM below args s D dA B n0 s0 vU) 129 [] [vi u1, vr u0] h (Touch_ringRow_129 N u0 u1 h) := by
  unfold Touch_ringRow_129
  refine j_putZ d_Touch_ringRow_129 fl_9_79 (Or.inl rfl) (fun h1 => ?_)
  exact j_retU d_Touch_ringRow_132
set_option maxRecDepth 20000 in
theorem jc_Touch_ringRow_124 (N : Nat) (u0 : Option Nat) (h : Hp) : J p l e R s m args below meth c prog_12_method_7_code 5 "RingingChamber$Touch" 2 45 none "ringRow" D dA B n0 s0 (QM below args s D dA B n0 s0 vU) 124 [] [vr u0] h (Touch_ringRow_124 N u0 h) := by
  unfold Touch_ringRow_124
  refine j_iconst (v := 1) d_Touch_ringRow_124 (by decide) ?_
  refine j_goto (tgt := 129) d_Touch_ringRow_125 (by decide) ?_
  exact jc_Touch_ringRow_129 N u0 1 h
set_option maxRecDepth 20000 in
theorem jc_Touch_ringRow_99 (N : Nat) (l0 : Option Nat) (l1 : Int32) (l2 : Int64) (h : Hp) : J p l e R s m args below meth c prog_12_method_7_code 5 "RingingChamber$Touch" 2 45 none "ringRow" D dA B n0 s0 (QM below args s D dA B n0 s0 vU) 99 [(0, vr l0), (1, vi l1), (2, vl l2)] [] h (Touch_ringRow_99 N l0 l1 l2 h) := by
  unfold Touch_ringRow_99
  refine j_aload_n d_Touch_ringRow_99 0 rfl rfl ?_
  refine j_getR d_Touch_ringRow_100 fl_9_26.r (fun x1 => ?_)
  refine j_lload_n d_Touch_ringRow_103 2 rfl rfl ?_
  refine j_vU1 d_Touch_ringRow_104 (allQ.cons (VD.mk vt_9_66_4 (ct_Rows_add N l D dA B x1 l2 h) (by decide) (by decide)) allQ.nil) (Nat.le_of_ble_eq_true rfl) (fun _ h2 => ?_)
  refine j_aload_n d_Touch_ringRow_107 0 rfl rfl ?_
  refine j_lload_n d_Touch_ringRow_108 2 rfl rfl ?_
  refine j_aload_n d_Touch_ringRow_109 0 rfl rfl ?_
  refine j_getL d_Touch_ringRow_110 fl_9_51.r (fun x3 => ?_)
  refine j_lcmp d_Touch_ringRow_113 ?_
  refine j_if_eq (tgt := 124) d_Touch_ringRow_114 (by decide) ?_ ?_
  · exact J.sub [] rfl (jc_Touch_ringRow_124 N l0 h2)
  · refine j_iload_n d_Touch_ringRow_117 1 rfl rfl ?_
    refine j_sipush (v := 2000) d_Touch_ringRow_118 (by decide) ?_
    refine j_icmp_lt (tgt := 128) d_Touch_ringRow_121 (by decide) ?_ ?_
    · refine j_iconst (v := 0) d_Touch_ringRow_128 (by decide) ?_
      exact J.sub [] rfl (jc_Touch_ringRow_129 N l0 0 h2)
    · exact J.sub [] rfl (jc_Touch_ringRow_124 N l0 h2)
set_option maxRecDepth 20000 in
theorem jc_Touch_ringRow_96 (N : Nat) (l0 : Option Nat) (l1 : Int32) (l2 : Int64) (u0 : Option Nat) (u1 : Int32) (h : Hp) : J p l e R s m args below meth c prog_12_method_7_code 5 "RingingChamber$Touch" 2 45 none "ringRow" D dA B n0 s0 (QM below args s D dA B n0 s0 vU) 96 [(0, vr l0), (1, vi l1), (2, vl l2)] [vi u1, vr u0] h (Touch_ringRow_96 N l0 l1 l2 u0 u1 h) := by
  unfold Touch_ringRow_96
  refine j_putI d_Touch_ringRow_96 fl_9_86 (Or.inl rfl) (fun h1 => ?_)
  exact jc_Touch_ringRow_99 N l0 l1 l2 h1
set_option maxRecDepth 20000 in
theorem jc_Touch_ringRow (N : Nat) (l0 : Option Nat) (h : Hp) : J p l e R s m args below meth c prog_12_method_7_code 5 "RingingChamber$Touch" 2 45 none "ringRow" D dA B n0 s0 (QM below args s D dA B n0 s0 vU) 0 [(0, vr l0)] [] h (Touch_ringRow N l0 h) := by
  unfold Touch_ringRow
  refine j_aload_n d_Touch_ringRow_0 0 rfl rfl ?_
  refine j_getR d_Touch_ringRow_1 fl_9_26.r (fun x1 => ?_)
  refine j_getI d_Touch_ringRow_4 fl_9_103.r (fun x2 => ?_)
  refine j_istore_n (lv' := [(1, vi x2), (0, vr l0)]) d_Touch_ringRow_7 rfl (by decide) rfl ?_
  refine j_aload_n d_Touch_ringRow_8 1 rfl rfl ?_
  refine j_getR d_Touch_ringRow_9 fl_9_26.r (fun x3 => ?_)
  refine j_iload_n d_Touch_ringRow_12 0 rfl rfl ?_
  refine j_iconst (v := 1) d_Touch_ringRow_13 (by decide) ?_
  refine j_isub d_Touch_ringRow_14 ?_
  refine j_vL1 d_Touch_ringRow_15 (allQ.cons (VD.mk vt_9_104_4 (ct_Rows_codeAt N l D dA B x3 (x2 - (1 : Int32)) h) (by decide) (by decide)) allQ.nil) (Nat.le_of_ble_eq_true rfl) (fun x5 h4 => ?_)
  refine j_aload_n d_Touch_ringRow_18 1 rfl rfl ?_
  refine j_getR d_Touch_ringRow_19 fl_9_33.r (fun x6 => ?_)
  refine j_getR d_Touch_ringRow_22 fl_9_107 (fun x7 => ?_)
  refine j_aload_n d_Touch_ringRow_25 1 rfl rfl ?_
  refine j_getI d_Touch_ringRow_26 fl_9_73.r (fun x8 => ?_)
  refine j_iald d_Touch_ringRow_29 (fun x9 => ?_)
  refine j_cSL2 d_Touch_ringRow_30 sl_9_110 ks_Rows_changed (ct_Rows_changed N l D dA B x5 x9 h4) (by decide) (by decide) (Nat.le_of_ble_eq_true rfl) (fun x11 h10 => ?_)
  refine j_lstore_n (lv' := [(2, vl x11), (1, vi x2), (0, vr l0)]) d_Touch_ringRow_33 rfl (by decide) rfl ?_
  refine j_aload_n d_Touch_ringRow_34 2 rfl rfl ?_
  refine j_dup d_Touch_ringRow_35 rfl ?_
  refine j_getI d_Touch_ringRow_36 fl_9_73.r (fun x12 => ?_)
  refine j_iconst (v := 1) d_Touch_ringRow_39 (by decide) ?_
  refine j_iadd d_Touch_ringRow_40 ?_
  refine j_putI d_Touch_ringRow_41 fl_9_73 (Or.inl rfl) (fun h13 => ?_)
  refine j_lload_n d_Touch_ringRow_44 0 rfl rfl ?_
  refine j_aload_n d_Touch_ringRow_45 2 rfl rfl ?_
  refine j_getL d_Touch_ringRow_46 fl_9_51.r (fun x14 => ?_)
  refine j_lcmp d_Touch_ringRow_49 ?_
  refine j_if_ne (tgt := 61) d_Touch_ringRow_50 (by decide) ?_ ?_
  · refine j_aload_n d_Touch_ringRow_53 2 rfl rfl ?_
    refine j_iload_n d_Touch_ringRow_54 1 rfl rfl ?_
    refine j_putI d_Touch_ringRow_55 fl_9_83 (Or.inl rfl) (fun h19 => ?_)
    refine j_goto (tgt := 99) d_Touch_ringRow_58 (by decide) ?_
    exact J.sub [2, 1, 0] rfl (jc_Touch_ringRow_99 N l0 x2 x11 h19)
  · refine j_aload_n d_Touch_ringRow_61 2 rfl rfl ?_
    refine j_getI d_Touch_ringRow_62 fl_9_86.r (fun x15 => ?_)
    refine j_if_ge (tgt := 99) d_Touch_ringRow_65 (by decide) ?_ ?_
    · exact J.sub [2, 1, 0] rfl (jc_Touch_ringRow_99 N l0 x2 x11 h13)
    · refine j_aload_n d_Touch_ringRow_68 2 rfl rfl ?_
      refine j_getR d_Touch_ringRow_69 fl_9_26.r (fun x16 => ?_)
      refine j_lload_n d_Touch_ringRow_72 0 rfl rfl ?_
      refine j_vI1 d_Touch_ringRow_73 (allQ.cons (VD.mk vt_9_114_4 (ct_Rows_indexOf N l D dA B x16 x11 h13) (by decide) (by decide)) allQ.nil) (Nat.le_of_ble_eq_true rfl) (fun x18 h17 => ?_)
      refine j_istore (lv' := [(4, vi x18), (2, vl x11), (1, vi x2), (0, vr l0)]) d_Touch_ringRow_76 (by decide) rfl ?_
      refine j_aload_n d_Touch_ringRow_78 3 rfl rfl ?_
      refine j_iload d_Touch_ringRow_79 0 rfl ?_
      refine j_if_ge (tgt := 88) d_Touch_ringRow_81 (by decide) ?_ ?_
      · refine j_iload_n d_Touch_ringRow_88 2 rfl rfl ?_
        refine j_sipush (v := 10000) d_Touch_ringRow_89 (by decide) ?_
        refine j_imul d_Touch_ringRow_92 ?_
        refine j_iload d_Touch_ringRow_93 0 rfl ?_
        refine j_iadd d_Touch_ringRow_95 ?_
        exact J.sub [3, 2, 1] rfl (jc_Touch_ringRow_96 N l0 x2 x11 l0 ((x2 * (10000 : Int32)) + x18) h17)
      · refine j_iconst (v := -1) d_Touch_ringRow_84 (by decide) ?_
        refine j_goto (tgt := 96) d_Touch_ringRow_85 (by decide) ?_
        exact J.sub [3, 2, 1] rfl (jc_Touch_ringRow_96 N l0 x2 x11 l0 (-1) h17)
set_option maxRecDepth 20000 in
theorem ct_Touch_ringRow (N : Nat) (l : Launch) (D : va_G) (dA : Nat → ClassId) (B : Nat) (l0 : Option Nat) (h : Hp) : Ct l (⟨"RingingChamber$Touch", "ringRow", "()V"⟩ : MethodName) prog_12_method_7_code 5 none 2 45 D dA B [vr l0] h vU (Touch_ringRow N l0 h) :=
  Ct.of2 (own := "RingingChamber$Touch") (nme := "ringRow") (lv := [(0, vr l0)]) rfl rfl (by decide) (Nat.le_of_ble_eq_true rfl) rfl (fun p e R s m args below meth c => jc_Touch_ringRow N l0 h)
theorem d_Touch_beginItem_0 : decode prog_12_method_6_code 0 = .ok (.aload_n 0, 1) := by decide +kernel
theorem d_Touch_beginItem_1 : decode prog_12_method_6_code 1 = .ok (.getfield 11, 3) := by decide +kernel
theorem d_Touch_beginItem_4 : decode prog_12_method_6_code 4 = .ok (.aload_n 0, 1) := by decide +kernel
theorem d_Touch_beginItem_5 : decode prog_12_method_6_code 5 = .ok (.getfield 76, 3) := by decide +kernel
theorem d_Touch_beginItem_8 : decode prog_12_method_6_code 8 = .ok (.aaload, 1) := by decide +kernel
theorem d_Touch_beginItem_9 : decode prog_12_method_6_code 9 = .ok (.astore_n 1, 1) := by decide +kernel
theorem d_Touch_beginItem_10 : decode prog_12_method_6_code 10 = .ok (.aload_n 1, 1) := by decide +kernel
theorem d_Touch_beginItem_11 : decode prog_12_method_6_code 11 = .ok (.ifnonnull 7, 3) := by decide +kernel
theorem d_Touch_beginItem_14 : decode prog_12_method_6_code 14 = .ok (.iconst 4, 1) := by decide +kernel
theorem d_Touch_beginItem_15 : decode prog_12_method_6_code 15 = .ok (.goto 24, 3) := by decide +kernel
theorem d_Touch_beginItem_18 : decode prog_12_method_6_code 18 = .ok (.aload_n 1, 1) := by decide +kernel
theorem d_Touch_beginItem_19 : decode prog_12_method_6_code 19 = .ok (.aload_n 0, 1) := by decide +kernel
theorem d_Touch_beginItem_20 : decode prog_12_method_6_code 20 = .ok (.getfield 76, 3) := by decide +kernel
theorem d_Touch_beginItem_23 : decode prog_12_method_6_code 23 = .ok (.aload_n 0, 1) := by decide +kernel
theorem d_Touch_beginItem_24 : decode prog_12_method_6_code 24 = .ok (.getfield 17, 3) := by decide +kernel
theorem d_Touch_beginItem_27 : decode prog_12_method_6_code 27 = .ok (.aload_n 0, 1) := by decide +kernel
theorem d_Touch_beginItem_28 : decode prog_12_method_6_code 28 = .ok (.getfield 76, 3) := by decide +kernel
theorem d_Touch_beginItem_31 : decode prog_12_method_6_code 31 = .ok (.iaload, 1) := by decide +kernel
theorem d_Touch_beginItem_32 : decode prog_12_method_6_code 32 = .ok (.aload_n 0, 1) := by decide +kernel
theorem d_Touch_beginItem_33 : decode prog_12_method_6_code 33 = .ok (.getfield 33, 3) := by decide +kernel
theorem d_Touch_beginItem_36 : decode prog_12_method_6_code 36 = .ok (.invokevirtual 99, 3) := by decide +kernel
theorem d_Touch_beginItem_39 : decode prog_12_method_6_code 39 = .ok (.istore_n 2, 1) := by decide +kernel
theorem d_Touch_beginItem_40 : decode prog_12_method_6_code 40 = .ok (.aload_n 0, 1) := by decide +kernel
theorem d_Touch_beginItem_41 : decode prog_12_method_6_code 41 = .ok (.iconst 0, 1) := by decide +kernel
theorem d_Touch_beginItem_42 : decode prog_12_method_6_code 42 = .ok (.putfield 73, 3) := by decide +kernel
theorem d_Touch_beginItem_45 : decode prog_12_method_6_code 45 = .ok (.aload_n 0, 1) := by decide +kernel
theorem d_Touch_beginItem_46 : decode prog_12_method_6_code 46 = .ok (.dup, 1) := by decide +kernel
theorem d_Touch_beginItem_47 : decode prog_12_method_6_code 47 = .ok (.getfield 76, 3) := by decide +kernel
theorem d_Touch_beginItem_50 : decode prog_12_method_6_code 50 = .ok (.iconst 1, 1) := by decide +kernel
theorem d_Touch_beginItem_51 : decode prog_12_method_6_code 51 = .ok (.iadd, 1) := by decide +kernel
theorem d_Touch_beginItem_52 : decode prog_12_method_6_code 52 = .ok (.putfield 76, 3) := by decide +kernel
theorem d_Touch_beginItem_55 : decode prog_12_method_6_code 55 = .ok (.aload_n 0, 1) := by decide +kernel
theorem d_Touch_beginItem_56 : decode prog_12_method_6_code 56 = .ok (.iload_n 2, 1) := by decide +kernel
theorem d_Touch_beginItem_57 : decode prog_12_method_6_code 57 = .ok (.ifCond .eq 7, 3) := by decide +kernel
theorem d_Touch_beginItem_60 : decode prog_12_method_6_code 60 = .ok (.iconst 1, 1) := by decide +kernel
theorem d_Touch_beginItem_61 : decode prog_12_method_6_code 61 = .ok (.goto 4, 3) := by decide +kernel
theorem d_Touch_beginItem_64 : decode prog_12_method_6_code 64 = .ok (.iconst 0, 1) := by decide +kernel
theorem d_Touch_beginItem_65 : decode prog_12_method_6_code 65 = .ok (.putfield 79, 3) := by decide +kernel
theorem d_Touch_beginItem_68 : decode prog_12_method_6_code 68 = .ok (.iload_n 2, 1) := by decide +kernel
theorem d_Touch_beginItem_69 : decode prog_12_method_6_code 69 = .ok (.ireturn, 1) := by decide +kernel
set_option maxRecDepth 20000 in
theorem jc_Touch_beginItem_65 (N : Nat) (l2 : Int32) (u0 : Option Nat) (u1 : Int32) (h : Hp) : J p l e R s m args below meth c prog_12_method_6_code 3 "RingingChamber$Touch" 5 127 (some .int) "beginItem" D dA B n0 s0 (QM below args s D dA B n0 s0 vI) 65 [(2, vi l2)] [vi u1, vr u0] h (Touch_beginItem_65 N l2 u0 u1 h) := by
  unfold Touch_beginItem_65
  refine j_putZ d_Touch_beginItem_65 fl_9_79 (Or.inl rfl) (fun h1 => ?_)
  refine j_iload_n d_Touch_beginItem_68 0 rfl rfl ?_
  exact j_retI d_Touch_beginItem_69
set_option maxRecDepth 20000 in
theorem jc_Touch_beginItem_39 (N : Nat) (l0 : Option Nat) (u0 : Int32) (h : Hp) : J p l e R s m args below meth c prog_12_method_6_code 3 "RingingChamber$Touch" 5 127 (some .int) "beginItem" D dA B n0 s0 (QM below args s D dA B n0 s0 vI) 39 [(0, vr l0)] [vi u0] h (Touch_beginItem_39 N l0 u0 h) := by
  unfold Touch_beginItem_39
  refine j_istore_n (lv' := [(2, vi u0), (0, vr l0)]) d_Touch_beginItem_39 rfl (by decide) rfl ?_
  refine j_aload_n d_Touch_beginItem_40 1 rfl rfl ?_
  refine j_iconst (v := 0) d_Touch_beginItem_41 (by decide) ?_
  refine j_putI d_Touch_beginItem_42 fl_9_73 (Or.inl rfl) (fun h1 => ?_)
  refine j_aload_n d_Touch_beginItem_45 1 rfl rfl ?_
  refine j_dup d_Touch_beginItem_46 rfl ?_
  refine j_getI d_Touch_beginItem_47 fl_9_76.r (fun x2 => ?_)
  refine j_iconst (v := 1) d_Touch_beginItem_50 (by decide) ?_
  refine j_iadd d_Touch_beginItem_51 ?_
  refine j_putI d_Touch_beginItem_52 fl_9_76 (Or.inl rfl) (fun h3 => ?_)
  refine j_aload_n d_Touch_beginItem_55 1 rfl rfl ?_
  refine j_iload_n d_Touch_beginItem_56 0 rfl rfl ?_
  refine j_if_eq (tgt := 64) d_Touch_beginItem_57 (by decide) ?_ ?_
  · refine j_iconst (v := 0) d_Touch_beginItem_64 (by decide) ?_
    exact J.sub [0] rfl (jc_Touch_beginItem_65 N u0 l0 0 h3)
  · refine j_iconst (v := 1) d_Touch_beginItem_60 (by decide) ?_
    refine j_goto (tgt := 65) d_Touch_beginItem_61 (by decide) ?_
    exact J.sub [0] rfl (jc_Touch_beginItem_65 N u0 l0 1 h3)
set_option maxRecDepth 20000 in
theorem jc_Touch_beginItem (N : Nat) (l0 : Option Nat) (h : Hp) : J p l e R s m args below meth c prog_12_method_6_code 3 "RingingChamber$Touch" 5 127 (some .int) "beginItem" D dA B n0 s0 (QM below args s D dA B n0 s0 vI) 0 [(0, vr l0)] [] h (Touch_beginItem N l0 h) := by
  unfold Touch_beginItem
  refine j_aload_n d_Touch_beginItem_0 0 rfl rfl ?_
  refine j_getR d_Touch_beginItem_1 fl_9_11.r (fun x1 => ?_)
  refine j_aload_n d_Touch_beginItem_4 0 rfl rfl ?_
  refine j_getI d_Touch_beginItem_5 fl_9_76.r (fun x2 => ?_)
  refine j_ald18 d_Touch_beginItem_8 (fun x3 => ?_)
  refine j_astore_n (lv' := [(1, vr x3), (0, vr l0)]) d_Touch_beginItem_9 rfl (by decide) rfl ?_
  refine j_aload_n d_Touch_beginItem_10 0 rfl rfl ?_
  refine j_ifnonnull (tgt := 18) d_Touch_beginItem_11 (by decide) ?_ ?_
  · refine j_iconst (v := 4) d_Touch_beginItem_14 (by decide) ?_
    refine j_goto (tgt := 39) d_Touch_beginItem_15 (by decide) ?_
    exact J.sub [1] rfl (jc_Touch_beginItem_39 N l0 4 h)
  · refine j_aload_n d_Touch_beginItem_18 0 rfl rfl ?_
    refine j_aload_n d_Touch_beginItem_19 1 rfl rfl ?_
    refine j_getI d_Touch_beginItem_20 fl_9_76.r (fun x4 => ?_)
    refine j_aload_n d_Touch_beginItem_23 1 rfl rfl ?_
    refine j_getR d_Touch_beginItem_24 fl_9_17.r (fun x5 => ?_)
    refine j_aload_n d_Touch_beginItem_27 1 rfl rfl ?_
    refine j_getI d_Touch_beginItem_28 fl_9_76.r (fun x6 => ?_)
    refine j_iald d_Touch_beginItem_31 (fun x7 => ?_)
    refine j_aload_n d_Touch_beginItem_32 1 rfl rfl ?_
    refine j_getR d_Touch_beginItem_33 fl_9_33.r (fun x8 => ?_)
    refine j_vI3 d_Touch_beginItem_36 (allQ.cons (VD.mk vt_9_99_1 (ct_Little_calledOf N l D dA B x3 x4 x7 x8 h) (by decide) (by decide)) (allQ.cons (VD.mk vt_9_99_2 (ct_Plain_calledOf N l D dA B x3 x4 x7 x8 h) (by decide) (by decide)) (allQ.cons (VD.mk vt_9_99_3 (ct_Principle_calledOf N l D dA B x3 x4 x7 x8 h) (by decide) (by decide)) (allQ.cons (VD.mk vt_9_99_6 (ct_Spliced_calledOf N l D dA B x3 x4 x7 x8 h) (by decide) (by decide)) (allQ.cons (VD.mk vt_9_99_7 (ct_Surprise_calledOf N l D dA B x3 x4 x7 x8 h) (by decide) (by decide)) (allQ.cons (VD.mk vt_9_99_10 (ct_Plain_calledOf N l D dA B x3 x4 x7 x8 h) (by decide) (by decide)) allQ.nil)))))) (Nat.le_of_ble_eq_true rfl) (fun x10 h9 => ?_)
    exact J.sub [1] rfl (jc_Touch_beginItem_39 N l0 x10 h9)
set_option maxRecDepth 20000 in
theorem ct_Touch_beginItem (N : Nat) (l : Launch) (D : va_G) (dA : Nat → ClassId) (B : Nat) (l0 : Option Nat) (h : Hp) : Ct l (⟨"RingingChamber$Touch", "beginItem", "()I"⟩ : MethodName) prog_12_method_6_code 3 (some .int) 5 127 D dA B [vr l0] h vI (Touch_beginItem N l0 h) :=
  Ct.of2 (own := "RingingChamber$Touch") (nme := "beginItem") (lv := [(0, vr l0)]) rfl rfl (by decide) (Nat.le_of_ble_eq_true rfl) rfl (fun p e R s m args below meth c => jc_Touch_beginItem N l0 h)
theorem d_Touch_ringOn_0 : decode prog_12_method_5_code 0 = .ok (.iconst 0, 1) := by decide +kernel
theorem d_Touch_ringOn_1 : decode prog_12_method_5_code 1 = .ok (.istore_n 2, 1) := by decide +kernel
theorem d_Touch_ringOn_2 : decode prog_12_method_5_code 2 = .ok (.iload_n 1, 1) := by decide +kernel
theorem d_Touch_ringOn_3 : decode prog_12_method_5_code 3 = .ok (.istore_n 3, 1) := by decide +kernel
theorem d_Touch_ringOn_4 : decode prog_12_method_5_code 4 = .ok (.iconst 0, 1) := by decide +kernel
theorem d_Touch_ringOn_5 : decode prog_12_method_5_code 5 = .ok (.istore 4, 2) := by decide +kernel
theorem d_Touch_ringOn_7 : decode prog_12_method_5_code 7 = .ok (.iload 4, 2) := by decide +kernel
theorem d_Touch_ringOn_9 : decode prog_12_method_5_code 9 = .ok (.iload_n 1, 1) := by decide +kernel
theorem d_Touch_ringOn_10 : decode prog_12_method_5_code 10 = .ok (.bipush 100, 2) := by decide +kernel
theorem d_Touch_ringOn_12 : decode prog_12_method_5_code 12 = .ok (.iadd, 1) := by decide +kernel
theorem d_Touch_ringOn_13 : decode prog_12_method_5_code 13 = .ok (.if_icmp .ge 60, 3) := by decide +kernel
theorem d_Touch_ringOn_16 : decode prog_12_method_5_code 16 = .ok (.iload_n 3, 1) := by decide +kernel
theorem d_Touch_ringOn_17 : decode prog_12_method_5_code 17 = .ok (.ifCond .le 56, 3) := by decide +kernel
theorem d_Touch_ringOn_20 : decode prog_12_method_5_code 20 = .ok (.aload_n 0, 1) := by decide +kernel
theorem d_Touch_ringOn_21 : decode prog_12_method_5_code 21 = .ok (.getfield 79, 3) := by decide +kernel
theorem d_Touch_ringOn_24 : decode prog_12_method_5_code 24 = .ok (.ifCond .ne 49, 3) := by decide +kernel
theorem d_Touch_ringOn_27 : decode prog_12_method_5_code 27 = .ok (.aload_n 0, 1) := by decide +kernel
theorem d_Touch_ringOn_28 : decode prog_12_method_5_code 28 = .ok (.getfield 73, 3) := by decide +kernel
theorem d_Touch_ringOn_31 : decode prog_12_method_5_code 31 = .ok (.aload_n 0, 1) := by decide +kernel
theorem d_Touch_ringOn_32 : decode prog_12_method_5_code 32 = .ok (.getfield 33, 3) := by decide +kernel
theorem d_Touch_ringOn_35 : decode prog_12_method_5_code 35 = .ok (.getfield 70, 3) := by decide +kernel
theorem d_Touch_ringOn_38 : decode prog_12_method_5_code 38 = .ok (.if_icmp .ge 13, 3) := by decide +kernel
theorem d_Touch_ringOn_41 : decode prog_12_method_5_code 41 = .ok (.aload_n 0, 1) := by decide +kernel
theorem d_Touch_ringOn_42 : decode prog_12_method_5_code 42 = .ok (.invokevirtual 92, 3) := by decide +kernel
theorem d_Touch_ringOn_45 : decode prog_12_method_5_code 45 = .ok (.iinc 3 (-1), 3) := by decide +kernel
theorem d_Touch_ringOn_48 : decode prog_12_method_5_code 48 = .ok (.goto 19, 3) := by decide +kernel
theorem d_Touch_ringOn_51 : decode prog_12_method_5_code 51 = .ok (.aload_n 0, 1) := by decide +kernel
theorem d_Touch_ringOn_52 : decode prog_12_method_5_code 52 = .ok (.getfield 76, 3) := by decide +kernel
theorem d_Touch_ringOn_55 : decode prog_12_method_5_code 55 = .ok (.aload_n 0, 1) := by decide +kernel
theorem d_Touch_ringOn_56 : decode prog_12_method_5_code 56 = .ok (.getfield 54, 3) := by decide +kernel
theorem d_Touch_ringOn_59 : decode prog_12_method_5_code 59 = .ok (.if_icmp .ge 14, 3) := by decide +kernel
theorem d_Touch_ringOn_62 : decode prog_12_method_5_code 62 = .ok (.aload_n 0, 1) := by decide +kernel
theorem d_Touch_ringOn_63 : decode prog_12_method_5_code 63 = .ok (.invokevirtual 95, 3) := by decide +kernel
theorem d_Touch_ringOn_66 : decode prog_12_method_5_code 66 = .ok (.istore_n 2, 1) := by decide +kernel
theorem d_Touch_ringOn_67 : decode prog_12_method_5_code 67 = .ok (.iinc 4 1, 3) := by decide +kernel
theorem d_Touch_ringOn_70 : decode prog_12_method_5_code 70 = .ok (.goto (-63), 3) := by decide +kernel
theorem d_Touch_ringOn_73 : decode prog_12_method_5_code 73 = .ok (.iload_n 2, 1) := by decide +kernel
theorem d_Touch_ringOn_74 : decode prog_12_method_5_code 74 = .ok (.ireturn, 1) := by decide +kernel
set_option maxRecDepth 20000 in
theorem jc_Touch_ringOn_67 (N : Nat) (re7 : Option Nat → Int32 → Int32 → Int32 → Int32 → Hp → Option (Int32 × Hp)) (hre7 : ∀ y0 y1 y2 y3 y4 h, J p l e R s m args below meth c prog_12_method_5_code 5 "RingingChamber$Touch" 6 149 (some .int) "ringOn" D dA B n0 s0 (QM below args s D dA B n0 s0 vI) 7 [(0, vr y0), (1, vi y1), (2, vi y2), (3, vi y3), (4, vi y4)] [] h (re7 y0 y1 y2 y3 y4 h)) (l0 : Option Nat) (l1 : Int32) (l2 : Int32) (l3 : Int32) (l4 : Int32) (h : Hp) : J p l e R s m args below meth c prog_12_method_5_code 5 "RingingChamber$Touch" 6 149 (some .int) "ringOn" D dA B n0 s0 (QM below args s D dA B n0 s0 vI) 67 [(0, vr l0), (1, vi l1), (2, vi l2), (3, vi l3), (4, vi l4)] [] h (Touch_ringOn_67 N re7 l0 l1 l2 l3 l4 h) := by
  unfold Touch_ringOn_67
  refine j_iinc (lvv := fun x1 => [(4, vi x1), (0, vr l0), (1, vi l1), (2, vi l2), (3, vi l3)]) d_Touch_ringOn_67 4 rfl rfl (by decide) (fun _ => rfl) (fun x1 => ?_)
  refine j_goto (tgt := 7) d_Touch_ringOn_70 (by decide) ?_
  exact J.sub [1, 2, 3, 4, 0] rfl (hre7 l0 l1 l2 l3 x1 h)
set_option maxRecDepth 20000 in
theorem jc_Touch_ringOn_7 (N : Nat) : ∀ (n : Nat) (l0 : Option Nat) (l1 : Int32) (l2 : Int32) (l3 : Int32) (l4 : Int32) (h : Hp), J p l e R s m args below meth c prog_12_method_5_code 5 "RingingChamber$Touch" 6 149 (some .int) "ringOn" D dA B n0 s0 (QM below args s D dA B n0 s0 vI) 7 [(0, vr l0), (1, vi l1), (2, vi l2), (3, vi l3), (4, vi l4)] [] h (Touch_ringOn_7 N n l0 l1 l2 l3 l4 h) := by
  intro n
  induction n with
  | zero => intros; exact J.none
  | succ n ih =>
    intro l0 l1 l2 l3 l4 h
    rw [Touch_ringOn_7]
    refine j_iload d_Touch_ringOn_7 4 rfl ?_
    refine j_iload_n d_Touch_ringOn_9 1 rfl rfl ?_
    refine j_bipush (v := 100) d_Touch_ringOn_10 (by decide) ?_
    refine j_iadd d_Touch_ringOn_12 ?_
    refine j_icmp_ge (tgt := 73) d_Touch_ringOn_13 (by decide) ?_ ?_
    · refine j_iload_n d_Touch_ringOn_73 2 rfl rfl ?_
      exact j_retI d_Touch_ringOn_74
    · refine j_iload_n d_Touch_ringOn_16 3 rfl rfl ?_
      refine j_if_le (tgt := 73) d_Touch_ringOn_17 (by decide) ?_ ?_
      · refine j_iload_n d_Touch_ringOn_73 2 rfl rfl ?_
        exact j_retI d_Touch_ringOn_74
      · refine j_aload_n d_Touch_ringOn_20 0 rfl rfl ?_
        refine j_getI d_Touch_ringOn_21 fl_9_79.r (fun x1 => ?_)
        refine j_if_ne (tgt := 73) d_Touch_ringOn_24 (by decide) ?_ ?_
        · refine j_aload_n d_Touch_ringOn_27 0 rfl rfl ?_
          refine j_getI d_Touch_ringOn_28 fl_9_73.r (fun x2 => ?_)
          refine j_aload_n d_Touch_ringOn_31 0 rfl rfl ?_
          refine j_getR d_Touch_ringOn_32 fl_9_33.r (fun x3 => ?_)
          refine j_getI d_Touch_ringOn_35 fl_9_70.r (fun x4 => ?_)
          refine j_icmp_ge (tgt := 51) d_Touch_ringOn_38 (by decide) ?_ ?_
          · refine j_aload_n d_Touch_ringOn_51 0 rfl rfl ?_
            refine j_getI d_Touch_ringOn_52 fl_9_76.r (fun x5 => ?_)
            refine j_aload_n d_Touch_ringOn_55 0 rfl rfl ?_
            refine j_getI d_Touch_ringOn_56 fl_9_54.r (fun x6 => ?_)
            refine j_icmp_ge (tgt := 73) d_Touch_ringOn_59 (by decide) ?_ ?_
            · refine j_iload_n d_Touch_ringOn_73 2 rfl rfl ?_
              exact j_retI d_Touch_ringOn_74
            · refine j_aload_n d_Touch_ringOn_62 0 rfl rfl ?_
              refine j_vI0 d_Touch_ringOn_63 (allQ.cons (VD.mk vt_9_95_9 (ct_Touch_beginItem N l D dA B l0 h) (by decide) (by decide)) allQ.nil) (Nat.le_of_ble_eq_true rfl) (fun x8 h7 => ?_)
              refine j_istore_n (lv' := [(2, vi x8), (0, vr l0), (1, vi l1), (3, vi l3), (4, vi l4)]) d_Touch_ringOn_66 rfl (by decide) rfl ?_
              exact J.sub [1, 2, 0, 3, 4] rfl (jc_Touch_ringOn_67 N (Touch_ringOn_7 N n) ih l0 l1 x8 l3 l4 h7)
          · refine j_aload_n d_Touch_ringOn_41 0 rfl rfl ?_
            refine j_vU0 d_Touch_ringOn_42 (allQ.cons (VD.mk vt_9_92_9 (ct_Touch_ringRow N l D dA B l0 h) (by decide) (by decide)) allQ.nil) (Nat.le_of_ble_eq_true rfl) (fun _ h9 => ?_)
            refine j_iinc (lvv := fun x10 => [(3, vi x10), (0, vr l0), (1, vi l1), (2, vi l2), (4, vi l4)]) d_Touch_ringOn_45 3 rfl rfl (by decide) (fun _ => rfl) (fun x10 => ?_)
            refine j_goto (tgt := 67) d_Touch_ringOn_48 (by decide) ?_
            exact J.sub [1, 2, 3, 0, 4] rfl (jc_Touch_ringOn_67 N (Touch_ringOn_7 N n) ih l0 l1 l2 x10 l4 h9)
        · refine j_iload_n d_Touch_ringOn_73 2 rfl rfl ?_
          exact j_retI d_Touch_ringOn_74
set_option maxRecDepth 20000 in
theorem jc_Touch_ringOn (N : Nat) (l0 : Option Nat) (l1 : Int32) (h : Hp) : J p l e R s m args below meth c prog_12_method_5_code 5 "RingingChamber$Touch" 6 149 (some .int) "ringOn" D dA B n0 s0 (QM below args s D dA B n0 s0 vI) 0 [(0, vr l0), (1, vi l1)] [] h (Touch_ringOn N l0 l1 h) := by
  unfold Touch_ringOn
  refine j_iconst (v := 0) d_Touch_ringOn_0 (by decide) ?_
  refine j_istore_n (lv' := [(2, vi 0), (0, vr l0), (1, vi l1)]) d_Touch_ringOn_1 rfl (by decide) rfl ?_
  refine j_iload_n d_Touch_ringOn_2 2 rfl rfl ?_
  refine j_istore_n (lv' := [(3, vi l1), (2, vi 0), (0, vr l0), (1, vi l1)]) d_Touch_ringOn_3 rfl (by decide) rfl ?_
  refine j_iconst (v := 0) d_Touch_ringOn_4 (by decide) ?_
  refine j_istore (lv' := [(4, vi 0), (3, vi l1), (2, vi 0), (0, vr l0), (1, vi l1)]) d_Touch_ringOn_5 (by decide) rfl ?_
  exact J.sub [3, 4, 2, 1, 0] rfl (jc_Touch_ringOn_7 N N l0 l1 0 l1 0 h)
set_option maxRecDepth 20000 in
theorem ct_Touch_ringOn (N : Nat) (l : Launch) (D : va_G) (dA : Nat → ClassId) (B : Nat) (l0 : Option Nat) (l1 : Int32) (h : Hp) : Ct l (⟨"RingingChamber$Touch", "ringOn", "(I)I"⟩ : MethodName) prog_12_method_5_code 5 (some .int) 6 149 D dA B [vr l0, vi l1] h vI (Touch_ringOn N l0 l1 h) :=
  Ct.of2 (own := "RingingChamber$Touch") (nme := "ringOn") (lv := [(0, vr l0), (1, vi l1)]) rfl rfl (by decide) (Nat.le_of_ble_eq_true rfl) rfl (fun p e R s m args below meth c => jc_Touch_ringOn N l0 l1 h)
theorem d_Touch_provableRows_0 : decode prog_12_method_10_code 0 = .ok (.aload_n 0, 1) := by decide +kernel
theorem d_Touch_provableRows_1 : decode prog_12_method_10_code 1 = .ok (.getfield 83, 3) := by decide +kernel
theorem d_Touch_provableRows_4 : decode prog_12_method_10_code 4 = .ok (.ifCond .ge 13, 3) := by decide +kernel
theorem d_Touch_provableRows_7 : decode prog_12_method_10_code 7 = .ok (.aload_n 0, 1) := by decide +kernel
theorem d_Touch_provableRows_8 : decode prog_12_method_10_code 8 = .ok (.getfield 26, 3) := by decide +kernel
theorem d_Touch_provableRows_11 : decode prog_12_method_10_code 11 = .ok (.getfield 103, 3) := by decide +kernel
theorem d_Touch_provableRows_14 : decode prog_12_method_10_code 14 = .ok (.goto 12, 3) := by decide +kernel
theorem d_Touch_provableRows_17 : decode prog_12_method_10_code 17 = .ok (.aload_n 0, 1) := by decide +kernel
theorem d_Touch_provableRows_18 : decode prog_12_method_10_code 18 = .ok (.getfield 26, 3) := by decide +kernel
theorem d_Touch_provableRows_21 : decode prog_12_method_10_code 21 = .ok (.getfield 103, 3) := by decide +kernel
theorem d_Touch_provableRows_24 : decode prog_12_method_10_code 24 = .ok (.iconst 1, 1) := by decide +kernel
theorem d_Touch_provableRows_25 : decode prog_12_method_10_code 25 = .ok (.isub, 1) := by decide +kernel
theorem d_Touch_provableRows_26 : decode prog_12_method_10_code 26 = .ok (.ireturn, 1) := by decide +kernel
set_option maxRecDepth 20000 in
theorem jc_Touch_provableRows (N : Nat) (l0 : Option Nat) (h : Hp) : J p l e R s m args below meth c prog_12_method_10_code 1 "RingingChamber$Touch" 0 0 (some .int) "provableRows" D dA B n0 s0 (QM below args s D dA B n0 s0 vI) 0 [(0, vr l0)] [] h (Touch_provableRows N l0 h) := by
  unfold Touch_provableRows
  refine j_aload_n d_Touch_provableRows_0 0 rfl rfl ?_
  refine j_getI d_Touch_provableRows_1 fl_9_83.r (fun x1 => ?_)
  refine j_if_ge (tgt := 17) d_Touch_provableRows_4 (by decide) ?_ ?_
  · refine j_aload_n d_Touch_provableRows_17 0 rfl rfl ?_
    refine j_getR d_Touch_provableRows_18 fl_9_26.r (fun x2 => ?_)
    refine j_getI d_Touch_provableRows_21 fl_9_103.r (fun x3 => ?_)
    refine j_iconst (v := 1) d_Touch_provableRows_24 (by decide) ?_
    refine j_isub d_Touch_provableRows_25 ?_
    exact j_retI d_Touch_provableRows_26
  · refine j_aload_n d_Touch_provableRows_7 0 rfl rfl ?_
    refine j_getR d_Touch_provableRows_8 fl_9_26.r (fun x4 => ?_)
    refine j_getI d_Touch_provableRows_11 fl_9_103.r (fun x5 => ?_)
    refine j_goto (tgt := 26) d_Touch_provableRows_14 (by decide) ?_
    exact j_retI d_Touch_provableRows_26
set_option maxRecDepth 20000 in
theorem ct_Touch_provableRows (N : Nat) (l : Launch) (D : va_G) (dA : Nat → ClassId) (B : Nat) (l0 : Option Nat) (h : Hp) : Ct l (⟨"RingingChamber$Touch", "provableRows", "()I"⟩ : MethodName) prog_12_method_10_code 1 (some .int) 0 0 D dA B [vr l0] h vI (Touch_provableRows N l0 h) :=
  Ct.of2 (own := "RingingChamber$Touch") (nme := "provableRows") (lv := [(0, vr l0)]) rfl rfl (by decide) (Nat.le_of_ble_eq_true rfl) rfl (fun p e R s m args below meth c => jc_Touch_provableRows N l0 h)
theorem d_Touch_sink_0 : decode prog_12_method_13_code 0 = .ok (.aload_n 0, 1) := by decide +kernel
theorem d_Touch_sink_1 : decode prog_12_method_13_code 1 = .ok (.getfield 37, 3) := by decide +kernel
theorem d_Touch_sink_4 : decode prog_12_method_13_code 4 = .ok (.iload_n 1, 1) := by decide +kernel
theorem d_Touch_sink_5 : decode prog_12_method_13_code 5 = .ok (.iaload, 1) := by decide +kernel
theorem d_Touch_sink_6 : decode prog_12_method_13_code 6 = .ok (.istore_n 3, 1) := by decide +kernel
theorem d_Touch_sink_7 : decode prog_12_method_13_code 7 = .ok (.iload_n 1, 1) := by decide +kernel
theorem d_Touch_sink_8 : decode prog_12_method_13_code 8 = .ok (.istore 4, 2) := by decide +kernel
theorem d_Touch_sink_10 : decode prog_12_method_13_code 10 = .ok (.iconst 2, 1) := by decide +kernel
theorem d_Touch_sink_11 : decode prog_12_method_13_code 11 = .ok (.iload 4, 2) := by decide +kernel
theorem d_Touch_sink_13 : decode prog_12_method_13_code 13 = .ok (.imul, 1) := by decide +kernel
theorem d_Touch_sink_14 : decode prog_12_method_13_code 14 = .ok (.iconst 1, 1) := by decide +kernel
theorem d_Touch_sink_15 : decode prog_12_method_13_code 15 = .ok (.iadd, 1) := by decide +kernel
theorem d_Touch_sink_16 : decode prog_12_method_13_code 16 = .ok (.istore 5, 2) := by decide +kernel
theorem d_Touch_sink_18 : decode prog_12_method_13_code 18 = .ok (.iload 5, 2) := by decide +kernel
theorem d_Touch_sink_20 : decode prog_12_method_13_code 20 = .ok (.iload_n 2, 1) := by decide +kernel
theorem d_Touch_sink_21 : decode prog_12_method_13_code 21 = .ok (.if_icmp .ge 76, 3) := by decide +kernel
theorem d_Touch_sink_24 : decode prog_12_method_13_code 24 = .ok (.iload 5, 2) := by decide +kernel
theorem d_Touch_sink_26 : decode prog_12_method_13_code 26 = .ok (.iconst 1, 1) := by decide +kernel
theorem d_Touch_sink_27 : decode prog_12_method_13_code 27 = .ok (.iadd, 1) := by decide +kernel
theorem d_Touch_sink_28 : decode prog_12_method_13_code 28 = .ok (.iload_n 2, 1) := by decide +kernel
theorem d_Touch_sink_29 : decode prog_12_method_13_code 29 = .ok (.if_icmp .ge 25, 3) := by decide +kernel
theorem d_Touch_sink_32 : decode prog_12_method_13_code 32 = .ok (.aload_n 0, 1) := by decide +kernel
theorem d_Touch_sink_33 : decode prog_12_method_13_code 33 = .ok (.getfield 37, 3) := by decide +kernel
theorem d_Touch_sink_36 : decode prog_12_method_13_code 36 = .ok (.iload 5, 2) := by decide +kernel
theorem d_Touch_sink_38 : decode prog_12_method_13_code 38 = .ok (.iconst 1, 1) := by decide +kernel
theorem d_Touch_sink_39 : decode prog_12_method_13_code 39 = .ok (.iadd, 1) := by decide +kernel
theorem d_Touch_sink_40 : decode prog_12_method_13_code 40 = .ok (.iaload, 1) := by decide +kernel
theorem d_Touch_sink_41 : decode prog_12_method_13_code 41 = .ok (.aload_n 0, 1) := by decide +kernel
theorem d_Touch_sink_42 : decode prog_12_method_13_code 42 = .ok (.getfield 37, 3) := by decide +kernel
theorem d_Touch_sink_45 : decode prog_12_method_13_code 45 = .ok (.iload 5, 2) := by decide +kernel
theorem d_Touch_sink_47 : decode prog_12_method_13_code 47 = .ok (.iaload, 1) := by decide +kernel
theorem d_Touch_sink_48 : decode prog_12_method_13_code 48 = .ok (.if_icmp .le 6, 3) := by decide +kernel
theorem d_Touch_sink_51 : decode prog_12_method_13_code 51 = .ok (.iinc 5 1, 3) := by decide +kernel
theorem d_Touch_sink_54 : decode prog_12_method_13_code 54 = .ok (.aload_n 0, 1) := by decide +kernel
theorem d_Touch_sink_55 : decode prog_12_method_13_code 55 = .ok (.getfield 37, 3) := by decide +kernel
theorem d_Touch_sink_58 : decode prog_12_method_13_code 58 = .ok (.iload 5, 2) := by decide +kernel
theorem d_Touch_sink_60 : decode prog_12_method_13_code 60 = .ok (.iaload, 1) := by decide +kernel
theorem d_Touch_sink_61 : decode prog_12_method_13_code 61 = .ok (.iload_n 3, 1) := by decide +kernel
theorem d_Touch_sink_62 : decode prog_12_method_13_code 62 = .ok (.if_icmp .gt 6, 3) := by decide +kernel
theorem d_Touch_sink_65 : decode prog_12_method_13_code 65 = .ok (.goto 32, 3) := by decide +kernel
theorem d_Touch_sink_68 : decode prog_12_method_13_code 68 = .ok (.aload_n 0, 1) := by decide +kernel
theorem d_Touch_sink_69 : decode prog_12_method_13_code 69 = .ok (.getfield 37, 3) := by decide +kernel
theorem d_Touch_sink_72 : decode prog_12_method_13_code 72 = .ok (.iload 4, 2) := by decide +kernel
theorem d_Touch_sink_74 : decode prog_12_method_13_code 74 = .ok (.aload_n 0, 1) := by decide +kernel
theorem d_Touch_sink_75 : decode prog_12_method_13_code 75 = .ok (.getfield 37, 3) := by decide +kernel
theorem d_Touch_sink_78 : decode prog_12_method_13_code 78 = .ok (.iload 5, 2) := by decide +kernel
theorem d_Touch_sink_80 : decode prog_12_method_13_code 80 = .ok (.iaload, 1) := by decide +kernel
theorem d_Touch_sink_81 : decode prog_12_method_13_code 81 = .ok (.iastore, 1) := by decide +kernel
theorem d_Touch_sink_82 : decode prog_12_method_13_code 82 = .ok (.iload 5, 2) := by decide +kernel
theorem d_Touch_sink_84 : decode prog_12_method_13_code 84 = .ok (.istore 4, 2) := by decide +kernel
theorem d_Touch_sink_86 : decode prog_12_method_13_code 86 = .ok (.iconst 2, 1) := by decide +kernel
theorem d_Touch_sink_87 : decode prog_12_method_13_code 87 = .ok (.iload 4, 2) := by decide +kernel
theorem d_Touch_sink_89 : decode prog_12_method_13_code 89 = .ok (.imul, 1) := by decide +kernel
theorem d_Touch_sink_90 : decode prog_12_method_13_code 90 = .ok (.iconst 1, 1) := by decide +kernel
theorem d_Touch_sink_91 : decode prog_12_method_13_code 91 = .ok (.iadd, 1) := by decide +kernel
theorem d_Touch_sink_92 : decode prog_12_method_13_code 92 = .ok (.istore 5, 2) := by decide +kernel
theorem d_Touch_sink_94 : decode prog_12_method_13_code 94 = .ok (.goto (-76), 3) := by decide +kernel
theorem d_Touch_sink_97 : decode prog_12_method_13_code 97 = .ok (.aload_n 0, 1) := by decide +kernel
theorem d_Touch_sink_98 : decode prog_12_method_13_code 98 = .ok (.getfield 37, 3) := by decide +kernel
theorem d_Touch_sink_101 : decode prog_12_method_13_code 101 = .ok (.iload 4, 2) := by decide +kernel
theorem d_Touch_sink_103 : decode prog_12_method_13_code 103 = .ok (.iload_n 3, 1) := by decide +kernel
theorem d_Touch_sink_104 : decode prog_12_method_13_code 104 = .ok (.iastore, 1) := by decide +kernel
theorem d_Touch_sink_105 : decode prog_12_method_13_code 105 = .ok (.return_, 1) := by decide +kernel
set_option maxRecDepth 20000 in
theorem jc_Touch_sink_97 (N : Nat) (l0 : Option Nat) (l3 : Int32) (l4 : Int32) (h : Hp) : J p l e R s m args below meth c prog_12_method_13_code 6 "RingingChamber$Touch" 0 0 none "sink" D dA B n0 s0 (QM below args s D dA B n0 s0 vU) 97 [(0, vr l0), (3, vi l3), (4, vi l4)] [] h (Touch_sink_97 N l0 l3 l4 h) := by
  unfold Touch_sink_97
  refine j_aload_n d_Touch_sink_97 0 rfl rfl ?_
  refine j_getR d_Touch_sink_98 fl_9_37.r (fun x1 => ?_)
  refine j_iload d_Touch_sink_101 2 rfl ?_
  refine j_iload_n d_Touch_sink_103 1 rfl rfl ?_
  refine j_iast d_Touch_sink_104 (fun h2 => ?_)
  exact j_retU d_Touch_sink_105
set_option maxRecDepth 20000 in
theorem jc_Touch_sink_54 (N : Nat) (re18 : Option Nat → Int32 → Int32 → Int32 → Int32 → Hp → Option (Unit × Hp)) (hre18 : ∀ y0 y1 y2 y3 y4 h, J p l e R s m args below meth c prog_12_method_13_code 6 "RingingChamber$Touch" 0 0 none "sink" D dA B n0 s0 (QM below args s D dA B n0 s0 vU) 18 [(0, vr y0), (2, vi y1), (3, vi y2), (4, vi y3), (5, vi y4)] [] h (re18 y0 y1 y2 y3 y4 h)) (l0 : Option Nat) (l2 : Int32) (l3 : Int32) (l4 : Int32) (l5 : Int32) (h : Hp) : J p l e R s m args below meth c prog_12_method_13_code 6 "RingingChamber$Touch" 0 0 none "sink" D dA B n0 s0 (QM below args s D dA B n0 s0 vU) 54 [(0, vr l0), (2, vi l2), (3, vi l3), (4, vi l4), (5, vi l5)] [] h (Touch_sink_54 N re18 l0 l2 l3 l4 l5 h) := by
  unfold Touch_sink_54
  refine j_aload_n d_Touch_sink_54 0 rfl rfl ?_
  refine j_getR d_Touch_sink_55 fl_9_37.r (fun x1 => ?_)
  refine j_iload d_Touch_sink_58 4 rfl ?_
  refine j_iald d_Touch_sink_60 (fun x2 => ?_)
  refine j_iload_n d_Touch_sink_61 2 rfl rfl ?_
  refine j_icmp_gt (tgt := 68) d_Touch_sink_62 (by decide) ?_ ?_
  · refine j_aload_n d_Touch_sink_68 0 rfl rfl ?_
    refine j_getR d_Touch_sink_69 fl_9_37.r (fun x3 => ?_)
    refine j_iload d_Touch_sink_72 3 rfl ?_
    refine j_aload_n d_Touch_sink_74 0 rfl rfl ?_
    refine j_getR d_Touch_sink_75 fl_9_37.r (fun x4 => ?_)
    refine j_iload d_Touch_sink_78 4 rfl ?_
    refine j_iald d_Touch_sink_80 (fun x5 => ?_)
    refine j_iast d_Touch_sink_81 (fun h6 => ?_)
    refine j_iload d_Touch_sink_82 4 rfl ?_
    refine j_istore (lv' := [(4, vi l5), (0, vr l0), (2, vi l2), (3, vi l3), (5, vi l5)]) d_Touch_sink_84 (by decide) rfl ?_
    refine j_iconst (v := 2) d_Touch_sink_86 (by decide) ?_
    refine j_iload d_Touch_sink_87 0 rfl ?_
    refine j_imul d_Touch_sink_89 ?_
    refine j_iconst (v := 1) d_Touch_sink_90 (by decide) ?_
    refine j_iadd d_Touch_sink_91 ?_
    refine j_nmi (fun x7 => ?_)
    refine j_istore (lv' := [(5, vi x7), (4, vi l5), (0, vr l0), (2, vi l2), (3, vi l3)]) d_Touch_sink_92 (by decide) rfl ?_
    refine j_goto (tgt := 18) d_Touch_sink_94 (by decide) ?_
    exact J.sub [2, 3, 4, 1, 0] rfl (hre18 l0 l2 l3 l5 x7 h6)
  · refine j_goto (tgt := 97) d_Touch_sink_65 (by decide) ?_
    exact J.sub [0, 2, 3] rfl (jc_Touch_sink_97 N l0 l3 l4 h)
set_option maxRecDepth 20000 in
theorem jc_Touch_sink_18 (N : Nat) : ∀ (n : Nat) (l0 : Option Nat) (l2 : Int32) (l3 : Int32) (l4 : Int32) (l5 : Int32) (h : Hp), J p l e R s m args below meth c prog_12_method_13_code 6 "RingingChamber$Touch" 0 0 none "sink" D dA B n0 s0 (QM below args s D dA B n0 s0 vU) 18 [(0, vr l0), (2, vi l2), (3, vi l3), (4, vi l4), (5, vi l5)] [] h (Touch_sink_18 N n l0 l2 l3 l4 l5 h) := by
  intro n
  induction n with
  | zero => intros; exact J.none
  | succ n ih =>
    intro l0 l2 l3 l4 l5 h
    rw [Touch_sink_18]
    refine j_iload d_Touch_sink_18 4 rfl ?_
    refine j_iload_n d_Touch_sink_20 1 rfl rfl ?_
    refine j_icmp_ge (tgt := 97) d_Touch_sink_21 (by decide) ?_ ?_
    · exact J.sub [0, 2, 3] rfl (jc_Touch_sink_97 N l0 l3 l4 h)
    · refine j_iload d_Touch_sink_24 4 rfl ?_
      refine j_iconst (v := 1) d_Touch_sink_26 (by decide) ?_
      refine j_iadd d_Touch_sink_27 ?_
      refine j_iload_n d_Touch_sink_28 1 rfl rfl ?_
      refine j_icmp_ge (tgt := 54) d_Touch_sink_29 (by decide) ?_ ?_
      · exact jc_Touch_sink_54 N (Touch_sink_18 N n) ih l0 l2 l3 l4 l5 h
      · refine j_aload_n d_Touch_sink_32 0 rfl rfl ?_
        refine j_getR d_Touch_sink_33 fl_9_37.r (fun x1 => ?_)
        refine j_iload d_Touch_sink_36 4 rfl ?_
        refine j_iconst (v := 1) d_Touch_sink_38 (by decide) ?_
        refine j_iadd d_Touch_sink_39 ?_
        refine j_iald d_Touch_sink_40 (fun x2 => ?_)
        refine j_aload_n d_Touch_sink_41 0 rfl rfl ?_
        refine j_getR d_Touch_sink_42 fl_9_37.r (fun x3 => ?_)
        refine j_iload d_Touch_sink_45 4 rfl ?_
        refine j_iald d_Touch_sink_47 (fun x4 => ?_)
        refine j_icmp_le (tgt := 54) d_Touch_sink_48 (by decide) ?_ ?_
        · exact jc_Touch_sink_54 N (Touch_sink_18 N n) ih l0 l2 l3 l4 l5 h
        · refine j_iinc (lvv := fun x5 => [(5, vi x5), (0, vr l0), (2, vi l2), (3, vi l3), (4, vi l4)]) d_Touch_sink_51 4 rfl rfl (by decide) (fun _ => rfl) (fun x5 => ?_)
          exact J.sub [1, 2, 3, 4, 0] rfl (jc_Touch_sink_54 N (Touch_sink_18 N n) ih l0 l2 l3 l4 x5 h)
set_option maxRecDepth 20000 in
theorem jc_Touch_sink (N : Nat) (l0 : Option Nat) (l1 : Int32) (l2 : Int32) (h : Hp) : J p l e R s m args below meth c prog_12_method_13_code 6 "RingingChamber$Touch" 0 0 none "sink" D dA B n0 s0 (QM below args s D dA B n0 s0 vU) 0 [(0, vr l0), (1, vi l1), (2, vi l2)] [] h (Touch_sink N l0 l1 l2 h) := by
  unfold Touch_sink
  refine j_aload_n d_Touch_sink_0 0 rfl rfl ?_
  refine j_getR d_Touch_sink_1 fl_9_37.r (fun x1 => ?_)
  refine j_iload_n d_Touch_sink_4 1 rfl rfl ?_
  refine j_iald d_Touch_sink_5 (fun x2 => ?_)
  refine j_istore_n (lv' := [(3, vi x2), (0, vr l0), (1, vi l1), (2, vi l2)]) d_Touch_sink_6 rfl (by decide) rfl ?_
  refine j_iload_n d_Touch_sink_7 2 rfl rfl ?_
  refine j_istore (lv' := [(4, vi l1), (3, vi x2), (0, vr l0), (1, vi l1), (2, vi l2)]) d_Touch_sink_8 (by decide) rfl ?_
  refine j_iconst (v := 2) d_Touch_sink_10 (by decide) ?_
  refine j_iload d_Touch_sink_11 0 rfl ?_
  refine j_imul d_Touch_sink_13 ?_
  refine j_iconst (v := 1) d_Touch_sink_14 (by decide) ?_
  refine j_iadd d_Touch_sink_15 ?_
  refine j_nmi (fun x3 => ?_)
  refine j_istore (lv' := [(5, vi x3), (4, vi l1), (3, vi x2), (0, vr l0), (1, vi l1), (2, vi l2)]) d_Touch_sink_16 (by decide) rfl ?_
  exact J.sub [3, 5, 2, 1, 0] rfl (jc_Touch_sink_18 N N l0 l2 x2 l1 x3 h)
set_option maxRecDepth 20000 in
theorem ct_Touch_sink (N : Nat) (l : Launch) (D : va_G) (dA : Nat → ClassId) (B : Nat) (l0 : Option Nat) (l1 : Int32) (l2 : Int32) (h : Hp) : Ct l (⟨"RingingChamber$Touch", "sink", "(II)V"⟩ : MethodName) prog_12_method_13_code 6 none 0 0 D dA B [vr l0, vi l1, vi l2] h vU (Touch_sink N l0 l1 l2 h) :=
  Ct.of2 (own := "RingingChamber$Touch") (nme := "sink") (lv := [(0, vr l0), (1, vi l1), (2, vi l2)]) rfl rfl (by decide) (Nat.le_of_ble_eq_true rfl) rfl (fun p e R s m args below meth c => jc_Touch_sink N l0 l1 l2 h)
theorem d_Touch_heapSort_0 : decode prog_12_method_12_code 0 = .ok (.iload_n 1, 1) := by decide +kernel
theorem d_Touch_heapSort_1 : decode prog_12_method_12_code 1 = .ok (.iconst 2, 1) := by decide +kernel
theorem d_Touch_heapSort_2 : decode prog_12_method_12_code 2 = .ok (.idiv, 1) := by decide +kernel
theorem d_Touch_heapSort_3 : decode prog_12_method_12_code 3 = .ok (.iconst 1, 1) := by decide +kernel
theorem d_Touch_heapSort_4 : decode prog_12_method_12_code 4 = .ok (.isub, 1) := by decide +kernel
theorem d_Touch_heapSort_5 : decode prog_12_method_12_code 5 = .ok (.istore_n 2, 1) := by decide +kernel
theorem d_Touch_heapSort_6 : decode prog_12_method_12_code 6 = .ok (.iload_n 2, 1) := by decide +kernel
theorem d_Touch_heapSort_7 : decode prog_12_method_12_code 7 = .ok (.ifCond .lt 15, 3) := by decide +kernel
theorem d_Touch_heapSort_10 : decode prog_12_method_12_code 10 = .ok (.aload_n 0, 1) := by decide +kernel
theorem d_Touch_heapSort_11 : decode prog_12_method_12_code 11 = .ok (.iload_n 2, 1) := by decide +kernel
theorem d_Touch_heapSort_12 : decode prog_12_method_12_code 12 = .ok (.iload_n 1, 1) := by decide +kernel
theorem d_Touch_heapSort_13 : decode prog_12_method_12_code 13 = .ok (.invokevirtual 137, 3) := by decide +kernel
theorem d_Touch_heapSort_16 : decode prog_12_method_12_code 16 = .ok (.iinc 2 (-1), 3) := by decide +kernel
theorem d_Touch_heapSort_19 : decode prog_12_method_12_code 19 = .ok (.goto (-13), 3) := by decide +kernel
theorem d_Touch_heapSort_22 : decode prog_12_method_12_code 22 = .ok (.iload_n 1, 1) := by decide +kernel
theorem d_Touch_heapSort_23 : decode prog_12_method_12_code 23 = .ok (.iconst 1, 1) := by decide +kernel
theorem d_Touch_heapSort_24 : decode prog_12_method_12_code 24 = .ok (.isub, 1) := by decide +kernel
theorem d_Touch_heapSort_25 : decode prog_12_method_12_code 25 = .ok (.istore_n 2, 1) := by decide +kernel
theorem d_Touch_heapSort_26 : decode prog_12_method_12_code 26 = .ok (.iload_n 2, 1) := by decide +kernel
theorem d_Touch_heapSort_27 : decode prog_12_method_12_code 27 = .ok (.ifCond .le 41, 3) := by decide +kernel
theorem d_Touch_heapSort_30 : decode prog_12_method_12_code 30 = .ok (.aload_n 0, 1) := by decide +kernel
theorem d_Touch_heapSort_31 : decode prog_12_method_12_code 31 = .ok (.getfield 37, 3) := by decide +kernel
theorem d_Touch_heapSort_34 : decode prog_12_method_12_code 34 = .ok (.iconst 0, 1) := by decide +kernel
theorem d_Touch_heapSort_35 : decode prog_12_method_12_code 35 = .ok (.iaload, 1) := by decide +kernel
theorem d_Touch_heapSort_36 : decode prog_12_method_12_code 36 = .ok (.istore_n 3, 1) := by decide +kernel
theorem d_Touch_heapSort_37 : decode prog_12_method_12_code 37 = .ok (.aload_n 0, 1) := by decide +kernel
theorem d_Touch_heapSort_38 : decode prog_12_method_12_code 38 = .ok (.getfield 37, 3) := by decide +kernel
theorem d_Touch_heapSort_41 : decode prog_12_method_12_code 41 = .ok (.iconst 0, 1) := by decide +kernel
theorem d_Touch_heapSort_42 : decode prog_12_method_12_code 42 = .ok (.aload_n 0, 1) := by decide +kernel
theorem d_Touch_heapSort_43 : decode prog_12_method_12_code 43 = .ok (.getfield 37, 3) := by decide +kernel
theorem d_Touch_heapSort_46 : decode prog_12_method_12_code 46 = .ok (.iload_n 2, 1) := by decide +kernel
theorem d_Touch_heapSort_47 : decode prog_12_method_12_code 47 = .ok (.iaload, 1) := by decide +kernel
theorem d_Touch_heapSort_48 : decode prog_12_method_12_code 48 = .ok (.iastore, 1) := by decide +kernel
theorem d_Touch_heapSort_49 : decode prog_12_method_12_code 49 = .ok (.aload_n 0, 1) := by decide +kernel
theorem d_Touch_heapSort_50 : decode prog_12_method_12_code 50 = .ok (.getfield 37, 3) := by decide +kernel
theorem d_Touch_heapSort_53 : decode prog_12_method_12_code 53 = .ok (.iload_n 2, 1) := by decide +kernel
theorem d_Touch_heapSort_54 : decode prog_12_method_12_code 54 = .ok (.iload_n 3, 1) := by decide +kernel
theorem d_Touch_heapSort_55 : decode prog_12_method_12_code 55 = .ok (.iastore, 1) := by decide +kernel
theorem d_Touch_heapSort_56 : decode prog_12_method_12_code 56 = .ok (.aload_n 0, 1) := by decide +kernel
theorem d_Touch_heapSort_57 : decode prog_12_method_12_code 57 = .ok (.iconst 0, 1) := by decide +kernel
theorem d_Touch_heapSort_58 : decode prog_12_method_12_code 58 = .ok (.iload_n 2, 1) := by decide +kernel
theorem d_Touch_heapSort_59 : decode prog_12_method_12_code 59 = .ok (.invokevirtual 137, 3) := by decide +kernel
theorem d_Touch_heapSort_62 : decode prog_12_method_12_code 62 = .ok (.iinc 2 (-1), 3) := by decide +kernel
theorem d_Touch_heapSort_65 : decode prog_12_method_12_code 65 = .ok (.goto (-39), 3) := by decide +kernel
theorem d_Touch_heapSort_68 : decode prog_12_method_12_code 68 = .ok (.return_, 1) := by decide +kernel
set_option maxRecDepth 20000 in
theorem jc_Touch_heapSort_26 (N : Nat) : ∀ (n : Nat) (l0 : Option Nat) (l2 : Int32) (h : Hp), J p l e R s m args below meth c prog_12_method_12_code 4 "RingingChamber$Touch" 1 25 none "heapSort" D dA B n0 s0 (QM below args s D dA B n0 s0 vU) 26 [(0, vr l0), (2, vi l2)] [] h (Touch_heapSort_26 N n l0 l2 h) := by
  intro n
  induction n with
  | zero => intros; exact J.none
  | succ n ih =>
    intro l0 l2 h
    rw [Touch_heapSort_26]
    refine j_iload_n d_Touch_heapSort_26 1 rfl rfl ?_
    refine j_if_le (tgt := 68) d_Touch_heapSort_27 (by decide) ?_ ?_
    · exact j_retU d_Touch_heapSort_68
    · refine j_aload_n d_Touch_heapSort_30 0 rfl rfl ?_
      refine j_getR d_Touch_heapSort_31 fl_9_37.r (fun x1 => ?_)
      refine j_iconst (v := 0) d_Touch_heapSort_34 (by decide) ?_
      refine j_iald d_Touch_heapSort_35 (fun x2 => ?_)
      refine j_istore_n (lv' := [(3, vi x2), (0, vr l0), (2, vi l2)]) d_Touch_heapSort_36 rfl (by decide) rfl ?_
      refine j_aload_n d_Touch_heapSort_37 1 rfl rfl ?_
      refine j_getR d_Touch_heapSort_38 fl_9_37.r (fun x3 => ?_)
      refine j_iconst (v := 0) d_Touch_heapSort_41 (by decide) ?_
      refine j_aload_n d_Touch_heapSort_42 1 rfl rfl ?_
      refine j_getR d_Touch_heapSort_43 fl_9_37.r (fun x4 => ?_)
      refine j_iload_n d_Touch_heapSort_46 2 rfl rfl ?_
      refine j_iald d_Touch_heapSort_47 (fun x5 => ?_)
      refine j_iast d_Touch_heapSort_48 (fun h6 => ?_)
      refine j_aload_n d_Touch_heapSort_49 1 rfl rfl ?_
      refine j_getR d_Touch_heapSort_50 fl_9_37.r (fun x7 => ?_)
      refine j_iload_n d_Touch_heapSort_53 2 rfl rfl ?_
      refine j_iload_n d_Touch_heapSort_54 0 rfl rfl ?_
      refine j_iast d_Touch_heapSort_55 (fun h8 => ?_)
      refine j_aload_n d_Touch_heapSort_56 1 rfl rfl ?_
      refine j_iconst (v := 0) d_Touch_heapSort_57 (by decide) ?_
      refine j_iload_n d_Touch_heapSort_58 2 rfl rfl ?_
      refine j_vU2 d_Touch_heapSort_59 (allQ.cons (VD.mk vt_9_137_9 (ct_Touch_sink N l D dA B l0 0 l2 h8) (by decide) (by decide)) allQ.nil) (Nat.le_of_ble_eq_true rfl) (fun _ h9 => ?_)
      refine j_iinc (lvv := fun x10 => [(2, vi x10), (3, vi x2), (0, vr l0)]) d_Touch_heapSort_62 2 rfl rfl (by decide) (fun _ => rfl) (fun x10 => ?_)
      refine j_goto (tgt := 26) d_Touch_heapSort_65 (by decide) ?_
      exact J.sub [2, 0] rfl (ih l0 x10 h9)
set_option maxRecDepth 20000 in
theorem jc_Touch_heapSort_6 (N : Nat) : ∀ (n : Nat) (l0 : Option Nat) (l1 : Int32) (l2 : Int32) (h : Hp), J p l e R s m args below meth c prog_12_method_12_code 4 "RingingChamber$Touch" 1 25 none "heapSort" D dA B n0 s0 (QM below args s D dA B n0 s0 vU) 6 [(0, vr l0), (1, vi l1), (2, vi l2)] [] h (Touch_heapSort_6 N n l0 l1 l2 h) := by
  intro n
  induction n with
  | zero => intros; exact J.none
  | succ n ih =>
    intro l0 l1 l2 h
    rw [Touch_heapSort_6]
    refine j_iload_n d_Touch_heapSort_6 2 rfl rfl ?_
    refine j_if_lt (tgt := 22) d_Touch_heapSort_7 (by decide) ?_ ?_
    · refine j_iload_n d_Touch_heapSort_22 1 rfl rfl ?_
      refine j_iconst (v := 1) d_Touch_heapSort_23 (by decide) ?_
      refine j_isub d_Touch_heapSort_24 ?_
      refine j_nmi (fun x1 => ?_)
      refine j_istore_n (lv' := [(2, vi x1), (0, vr l0), (1, vi l1)]) d_Touch_heapSort_25 rfl (by decide) rfl ?_
      exact J.sub [1, 0] rfl (jc_Touch_heapSort_26 N N l0 x1 h)
    · refine j_aload_n d_Touch_heapSort_10 0 rfl rfl ?_
      refine j_iload_n d_Touch_heapSort_11 2 rfl rfl ?_
      refine j_iload_n d_Touch_heapSort_12 1 rfl rfl ?_
      refine j_vU2 d_Touch_heapSort_13 (allQ.cons (VD.mk vt_9_137_9 (ct_Touch_sink N l D dA B l0 l2 l1 h) (by decide) (by decide)) allQ.nil) (Nat.le_of_ble_eq_true rfl) (fun _ h2 => ?_)
      refine j_iinc (lvv := fun x3 => [(2, vi x3), (0, vr l0), (1, vi l1)]) d_Touch_heapSort_16 2 rfl rfl (by decide) (fun _ => rfl) (fun x3 => ?_)
      refine j_goto (tgt := 6) d_Touch_heapSort_19 (by decide) ?_
      exact J.sub [1, 2, 0] rfl (ih l0 l1 x3 h2)
set_option maxRecDepth 20000 in
theorem jc_Touch_heapSort (N : Nat) (l0 : Option Nat) (l1 : Int32) (h : Hp) : J p l e R s m args below meth c prog_12_method_12_code 4 "RingingChamber$Touch" 1 25 none "heapSort" D dA B n0 s0 (QM below args s D dA B n0 s0 vU) 0 [(0, vr l0), (1, vi l1)] [] h (Touch_heapSort N l0 l1 h) := by
  unfold Touch_heapSort
  refine j_iload_n d_Touch_heapSort_0 1 rfl rfl ?_
  refine j_iconst (v := 2) d_Touch_heapSort_1 (by decide) ?_
  refine j_idiv d_Touch_heapSort_2 ?_
  refine j_iconst (v := 1) d_Touch_heapSort_3 (by decide) ?_
  refine j_isub d_Touch_heapSort_4 ?_
  refine j_nmi (fun x1 => ?_)
  refine j_istore_n (lv' := [(2, vi x1), (0, vr l0), (1, vi l1)]) d_Touch_heapSort_5 rfl (by decide) rfl ?_
  exact J.sub [1, 2, 0] rfl (jc_Touch_heapSort_6 N N l0 l1 x1 h)
set_option maxRecDepth 20000 in
theorem ct_Touch_heapSort (N : Nat) (l : Launch) (D : va_G) (dA : Nat → ClassId) (B : Nat) (l0 : Option Nat) (l1 : Int32) (h : Hp) : Ct l (⟨"RingingChamber$Touch", "heapSort", "(I)V"⟩ : MethodName) prog_12_method_12_code 4 none 1 25 D dA B [vr l0, vi l1] h vU (Touch_heapSort N l0 l1 h) :=
  Ct.of2 (own := "RingingChamber$Touch") (nme := "heapSort") (lv := [(0, vr l0), (1, vi l1)]) rfl rfl (by decide) (Nat.le_of_ble_eq_true rfl) rfl (fun p e R s m args below meth c => jc_Touch_heapSort N l0 l1 h)
theorem d_Touch_orderNumbers_0 : decode prog_12_method_11_code 0 = .ok (.aload_n 0, 1) := by decide +kernel
theorem d_Touch_orderNumbers_1 : decode prog_12_method_11_code 1 = .ok (.invokevirtual 127, 3) := by decide +kernel
theorem d_Touch_orderNumbers_4 : decode prog_12_method_11_code 4 = .ok (.istore_n 1, 1) := by decide +kernel
theorem d_Touch_orderNumbers_5 : decode prog_12_method_11_code 5 = .ok (.aload_n 0, 1) := by decide +kernel
theorem d_Touch_orderNumbers_6 : decode prog_12_method_11_code 6 = .ok (.getfield 89, 3) := by decide +kernel
theorem d_Touch_orderNumbers_9 : decode prog_12_method_11_code 9 = .ok (.aload_n 0, 1) := by decide +kernel
theorem d_Touch_orderNumbers_10 : decode prog_12_method_11_code 10 = .ok (.getfield 26, 3) := by decide +kernel
theorem d_Touch_orderNumbers_13 : decode prog_12_method_11_code 13 = .ok (.getfield 103, 3) := by decide +kernel
theorem d_Touch_orderNumbers_16 : decode prog_12_method_11_code 16 = .ok (.if_icmp .eq 53, 3) := by decide +kernel
theorem d_Touch_orderNumbers_19 : decode prog_12_method_11_code 19 = .ok (.iconst 0, 1) := by decide +kernel
theorem d_Touch_orderNumbers_20 : decode prog_12_method_11_code 20 = .ok (.istore_n 2, 1) := by decide +kernel
theorem d_Touch_orderNumbers_21 : decode prog_12_method_11_code 21 = .ok (.iload_n 2, 1) := by decide +kernel
theorem d_Touch_orderNumbers_22 : decode prog_12_method_11_code 22 = .ok (.iload_n 1, 1) := by decide +kernel
theorem d_Touch_orderNumbers_23 : decode prog_12_method_11_code 23 = .ok (.if_icmp .ge 30, 3) := by decide +kernel
theorem d_Touch_orderNumbers_26 : decode prog_12_method_11_code 26 = .ok (.aload_n 0, 1) := by decide +kernel
theorem d_Touch_orderNumbers_27 : decode prog_12_method_11_code 27 = .ok (.getfield 37, 3) := by decide +kernel
theorem d_Touch_orderNumbers_30 : decode prog_12_method_11_code 30 = .ok (.iload_n 2, 1) := by decide +kernel
theorem d_Touch_orderNumbers_31 : decode prog_12_method_11_code 31 = .ok (.aload_n 0, 1) := by decide +kernel
theorem d_Touch_orderNumbers_32 : decode prog_12_method_11_code 32 = .ok (.getfield 26, 3) := by decide +kernel
theorem d_Touch_orderNumbers_35 : decode prog_12_method_11_code 35 = .ok (.iload_n 2, 1) := by decide +kernel
theorem d_Touch_orderNumbers_36 : decode prog_12_method_11_code 36 = .ok (.invokevirtual 104, 3) := by decide +kernel
theorem d_Touch_orderNumbers_39 : decode prog_12_method_11_code 39 = .ok (.aload_n 0, 1) := by decide +kernel
theorem d_Touch_orderNumbers_40 : decode prog_12_method_11_code 40 = .ok (.getfield 43, 3) := by decide +kernel
theorem d_Touch_orderNumbers_43 : decode prog_12_method_11_code 43 = .ok (.invokestatic 130, 3) := by decide +kernel
theorem d_Touch_orderNumbers_46 : decode prog_12_method_11_code 46 = .ok (.iastore, 1) := by decide +kernel
theorem d_Touch_orderNumbers_47 : decode prog_12_method_11_code 47 = .ok (.iinc 2 1, 3) := by decide +kernel
theorem d_Touch_orderNumbers_50 : decode prog_12_method_11_code 50 = .ok (.goto (-29), 3) := by decide +kernel
theorem d_Touch_orderNumbers_53 : decode prog_12_method_11_code 53 = .ok (.aload_n 0, 1) := by decide +kernel
theorem d_Touch_orderNumbers_54 : decode prog_12_method_11_code 54 = .ok (.iload_n 1, 1) := by decide +kernel
theorem d_Touch_orderNumbers_55 : decode prog_12_method_11_code 55 = .ok (.invokevirtual 134, 3) := by decide +kernel
theorem d_Touch_orderNumbers_58 : decode prog_12_method_11_code 58 = .ok (.aload_n 0, 1) := by decide +kernel
theorem d_Touch_orderNumbers_59 : decode prog_12_method_11_code 59 = .ok (.aload_n 0, 1) := by decide +kernel
theorem d_Touch_orderNumbers_60 : decode prog_12_method_11_code 60 = .ok (.getfield 26, 3) := by decide +kernel
theorem d_Touch_orderNumbers_63 : decode prog_12_method_11_code 63 = .ok (.getfield 103, 3) := by decide +kernel
theorem d_Touch_orderNumbers_66 : decode prog_12_method_11_code 66 = .ok (.putfield 89, 3) := by decide +kernel
theorem d_Touch_orderNumbers_69 : decode prog_12_method_11_code 69 = .ok (.iload_n 1, 1) := by decide +kernel
theorem d_Touch_orderNumbers_70 : decode prog_12_method_11_code 70 = .ok (.ireturn, 1) := by decide +kernel
set_option maxRecDepth 20000 in
theorem jc_Touch_orderNumbers_21 (N : Nat) : ∀ (n : Nat) (l0 : Option Nat) (l1 : Int32) (l2 : Int32) (h : Hp), J p l e R s m args below meth c prog_12_method_11_code 3 "RingingChamber$Touch" 2 48 (some .int) "orderNumbers" D dA B n0 s0 (QM below args s D dA B n0 s0 vI) 21 [(0, vr l0), (1, vi l1), (2, vi l2)] [] h (Touch_orderNumbers_21 N n l0 l1 l2 h) := by
  intro n
  induction n with
  | zero => intros; exact J.none
  | succ n ih =>
    intro l0 l1 l2 h
    rw [Touch_orderNumbers_21]
    refine j_iload_n d_Touch_orderNumbers_21 2 rfl rfl ?_
    refine j_iload_n d_Touch_orderNumbers_22 1 rfl rfl ?_
    refine j_icmp_ge (tgt := 53) d_Touch_orderNumbers_23 (by decide) ?_ ?_
    · refine j_aload_n d_Touch_orderNumbers_53 0 rfl rfl ?_
      refine j_iload_n d_Touch_orderNumbers_54 1 rfl rfl ?_
      refine j_vU1 d_Touch_orderNumbers_55 (allQ.cons (VD.mk vt_9_134_9 (ct_Touch_heapSort N l D dA B l0 l1 h) (by decide) (by decide)) allQ.nil) (Nat.le_of_ble_eq_true rfl) (fun _ h1 => ?_)
      refine j_aload_n d_Touch_orderNumbers_58 0 rfl rfl ?_
      refine j_aload_n d_Touch_orderNumbers_59 0 rfl rfl ?_
      refine j_getR d_Touch_orderNumbers_60 fl_9_26.r (fun x2 => ?_)
      refine j_getI d_Touch_orderNumbers_63 fl_9_103.r (fun x3 => ?_)
      refine j_putI d_Touch_orderNumbers_66 fl_9_89 (Or.inl rfl) (fun h4 => ?_)
      refine j_iload_n d_Touch_orderNumbers_69 1 rfl rfl ?_
      exact j_retI d_Touch_orderNumbers_70
    · refine j_aload_n d_Touch_orderNumbers_26 0 rfl rfl ?_
      refine j_getR d_Touch_orderNumbers_27 fl_9_37.r (fun x5 => ?_)
      refine j_iload_n d_Touch_orderNumbers_30 2 rfl rfl ?_
      refine j_aload_n d_Touch_orderNumbers_31 0 rfl rfl ?_
      refine j_getR d_Touch_orderNumbers_32 fl_9_26.r (fun x6 => ?_)
      refine j_iload_n d_Touch_orderNumbers_35 2 rfl rfl ?_
      refine j_vL1 d_Touch_orderNumbers_36 (allQ.cons (VD.mk vt_9_104_4 (ct_Rows_codeAt N l D dA B x6 l2 h) (by decide) (by decide)) allQ.nil) (Nat.le_of_ble_eq_true rfl) (fun x8 h7 => ?_)
      refine j_aload_n d_Touch_orderNumbers_39 0 rfl rfl ?_
      refine j_getI d_Touch_orderNumbers_40 fl_9_43.r (fun x9 => ?_)
      refine j_cSI2 d_Touch_orderNumbers_43 sl_9_130 ks_Rows_numberOf (ct_Rows_numberOf N l D dA B x8 x9 h7) (by decide) (by decide) (Nat.le_of_ble_eq_true rfl) (fun x11 h10 => ?_)
      refine j_iast d_Touch_orderNumbers_46 (fun h12 => ?_)
      refine j_iinc (lvv := fun x13 => [(2, vi x13), (0, vr l0), (1, vi l1)]) d_Touch_orderNumbers_47 2 rfl rfl (by decide) (fun _ => rfl) (fun x13 => ?_)
      refine j_goto (tgt := 21) d_Touch_orderNumbers_50 (by decide) ?_
      exact J.sub [1, 2, 0] rfl (ih l0 l1 x13 h12)
set_option maxRecDepth 20000 in
theorem jc_Touch_orderNumbers (N : Nat) (l0 : Option Nat) (h : Hp) : J p l e R s m args below meth c prog_12_method_11_code 3 "RingingChamber$Touch" 2 48 (some .int) "orderNumbers" D dA B n0 s0 (QM below args s D dA B n0 s0 vI) 0 [(0, vr l0)] [] h (Touch_orderNumbers N l0 h) := by
  unfold Touch_orderNumbers
  refine j_aload_n d_Touch_orderNumbers_0 0 rfl rfl ?_
  refine j_vI0 d_Touch_orderNumbers_1 (allQ.cons (VD.mk vt_9_127_9 (ct_Touch_provableRows N l D dA B l0 h) (by decide) (by decide)) allQ.nil) (Nat.le_of_ble_eq_true rfl) (fun x2 h1 => ?_)
  refine j_istore_n (lv' := [(1, vi x2), (0, vr l0)]) d_Touch_orderNumbers_4 rfl (by decide) rfl ?_
  refine j_aload_n d_Touch_orderNumbers_5 1 rfl rfl ?_
  refine j_getI d_Touch_orderNumbers_6 fl_9_89.r (fun x3 => ?_)
  refine j_aload_n d_Touch_orderNumbers_9 1 rfl rfl ?_
  refine j_getR d_Touch_orderNumbers_10 fl_9_26.r (fun x4 => ?_)
  refine j_getI d_Touch_orderNumbers_13 fl_9_103.r (fun x5 => ?_)
  refine j_icmp_eq (tgt := 69) d_Touch_orderNumbers_16 (by decide) ?_ ?_
  · refine j_iload_n d_Touch_orderNumbers_69 0 rfl rfl ?_
    exact j_retI d_Touch_orderNumbers_70
  · refine j_iconst (v := 0) d_Touch_orderNumbers_19 (by decide) ?_
    refine j_istore_n (lv' := [(2, vi 0), (1, vi x2), (0, vr l0)]) d_Touch_orderNumbers_20 rfl (by decide) rfl ?_
    exact J.sub [2, 1, 0] rfl (jc_Touch_orderNumbers_21 N N l0 x2 0 h1)
set_option maxRecDepth 20000 in
theorem ct_Touch_orderNumbers (N : Nat) (l : Launch) (D : va_G) (dA : Nat → ClassId) (B : Nat) (l0 : Option Nat) (h : Hp) : Ct l (⟨"RingingChamber$Touch", "orderNumbers", "()I"⟩ : MethodName) prog_12_method_11_code 3 (some .int) 2 48 D dA B [vr l0] h vI (Touch_orderNumbers N l0 h) :=
  Ct.of2 (own := "RingingChamber$Touch") (nme := "orderNumbers") (lv := [(0, vr l0)]) rfl rfl (by decide) (Nat.le_of_ble_eq_true rfl) rfl (fun p e R s m args below meth c => jc_Touch_orderNumbers N l0 h)
theorem d_Touch_makeProof_0 : decode prog_12_method_8_code 0 = .ok (.aload_n 0, 1) := by decide +kernel
theorem d_Touch_makeProof_1 : decode prog_12_method_8_code 1 = .ok (.getfield 86, 3) := by decide +kernel
theorem d_Touch_makeProof_4 : decode prog_12_method_8_code 4 = .ok (.ifCond .lt 5, 3) := by decide +kernel
theorem d_Touch_makeProof_7 : decode prog_12_method_8_code 7 = .ok (.iconst (-1), 1) := by decide +kernel
theorem d_Touch_makeProof_8 : decode prog_12_method_8_code 8 = .ok (.ireturn, 1) := by decide +kernel
theorem d_Touch_makeProof_9 : decode prog_12_method_8_code 9 = .ok (.aload_n 0, 1) := by decide +kernel
theorem d_Touch_makeProof_10 : decode prog_12_method_8_code 10 = .ok (.aload_n 0, 1) := by decide +kernel
theorem d_Touch_makeProof_11 : decode prog_12_method_8_code 11 = .ok (.invokevirtual 118, 3) := by decide +kernel
theorem d_Touch_makeProof_14 : decode prog_12_method_8_code 14 = .ok (.putfield 57, 3) := by decide +kernel
theorem d_Touch_makeProof_17 : decode prog_12_method_8_code 17 = .ok (.aload_n 0, 1) := by decide +kernel
theorem d_Touch_makeProof_18 : decode prog_12_method_8_code 18 = .ok (.getfield 37, 3) := by decide +kernel
theorem d_Touch_makeProof_21 : decode prog_12_method_8_code 21 = .ok (.iconst 0, 1) := by decide +kernel
theorem d_Touch_makeProof_22 : decode prog_12_method_8_code 22 = .ok (.aload_n 0, 1) := by decide +kernel
theorem d_Touch_makeProof_23 : decode prog_12_method_8_code 23 = .ok (.getfield 40, 3) := by decide +kernel
theorem d_Touch_makeProof_26 : decode prog_12_method_8_code 26 = .ok (.iconst 0, 1) := by decide +kernel
theorem d_Touch_makeProof_27 : decode prog_12_method_8_code 27 = .ok (.aload_n 0, 1) := by decide +kernel
theorem d_Touch_makeProof_28 : decode prog_12_method_8_code 28 = .ok (.getfield 57, 3) := by decide +kernel
theorem d_Touch_makeProof_31 : decode prog_12_method_8_code 31 = .ok (.invokestatic 121, 3) := by decide +kernel
theorem d_Touch_makeProof_34 : decode prog_12_method_8_code 34 = .ok (.aload_n 0, 1) := by decide +kernel
theorem d_Touch_makeProof_35 : decode prog_12_method_8_code 35 = .ok (.getfield 57, 3) := by decide +kernel
theorem d_Touch_makeProof_38 : decode prog_12_method_8_code 38 = .ok (.ireturn, 1) := by decide +kernel
set_option maxRecDepth 20000 in
theorem jc_Touch_makeProof (N : Nat) (l0 : Option Nat) (h : Hp) : J p l e R s m args below meth c prog_12_method_8_code 1 "RingingChamber$Touch" 3 70 (some .int) "makeProof" D dA B n0 s0 (QM below args s D dA B n0 s0 vI) 0 [(0, vr l0)] [] h (Touch_makeProof N l0 h) := by
  unfold Touch_makeProof
  refine j_aload_n d_Touch_makeProof_0 0 rfl rfl ?_
  refine j_getI d_Touch_makeProof_1 fl_9_86.r (fun x1 => ?_)
  refine j_if_lt (tgt := 9) d_Touch_makeProof_4 (by decide) ?_ ?_
  · refine j_aload_n d_Touch_makeProof_9 0 rfl rfl ?_
    refine j_aload_n d_Touch_makeProof_10 0 rfl rfl ?_
    refine j_vI0 d_Touch_makeProof_11 (allQ.cons (VD.mk vt_9_118_9 (ct_Touch_orderNumbers N l D dA B l0 h) (by decide) (by decide)) allQ.nil) (Nat.le_of_ble_eq_true rfl) (fun x3 h2 => ?_)
    refine j_putI d_Touch_makeProof_14 fl_9_57 (Or.inl rfl) (fun h4 => ?_)
    refine j_aload_n d_Touch_makeProof_17 0 rfl rfl ?_
    refine j_getR d_Touch_makeProof_18 fl_9_37.r (fun x5 => ?_)
    refine j_iconst (v := 0) d_Touch_makeProof_21 (by decide) ?_
    refine j_aload_n d_Touch_makeProof_22 0 rfl rfl ?_
    refine j_getR d_Touch_makeProof_23 fl_9_40.r (fun x6 => ?_)
    refine j_iconst (v := 0) d_Touch_makeProof_26 (by decide) ?_
    refine j_aload_n d_Touch_makeProof_27 0 rfl rfl ?_
    refine j_getI d_Touch_makeProof_28 fl_9_57.r (fun x7 => ?_)
    refine j_ac d_Touch_makeProof_31 kx_9_121 kx_n kx_s kx_y (by decide) (by decide) (Nat.le_of_ble_eq_true rfl) (fun h8 => ?_)
    refine j_aload_n d_Touch_makeProof_34 0 rfl rfl ?_
    refine j_getI d_Touch_makeProof_35 fl_9_57.r (fun x9 => ?_)
    exact j_retI d_Touch_makeProof_38
  · refine j_iconst (v := -1) d_Touch_makeProof_7 (by decide) ?_
    exact j_retI d_Touch_makeProof_8
set_option maxRecDepth 20000 in
theorem ct_Touch_makeProof (N : Nat) (l : Launch) (D : va_G) (dA : Nat → ClassId) (B : Nat) (l0 : Option Nat) (h : Hp) : Ct l (⟨"RingingChamber$Touch", "makeProof", "()I"⟩ : MethodName) prog_12_method_8_code 1 (some .int) 3 70 D dA B [vr l0] h vI (Touch_makeProof N l0 h) :=
  Ct.of2 (own := "RingingChamber$Touch") (nme := "makeProof") (lv := [(0, vr l0)]) rfl rfl (by decide) (Nat.le_of_ble_eq_true rfl) rfl (fun p e R s m args below meth c => jc_Touch_makeProof N l0 h)
theorem d_Touch_isProven_0 : decode prog_12_method_9_code 0 = .ok (.aload_n 0, 1) := by decide +kernel
theorem d_Touch_isProven_1 : decode prog_12_method_9_code 1 = .ok (.getfield 86, 3) := by decide +kernel
theorem d_Touch_isProven_4 : decode prog_12_method_9_code 4 = .ok (.ifCond .ge 14, 3) := by decide +kernel
theorem d_Touch_isProven_7 : decode prog_12_method_9_code 7 = .ok (.aload_n 0, 1) := by decide +kernel
theorem d_Touch_isProven_8 : decode prog_12_method_9_code 8 = .ok (.getfield 57, 3) := by decide +kernel
theorem d_Touch_isProven_11 : decode prog_12_method_9_code 11 = .ok (.aload_n 0, 1) := by decide +kernel
theorem d_Touch_isProven_12 : decode prog_12_method_9_code 12 = .ok (.invokevirtual 127, 3) := by decide +kernel
theorem d_Touch_isProven_15 : decode prog_12_method_9_code 15 = .ok (.if_icmp .eq 5, 3) := by decide +kernel
theorem d_Touch_isProven_18 : decode prog_12_method_9_code 18 = .ok (.iconst 0, 1) := by decide +kernel
theorem d_Touch_isProven_19 : decode prog_12_method_9_code 19 = .ok (.ireturn, 1) := by decide +kernel
theorem d_Touch_isProven_20 : decode prog_12_method_9_code 20 = .ok (.aload_n 0, 1) := by decide +kernel
theorem d_Touch_isProven_21 : decode prog_12_method_9_code 21 = .ok (.invokevirtual 118, 3) := by decide +kernel
theorem d_Touch_isProven_24 : decode prog_12_method_9_code 24 = .ok (.pop, 1) := by decide +kernel
theorem d_Touch_isProven_25 : decode prog_12_method_9_code 25 = .ok (.iconst 0, 1) := by decide +kernel
theorem d_Touch_isProven_26 : decode prog_12_method_9_code 26 = .ok (.istore_n 1, 1) := by decide +kernel
theorem d_Touch_isProven_27 : decode prog_12_method_9_code 27 = .ok (.iload_n 1, 1) := by decide +kernel
theorem d_Touch_isProven_28 : decode prog_12_method_9_code 28 = .ok (.aload_n 0, 1) := by decide +kernel
theorem d_Touch_isProven_29 : decode prog_12_method_9_code 29 = .ok (.getfield 57, 3) := by decide +kernel
theorem d_Touch_isProven_32 : decode prog_12_method_9_code 32 = .ok (.if_icmp .ge 26, 3) := by decide +kernel
theorem d_Touch_isProven_35 : decode prog_12_method_9_code 35 = .ok (.aload_n 0, 1) := by decide +kernel
theorem d_Touch_isProven_36 : decode prog_12_method_9_code 36 = .ok (.getfield 40, 3) := by decide +kernel
theorem d_Touch_isProven_39 : decode prog_12_method_9_code 39 = .ok (.iload_n 1, 1) := by decide +kernel
theorem d_Touch_isProven_40 : decode prog_12_method_9_code 40 = .ok (.iaload, 1) := by decide +kernel
theorem d_Touch_isProven_41 : decode prog_12_method_9_code 41 = .ok (.aload_n 0, 1) := by decide +kernel
theorem d_Touch_isProven_42 : decode prog_12_method_9_code 42 = .ok (.getfield 37, 3) := by decide +kernel
theorem d_Touch_isProven_45 : decode prog_12_method_9_code 45 = .ok (.iload_n 1, 1) := by decide +kernel
theorem d_Touch_isProven_46 : decode prog_12_method_9_code 46 = .ok (.iaload, 1) := by decide +kernel
theorem d_Touch_isProven_47 : decode prog_12_method_9_code 47 = .ok (.if_icmp .eq 5, 3) := by decide +kernel
theorem d_Touch_isProven_50 : decode prog_12_method_9_code 50 = .ok (.iconst 0, 1) := by decide +kernel
theorem d_Touch_isProven_51 : decode prog_12_method_9_code 51 = .ok (.ireturn, 1) := by decide +kernel
theorem d_Touch_isProven_52 : decode prog_12_method_9_code 52 = .ok (.iinc 1 1, 3) := by decide +kernel
theorem d_Touch_isProven_55 : decode prog_12_method_9_code 55 = .ok (.goto (-28), 3) := by decide +kernel
theorem d_Touch_isProven_58 : decode prog_12_method_9_code 58 = .ok (.iconst 1, 1) := by decide +kernel
theorem d_Touch_isProven_59 : decode prog_12_method_9_code 59 = .ok (.ireturn, 1) := by decide +kernel
set_option maxRecDepth 20000 in
theorem jc_Touch_isProven_27 (N : Nat) : ∀ (n : Nat) (l0 : Option Nat) (l1 : Int32) (h : Hp), J p l e R s m args below meth c prog_12_method_9_code 2 "RingingChamber$Touch" 3 70 (some .boolean) "isProven" D dA B n0 s0 (QM below args s D dA B n0 s0 vI) 27 [(0, vr l0), (1, vi l1)] [] h (Touch_isProven_27 N n l0 l1 h) := by
  intro n
  induction n with
  | zero => intros; exact J.none
  | succ n ih =>
    intro l0 l1 h
    rw [Touch_isProven_27]
    refine j_iload_n d_Touch_isProven_27 1 rfl rfl ?_
    refine j_aload_n d_Touch_isProven_28 0 rfl rfl ?_
    refine j_getI d_Touch_isProven_29 fl_9_57.r (fun x1 => ?_)
    refine j_icmp_ge (tgt := 58) d_Touch_isProven_32 (by decide) ?_ ?_
    · refine j_iconst (v := 1) d_Touch_isProven_58 (by decide) ?_
      exact j_retZ d_Touch_isProven_59
    · refine j_aload_n d_Touch_isProven_35 0 rfl rfl ?_
      refine j_getR d_Touch_isProven_36 fl_9_40.r (fun x2 => ?_)
      refine j_iload_n d_Touch_isProven_39 1 rfl rfl ?_
      refine j_iald d_Touch_isProven_40 (fun x3 => ?_)
      refine j_aload_n d_Touch_isProven_41 0 rfl rfl ?_
      refine j_getR d_Touch_isProven_42 fl_9_37.r (fun x4 => ?_)
      refine j_iload_n d_Touch_isProven_45 1 rfl rfl ?_
      refine j_iald d_Touch_isProven_46 (fun x5 => ?_)
      refine j_icmp_eq (tgt := 52) d_Touch_isProven_47 (by decide) ?_ ?_
      · refine j_iinc (lvv := fun x6 => [(1, vi x6), (0, vr l0)]) d_Touch_isProven_52 1 rfl rfl (by decide) (fun _ => rfl) (fun x6 => ?_)
        refine j_goto (tgt := 27) d_Touch_isProven_55 (by decide) ?_
        exact J.sub [1, 0] rfl (ih l0 x6 h)
      · refine j_iconst (v := 0) d_Touch_isProven_50 (by decide) ?_
        exact j_retZ d_Touch_isProven_51
set_option maxRecDepth 20000 in
theorem jc_Touch_isProven (N : Nat) (l0 : Option Nat) (h : Hp) : J p l e R s m args below meth c prog_12_method_9_code 2 "RingingChamber$Touch" 3 70 (some .boolean) "isProven" D dA B n0 s0 (QM below args s D dA B n0 s0 vI) 0 [(0, vr l0)] [] h (Touch_isProven N l0 h) := by
  unfold Touch_isProven
  refine j_aload_n d_Touch_isProven_0 0 rfl rfl ?_
  refine j_getI d_Touch_isProven_1 fl_9_86.r (fun x1 => ?_)
  refine j_if_ge (tgt := 18) d_Touch_isProven_4 (by decide) ?_ ?_
  · refine j_iconst (v := 0) d_Touch_isProven_18 (by decide) ?_
    exact j_retZ d_Touch_isProven_19
  · refine j_aload_n d_Touch_isProven_7 0 rfl rfl ?_
    refine j_getI d_Touch_isProven_8 fl_9_57.r (fun x2 => ?_)
    refine j_aload_n d_Touch_isProven_11 0 rfl rfl ?_
    refine j_vI0 d_Touch_isProven_12 (allQ.cons (VD.mk vt_9_127_9 (ct_Touch_provableRows N l D dA B l0 h) (by decide) (by decide)) allQ.nil) (Nat.le_of_ble_eq_true rfl) (fun x4 h3 => ?_)
    refine j_icmp_eq (tgt := 20) d_Touch_isProven_15 (by decide) ?_ ?_
    · refine j_aload_n d_Touch_isProven_20 0 rfl rfl ?_
      refine j_vI0 d_Touch_isProven_21 (allQ.cons (VD.mk vt_9_118_9 (ct_Touch_orderNumbers N l D dA B l0 h3) (by decide) (by decide)) allQ.nil) (Nat.le_of_ble_eq_true rfl) (fun x6 h5 => ?_)
      refine j_pop d_Touch_isProven_24 rfl ?_
      refine j_iconst (v := 0) d_Touch_isProven_25 (by decide) ?_
      refine j_istore_n (lv' := [(1, vi 0), (0, vr l0)]) d_Touch_isProven_26 rfl (by decide) rfl ?_
      exact J.sub [1, 0] rfl (jc_Touch_isProven_27 N N l0 0 h5)
    · refine j_iconst (v := 0) d_Touch_isProven_18 (by decide) ?_
      exact j_retZ d_Touch_isProven_19
set_option maxRecDepth 20000 in
theorem ct_Touch_isProven (N : Nat) (l : Launch) (D : va_G) (dA : Nat → ClassId) (B : Nat) (l0 : Option Nat) (h : Hp) : Ct l (⟨"RingingChamber$Touch", "isProven", "()Z"⟩ : MethodName) prog_12_method_9_code 2 (some .boolean) 3 70 D dA B [vr l0] h vI (Touch_isProven N l0 h) :=
  Ct.of2 (own := "RingingChamber$Touch") (nme := "isProven") (lv := [(0, vr l0)]) rfl rfl (by decide) (Nat.le_of_ble_eq_true rfl) rfl (fun p e R s m args below meth c => jc_Touch_isProven N l0 h)
theorem d_C_init_0 : decode prog_1_method_1_code 0 = .ok (.aload_n 0, 1) := by decide +kernel
theorem d_C_init_1 : decode prog_1_method_1_code 1 = .ok (.invokespecial 1, 3) := by decide +kernel
theorem d_C_init_4 : decode prog_1_method_1_code 4 = .ok (.aload_n 0, 1) := by decide +kernel
theorem d_C_init_5 : decode prog_1_method_1_code 5 = .ok (.new 7, 3) := by decide +kernel
theorem d_C_init_8 : decode prog_1_method_1_code 8 = .ok (.dup, 1) := by decide +kernel
theorem d_C_init_9 : decode prog_1_method_1_code 9 = .ok (.invokespecial 9, 3) := by decide +kernel
theorem d_C_init_12 : decode prog_1_method_1_code 12 = .ok (.putfield 10, 3) := by decide +kernel
theorem d_C_init_15 : decode prog_1_method_1_code 15 = .ok (.aload_n 0, 1) := by decide +kernel
theorem d_C_init_16 : decode prog_1_method_1_code 16 = .ok (.bipush 18, 2) := by decide +kernel
theorem d_C_init_18 : decode prog_1_method_1_code 18 = .ok (.newarray .int, 2) := by decide +kernel
theorem d_C_init_20 : decode prog_1_method_1_code 20 = .ok (.putfield 16, 3) := by decide +kernel
theorem d_C_init_23 : decode prog_1_method_1_code 23 = .ok (.aload_n 0, 1) := by decide +kernel
theorem d_C_init_24 : decode prog_1_method_1_code 24 = .ok (.bipush 30, 2) := by decide +kernel
theorem d_C_init_26 : decode prog_1_method_1_code 26 = .ok (.anewarray 20, 3) := by decide +kernel
theorem d_C_init_29 : decode prog_1_method_1_code 29 = .ok (.putfield 22, 3) := by decide +kernel
theorem d_C_init_32 : decode prog_1_method_1_code 32 = .ok (.aload_n 0, 1) := by decide +kernel
theorem d_C_init_33 : decode prog_1_method_1_code 33 = .ok (.bipush 6, 2) := by decide +kernel
theorem d_C_init_35 : decode prog_1_method_1_code 35 = .ok (.putfield 26, 3) := by decide +kernel
theorem d_C_init_38 : decode prog_1_method_1_code 38 = .ok (.aload_n 0, 1) := by decide +kernel
theorem d_C_init_39 : decode prog_1_method_1_code 39 = .ok (.bipush 63, 2) := by decide +kernel
theorem d_C_init_41 : decode prog_1_method_1_code 41 = .ok (.putfield 30, 3) := by decide +kernel
theorem d_C_init_44 : decode prog_1_method_1_code 44 = .ok (.aload_n 0, 1) := by decide +kernel
theorem d_C_init_45 : decode prog_1_method_1_code 45 = .ok (.new 33, 3) := by decide +kernel
theorem d_C_init_48 : decode prog_1_method_1_code 48 = .ok (.dup, 1) := by decide +kernel
theorem d_C_init_49 : decode prog_1_method_1_code 49 = .ok (.invokespecial 35, 3) := by decide +kernel
theorem d_C_init_52 : decode prog_1_method_1_code 52 = .ok (.putfield 36, 3) := by decide +kernel
theorem d_C_init_55 : decode prog_1_method_1_code 55 = .ok (.aload_n 0, 1) := by decide +kernel
theorem d_C_init_56 : decode prog_1_method_1_code 56 = .ok (.new 40, 3) := by decide +kernel
theorem d_C_init_59 : decode prog_1_method_1_code 59 = .ok (.dup, 1) := by decide +kernel
theorem d_C_init_60 : decode prog_1_method_1_code 60 = .ok (.invokespecial 42, 3) := by decide +kernel
theorem d_C_init_63 : decode prog_1_method_1_code 63 = .ok (.putfield 43, 3) := by decide +kernel
theorem d_C_init_66 : decode prog_1_method_1_code 66 = .ok (.aload_n 0, 1) := by decide +kernel
theorem d_C_init_67 : decode prog_1_method_1_code 67 = .ok (.new 47, 3) := by decide +kernel
theorem d_C_init_70 : decode prog_1_method_1_code 70 = .ok (.dup, 1) := by decide +kernel
theorem d_C_init_71 : decode prog_1_method_1_code 71 = .ok (.invokespecial 49, 3) := by decide +kernel
theorem d_C_init_74 : decode prog_1_method_1_code 74 = .ok (.putfield 50, 3) := by decide +kernel
theorem d_C_init_77 : decode prog_1_method_1_code 77 = .ok (.aload_n 0, 1) := by decide +kernel
theorem d_C_init_78 : decode prog_1_method_1_code 78 = .ok (.new 54, 3) := by decide +kernel
theorem d_C_init_81 : decode prog_1_method_1_code 81 = .ok (.dup, 1) := by decide +kernel
theorem d_C_init_82 : decode prog_1_method_1_code 82 = .ok (.bipush 100, 2) := by decide +kernel
theorem d_C_init_84 : decode prog_1_method_1_code 84 = .ok (.invokespecial 56, 3) := by decide +kernel
theorem d_C_init_87 : decode prog_1_method_1_code 87 = .ok (.putfield 59, 3) := by decide +kernel
theorem d_C_init_90 : decode prog_1_method_1_code 90 = .ok (.aload_n 0, 1) := by decide +kernel
theorem d_C_init_91 : decode prog_1_method_1_code 91 = .ok (.getfield 36, 3) := by decide +kernel
theorem d_C_init_94 : decode prog_1_method_1_code 94 = .ok (.bipush 6, 2) := by decide +kernel
theorem d_C_init_96 : decode prog_1_method_1_code 96 = .ok (.invokevirtual 63, 3) := by decide +kernel
theorem d_C_init_99 : decode prog_1_method_1_code 99 = .ok (.return_, 1) := by decide +kernel
set_option maxRecDepth 20000 in
theorem jc_C_init (N : Nat) (l0 : Option Nat) (h : Hp) : J p l e R s m args below meth c prog_1_method_1_code 1 "RingingChamber" 4 85 none "<init>" D dA B n0 s0 (QM below args s D dA B n0 s0 vU) 0 [(0, vr l0)] [] h (C_init N l0 h) := by
  unfold C_init
  refine j_aload_n d_C_init_0 0 rfl rfl ?_
  refine j_obj d_C_init_1 ko_11_1 ko_i ko_c (by decide) (by decide) (Nat.le_of_ble_eq_true rfl) ?_
  refine j_aload_n d_C_init_4 0 rfl rfl ?_
  refine j_new d_C_init_5 nl_11_7 (fun x1 h2 => ?_)
  refine j_dup d_C_init_8 rfl ?_
  refine j_i0 d_C_init_9 sl_11_9 ki_Tape_init (ct_Tape_init N l D dA B x1 h2) (by decide) (by decide) (Nat.le_of_ble_eq_true rfl) (fun _ h3 => ?_)
  refine j_putR d_C_init_12 fl_11_10 (Or.inr rfl) (Or.inl ⟨_, rfl⟩) (fun h4 => ?_)
  refine j_aload_n d_C_init_15 0 rfl rfl ?_
  refine j_bipush (v := 18) d_C_init_16 (by decide) ?_
  refine j_newa13 d_C_init_18 ka_int (fun x5 h6 => ?_)
  refine j_putR d_C_init_20 fl_11_16 (Or.inr rfl) (Or.inr ⟨_, rfl⟩) (fun h7 => ?_)
  refine j_aload_n d_C_init_23 0 rfl rfl ?_
  refine j_bipush (v := 30) d_C_init_24 (by decide) ?_
  refine j_newa18 d_C_init_26 kl_11_20 (fun x8 h9 => ?_)
  refine j_putR d_C_init_29 fl_11_22 (Or.inr rfl) (Or.inr ⟨_, rfl⟩) (fun h10 => ?_)
  refine j_aload_n d_C_init_32 0 rfl rfl ?_
  refine j_bipush (v := 6) d_C_init_33 (by decide) ?_
  refine j_putI d_C_init_35 fl_11_26 (Or.inl rfl) (fun h11 => ?_)
  refine j_aload_n d_C_init_38 0 rfl rfl ?_
  refine j_bipush (v := 63) d_C_init_39 (by decide) ?_
  refine j_putI d_C_init_41 fl_11_30 (Or.inl rfl) (fun h12 => ?_)
  refine j_aload_n d_C_init_44 0 rfl rfl ?_
  refine j_new d_C_init_45 nl_11_33 (fun x13 h14 => ?_)
  refine j_dup d_C_init_48 rfl ?_
  refine j_i0 d_C_init_49 sl_11_35 ki_Touch_init (ct_Touch_init N l D dA B x13 h14) (by decide) (by decide) (Nat.le_of_ble_eq_true rfl) (fun _ h15 => ?_)
  refine j_putR d_C_init_52 fl_11_36 (Or.inr rfl) (Or.inl ⟨_, rfl⟩) (fun h16 => ?_)
  refine j_aload_n d_C_init_55 0 rfl rfl ?_
  refine j_new d_C_init_56 nl_11_40 (fun x17 h18 => ?_)
  refine j_dup d_C_init_59 rfl ?_
  refine j_i0 d_C_init_60 sl_11_42 ki_Search_init (ct_Search_init N l D dA B x17 h18) (by decide) (by decide) (Nat.le_of_ble_eq_true rfl) (fun _ h19 => ?_)
  refine j_putR d_C_init_63 fl_11_43 (Or.inr rfl) (Or.inl ⟨_, rfl⟩) (fun h20 => ?_)
  refine j_aload_n d_C_init_66 0 rfl rfl ?_
  refine j_new d_C_init_67 nl_11_47 (fun x21 h22 => ?_)
  refine j_dup d_C_init_70 rfl ?_
  refine j_i0 d_C_init_71 sl_11_49 ki_Lead_init (ct_Lead_init N l D dA B x21 h22) (by decide) (by decide) (Nat.le_of_ble_eq_true rfl) (fun _ h23 => ?_)
  refine j_putR d_C_init_74 fl_11_50 (Or.inr rfl) (Or.inl ⟨_, rfl⟩) (fun h24 => ?_)
  refine j_aload_n d_C_init_77 0 rfl rfl ?_
  refine j_new d_C_init_78 nl_11_54 (fun x25 h26 => ?_)
  refine j_dup d_C_init_81 rfl ?_
  refine j_bipush (v := 100) d_C_init_82 (by decide) ?_
  refine j_i1 d_C_init_84 sl_11_56 ki_Rows_init (ct_Rows_init N l D dA B x25 100 h26) (by decide) (by decide) (Nat.le_of_ble_eq_true rfl) (fun _ h27 => ?_)
  refine j_putR d_C_init_87 fl_11_59 (Or.inr rfl) (Or.inl ⟨_, rfl⟩) (fun h28 => ?_)
  refine j_aload_n d_C_init_90 0 rfl rfl ?_
  refine j_getR d_C_init_91 fl_11_36.r (fun x29 => ?_)
  refine j_bipush (v := 6) d_C_init_94 (by decide) ?_
  refine j_vU1 d_C_init_96 (allQ.cons (VD.mk vt_11_63_9 (ct_Touch_forget N l D dA B x29 6 h28) (by decide) (by decide)) allQ.nil) (Nat.le_of_ble_eq_true rfl) (fun _ h30 => ?_)
  exact j_retU d_C_init_99
set_option maxRecDepth 20000 in
theorem ct_C_init (N : Nat) (l : Launch) (D : va_G) (dA : Nat → ClassId) (B : Nat) (l0 : Option Nat) (h : Hp) : Ct l (⟨"RingingChamber", "<init>", "()V"⟩ : MethodName) prog_1_method_1_code 1 none 4 85 D dA B [vr l0] h vU (C_init N l0 h) :=
  Ct.of2 (own := "RingingChamber") (nme := "<init>") (lv := [(0, vr l0)]) rfl rfl (by decide) (Nat.le_of_ble_eq_true rfl) rfl (fun p e R s m args below meth c => jc_C_init N l0 h)
theorem d_C_feed_0 : decode prog_1_method_2_code 0 = .ok (.aload_n 0, 1) := by decide +kernel
theorem d_C_feed_1 : decode prog_1_method_2_code 1 = .ok (.getfield 10, 3) := by decide +kernel
theorem d_C_feed_4 : decode prog_1_method_2_code 4 = .ok (.getfield 66, 3) := by decide +kernel
theorem d_C_feed_7 : decode prog_1_method_2_code 7 = .ok (.bipush 20, 2) := by decide +kernel
theorem d_C_feed_9 : decode prog_1_method_2_code 9 = .ok (.iadd, 1) := by decide +kernel
theorem d_C_feed_10 : decode prog_1_method_2_code 10 = .ok (.sipush 300, 3) := by decide +kernel
theorem d_C_feed_13 : decode prog_1_method_2_code 13 = .ok (.if_icmp .le 5, 3) := by decide +kernel
theorem d_C_feed_16 : decode prog_1_method_2_code 16 = .ok (.iconst (-1), 1) := by decide +kernel
theorem d_C_feed_17 : decode prog_1_method_2_code 17 = .ok (.ireturn, 1) := by decide +kernel
theorem d_C_feed_18 : decode prog_1_method_2_code 18 = .ok (.aload_n 0, 1) := by decide +kernel
theorem d_C_feed_19 : decode prog_1_method_2_code 19 = .ok (.getfield 10, 3) := by decide +kernel
theorem d_C_feed_22 : decode prog_1_method_2_code 22 = .ok (.iload_n 1, 1) := by decide +kernel
theorem d_C_feed_23 : decode prog_1_method_2_code 23 = .ok (.invokevirtual 69, 3) := by decide +kernel
theorem d_C_feed_26 : decode prog_1_method_2_code 26 = .ok (.aload_n 0, 1) := by decide +kernel
theorem d_C_feed_27 : decode prog_1_method_2_code 27 = .ok (.getfield 10, 3) := by decide +kernel
theorem d_C_feed_30 : decode prog_1_method_2_code 30 = .ok (.iload_n 2, 1) := by decide +kernel
theorem d_C_feed_31 : decode prog_1_method_2_code 31 = .ok (.invokevirtual 69, 3) := by decide +kernel
theorem d_C_feed_34 : decode prog_1_method_2_code 34 = .ok (.aload_n 0, 1) := by decide +kernel
theorem d_C_feed_35 : decode prog_1_method_2_code 35 = .ok (.getfield 10, 3) := by decide +kernel
theorem d_C_feed_38 : decode prog_1_method_2_code 38 = .ok (.iload_n 3, 1) := by decide +kernel
theorem d_C_feed_39 : decode prog_1_method_2_code 39 = .ok (.invokevirtual 69, 3) := by decide +kernel
theorem d_C_feed_42 : decode prog_1_method_2_code 42 = .ok (.aload_n 0, 1) := by decide +kernel
theorem d_C_feed_43 : decode prog_1_method_2_code 43 = .ok (.getfield 10, 3) := by decide +kernel
theorem d_C_feed_46 : decode prog_1_method_2_code 46 = .ok (.iload 4, 2) := by decide +kernel
theorem d_C_feed_48 : decode prog_1_method_2_code 48 = .ok (.invokevirtual 69, 3) := by decide +kernel
theorem d_C_feed_51 : decode prog_1_method_2_code 51 = .ok (.aload_n 0, 1) := by decide +kernel
theorem d_C_feed_52 : decode prog_1_method_2_code 52 = .ok (.getfield 10, 3) := by decide +kernel
theorem d_C_feed_55 : decode prog_1_method_2_code 55 = .ok (.iload 5, 2) := by decide +kernel
theorem d_C_feed_57 : decode prog_1_method_2_code 57 = .ok (.invokevirtual 69, 3) := by decide +kernel
theorem d_C_feed_60 : decode prog_1_method_2_code 60 = .ok (.aload_n 0, 1) := by decide +kernel
theorem d_C_feed_61 : decode prog_1_method_2_code 61 = .ok (.getfield 10, 3) := by decide +kernel
theorem d_C_feed_64 : decode prog_1_method_2_code 64 = .ok (.getfield 66, 3) := by decide +kernel
theorem d_C_feed_67 : decode prog_1_method_2_code 67 = .ok (.ireturn, 1) := by decide +kernel
set_option maxRecDepth 20000 in
theorem jc_C_feed (N : Nat) (l0 : Option Nat) (l1 : Int32) (l2 : Int32) (l3 : Int32) (l4 : Int32) (l5 : Int32) (h : Hp) : J p l e R s m args below meth c prog_1_method_2_code 6 "RingingChamber" 1 22 (some .int) "feed" D dA B n0 s0 (QM below args s D dA B n0 s0 vI) 0 [(0, vr l0), (1, vi l1), (2, vi l2), (3, vi l3), (4, vi l4), (5, vi l5)] [] h (C_feed N l0 l1 l2 l3 l4 l5 h) := by
  unfold C_feed
  refine j_aload_n d_C_feed_0 0 rfl rfl ?_
  refine j_getR d_C_feed_1 fl_11_10.r (fun x1 => ?_)
  refine j_getI d_C_feed_4 fl_11_66.r (fun x2 => ?_)
  refine j_bipush (v := 20) d_C_feed_7 (by decide) ?_
  refine j_iadd d_C_feed_9 ?_
  refine j_sipush (v := 300) d_C_feed_10 (by decide) ?_
  refine j_icmp_le (tgt := 18) d_C_feed_13 (by decide) ?_ ?_
  · refine j_aload_n d_C_feed_18 0 rfl rfl ?_
    refine j_getR d_C_feed_19 fl_11_10.r (fun x3 => ?_)
    refine j_iload_n d_C_feed_22 1 rfl rfl ?_
    refine j_vU1 d_C_feed_23 (allQ.cons (VD.mk vt_11_69_8 (ct_Tape_add N l D dA B x3 l1 h) (by decide) (by decide)) allQ.nil) (Nat.le_of_ble_eq_true rfl) (fun _ h4 => ?_)
    refine j_aload_n d_C_feed_26 0 rfl rfl ?_
    refine j_getR d_C_feed_27 fl_11_10.r (fun x5 => ?_)
    refine j_iload_n d_C_feed_30 2 rfl rfl ?_
    refine j_vU1 d_C_feed_31 (allQ.cons (VD.mk vt_11_69_8 (ct_Tape_add N l D dA B x5 l2 h4) (by decide) (by decide)) allQ.nil) (Nat.le_of_ble_eq_true rfl) (fun _ h6 => ?_)
    refine j_aload_n d_C_feed_34 0 rfl rfl ?_
    refine j_getR d_C_feed_35 fl_11_10.r (fun x7 => ?_)
    refine j_iload_n d_C_feed_38 3 rfl rfl ?_
    refine j_vU1 d_C_feed_39 (allQ.cons (VD.mk vt_11_69_8 (ct_Tape_add N l D dA B x7 l3 h6) (by decide) (by decide)) allQ.nil) (Nat.le_of_ble_eq_true rfl) (fun _ h8 => ?_)
    refine j_aload_n d_C_feed_42 0 rfl rfl ?_
    refine j_getR d_C_feed_43 fl_11_10.r (fun x9 => ?_)
    refine j_iload d_C_feed_46 4 rfl ?_
    refine j_vU1 d_C_feed_48 (allQ.cons (VD.mk vt_11_69_8 (ct_Tape_add N l D dA B x9 l4 h8) (by decide) (by decide)) allQ.nil) (Nat.le_of_ble_eq_true rfl) (fun _ h10 => ?_)
    refine j_aload_n d_C_feed_51 0 rfl rfl ?_
    refine j_getR d_C_feed_52 fl_11_10.r (fun x11 => ?_)
    refine j_iload d_C_feed_55 5 rfl ?_
    refine j_vU1 d_C_feed_57 (allQ.cons (VD.mk vt_11_69_8 (ct_Tape_add N l D dA B x11 l5 h10) (by decide) (by decide)) allQ.nil) (Nat.le_of_ble_eq_true rfl) (fun _ h12 => ?_)
    refine j_aload_n d_C_feed_60 0 rfl rfl ?_
    refine j_getR d_C_feed_61 fl_11_10.r (fun x13 => ?_)
    refine j_getI d_C_feed_64 fl_11_66.r (fun x14 => ?_)
    exact j_retI d_C_feed_67
  · refine j_iconst (v := -1) d_C_feed_16 (by decide) ?_
    exact j_retI d_C_feed_17
set_option maxRecDepth 20000 in
theorem ct_C_feed (N : Nat) (l : Launch) (D : va_G) (dA : Nat → ClassId) (B : Nat) (l0 : Option Nat) (l1 : Int32) (l2 : Int32) (l3 : Int32) (l4 : Int32) (l5 : Int32) (h : Hp) : Ct l (⟨"RingingChamber", "feed", "(IIIII)I"⟩ : MethodName) prog_1_method_2_code 6 (some .int) 1 22 D dA B [vr l0, vi l1, vi l2, vi l3, vi l4, vi l5] h vI (C_feed N l0 l1 l2 l3 l4 l5 h) :=
  Ct.of2 (own := "RingingChamber") (nme := "feed") (lv := [(0, vr l0), (1, vi l1), (2, vi l2), (3, vi l3), (4, vi l4), (5, vi l5)]) rfl rfl (by decide) (Nat.le_of_ble_eq_true rfl) rfl (fun p e R s m args below meth c => jc_C_feed N l0 l1 l2 l3 l4 l5 h)
theorem d_C_end_0 : decode prog_1_method_3_code 0 = .ok (.iload_n 1, 1) := by decide +kernel
theorem d_C_end_1 : decode prog_1_method_3_code 1 = .ok (.ifCond .lt 14, 3) := by decide +kernel
theorem d_C_end_4 : decode prog_1_method_3_code 4 = .ok (.iload_n 1, 1) := by decide +kernel
theorem d_C_end_5 : decode prog_1_method_3_code 5 = .ok (.aload_n 0, 1) := by decide +kernel
theorem d_C_end_6 : decode prog_1_method_3_code 6 = .ok (.getfield 10, 3) := by decide +kernel
theorem d_C_end_9 : decode prog_1_method_3_code 9 = .ok (.getfield 66, 3) := by decide +kernel
theorem d_C_end_12 : decode prog_1_method_3_code 12 = .ok (.if_icmp .le 5, 3) := by decide +kernel
theorem d_C_end_15 : decode prog_1_method_3_code 15 = .ok (.iconst (-1), 1) := by decide +kernel
theorem d_C_end_16 : decode prog_1_method_3_code 16 = .ok (.ireturn, 1) := by decide +kernel
theorem d_C_end_17 : decode prog_1_method_3_code 17 = .ok (.aload_n 0, 1) := by decide +kernel
theorem d_C_end_18 : decode prog_1_method_3_code 18 = .ok (.getfield 10, 3) := by decide +kernel
theorem d_C_end_21 : decode prog_1_method_3_code 21 = .ok (.iload_n 1, 1) := by decide +kernel
theorem d_C_end_22 : decode prog_1_method_3_code 22 = .ok (.putfield 66, 3) := by decide +kernel
theorem d_C_end_25 : decode prog_1_method_3_code 25 = .ok (.iload_n 1, 1) := by decide +kernel
theorem d_C_end_26 : decode prog_1_method_3_code 26 = .ok (.ireturn, 1) := by decide +kernel
set_option maxRecDepth 20000 in
theorem jc_C_end (N : Nat) (l0 : Option Nat) (l1 : Int32) (h : Hp) : J p l e R s m args below meth c prog_1_method_3_code 2 "RingingChamber" 0 0 (some .int) "end" D dA B n0 s0 (QM below args s D dA B n0 s0 vI) 0 [(0, vr l0), (1, vi l1)] [] h (C_end N l0 l1 h) := by
  unfold C_end
  refine j_iload_n d_C_end_0 1 rfl rfl ?_
  refine j_if_lt (tgt := 15) d_C_end_1 (by decide) ?_ ?_
  · refine j_iconst (v := -1) d_C_end_15 (by decide) ?_
    exact j_retI d_C_end_16
  · refine j_iload_n d_C_end_4 1 rfl rfl ?_
    refine j_aload_n d_C_end_5 0 rfl rfl ?_
    refine j_getR d_C_end_6 fl_11_10.r (fun x1 => ?_)
    refine j_getI d_C_end_9 fl_11_66.r (fun x2 => ?_)
    refine j_icmp_le (tgt := 17) d_C_end_12 (by decide) ?_ ?_
    · refine j_aload_n d_C_end_17 0 rfl rfl ?_
      refine j_getR d_C_end_18 fl_11_10.r (fun x3 => ?_)
      refine j_iload_n d_C_end_21 1 rfl rfl ?_
      refine j_putI d_C_end_22 fl_11_66 (Or.inl rfl) (fun h4 => ?_)
      refine j_iload_n d_C_end_25 1 rfl rfl ?_
      exact j_retI d_C_end_26
    · refine j_iconst (v := -1) d_C_end_15 (by decide) ?_
      exact j_retI d_C_end_16
set_option maxRecDepth 20000 in
theorem ct_C_end (N : Nat) (l : Launch) (D : va_G) (dA : Nat → ClassId) (B : Nat) (l0 : Option Nat) (l1 : Int32) (h : Hp) : Ct l (⟨"RingingChamber", "end", "(I)I"⟩ : MethodName) prog_1_method_3_code 2 (some .int) 0 0 D dA B [vr l0, vi l1] h vI (C_end N l0 l1 h) :=
  Ct.of2 (own := "RingingChamber") (nme := "end") (lv := [(0, vr l0), (1, vi l1)]) rfl rfl (by decide) (Nat.le_of_ble_eq_true rfl) rfl (fun p e R s m args below meth c => jc_C_end N l0 l1 h)
theorem d_C_bells_0 : decode prog_1_method_4_code 0 = .ok (.iload_n 1, 1) := by decide +kernel
theorem d_C_bells_1 : decode prog_1_method_4_code 1 = .ok (.iconst 4, 1) := by decide +kernel
theorem d_C_bells_2 : decode prog_1_method_4_code 2 = .ok (.if_icmp .lt 9, 3) := by decide +kernel
theorem d_C_bells_5 : decode prog_1_method_4_code 5 = .ok (.iload_n 1, 1) := by decide +kernel
theorem d_C_bells_6 : decode prog_1_method_4_code 6 = .ok (.bipush 12, 2) := by decide +kernel
theorem d_C_bells_8 : decode prog_1_method_4_code 8 = .ok (.if_icmp .le 5, 3) := by decide +kernel
theorem d_C_bells_11 : decode prog_1_method_4_code 11 = .ok (.iconst (-1), 1) := by decide +kernel
theorem d_C_bells_12 : decode prog_1_method_4_code 12 = .ok (.ireturn, 1) := by decide +kernel
theorem d_C_bells_13 : decode prog_1_method_4_code 13 = .ok (.aload_n 0, 1) := by decide +kernel
theorem d_C_bells_14 : decode prog_1_method_4_code 14 = .ok (.iload_n 1, 1) := by decide +kernel
theorem d_C_bells_15 : decode prog_1_method_4_code 15 = .ok (.putfield 26, 3) := by decide +kernel
theorem d_C_bells_18 : decode prog_1_method_4_code 18 = .ok (.aload_n 0, 1) := by decide +kernel
theorem d_C_bells_19 : decode prog_1_method_4_code 19 = .ok (.iconst 1, 1) := by decide +kernel
theorem d_C_bells_20 : decode prog_1_method_4_code 20 = .ok (.iload_n 1, 1) := by decide +kernel
theorem d_C_bells_21 : decode prog_1_method_4_code 21 = .ok (.ishl, 1) := by decide +kernel
theorem d_C_bells_22 : decode prog_1_method_4_code 22 = .ok (.iconst 1, 1) := by decide +kernel
theorem d_C_bells_23 : decode prog_1_method_4_code 23 = .ok (.isub, 1) := by decide +kernel
theorem d_C_bells_24 : decode prog_1_method_4_code 24 = .ok (.putfield 30, 3) := by decide +kernel
theorem d_C_bells_27 : decode prog_1_method_4_code 27 = .ok (.aload_n 0, 1) := by decide +kernel
theorem d_C_bells_28 : decode prog_1_method_4_code 28 = .ok (.iconst 0, 1) := by decide +kernel
theorem d_C_bells_29 : decode prog_1_method_4_code 29 = .ok (.putfield 72, 3) := by decide +kernel
theorem d_C_bells_32 : decode prog_1_method_4_code 32 = .ok (.aload_n 0, 1) := by decide +kernel
theorem d_C_bells_33 : decode prog_1_method_4_code 33 = .ok (.getfield 36, 3) := by decide +kernel
theorem d_C_bells_36 : decode prog_1_method_4_code 36 = .ok (.iload_n 1, 1) := by decide +kernel
theorem d_C_bells_37 : decode prog_1_method_4_code 37 = .ok (.invokevirtual 63, 3) := by decide +kernel
theorem d_C_bells_40 : decode prog_1_method_4_code 40 = .ok (.aload_n 0, 1) := by decide +kernel
theorem d_C_bells_41 : decode prog_1_method_4_code 41 = .ok (.getfield 43, 3) := by decide +kernel
theorem d_C_bells_44 : decode prog_1_method_4_code 44 = .ok (.invokevirtual 75, 3) := by decide +kernel
theorem d_C_bells_47 : decode prog_1_method_4_code 47 = .ok (.iconst 1, 1) := by decide +kernel
theorem d_C_bells_48 : decode prog_1_method_4_code 48 = .ok (.ireturn, 1) := by decide +kernel
set_option maxRecDepth 20000 in
theorem jc_C_bells (N : Nat) (l0 : Option Nat) (l1 : Int32) (h : Hp) : J p l e R s m args below meth c prog_1_method_4_code 2 "RingingChamber" 4 85 (some .int) "bells" D dA B n0 s0 (QM below args s D dA B n0 s0 vI) 0 [(0, vr l0), (1, vi l1)] [] h (C_bells N l0 l1 h) := by
  unfold C_bells
  refine j_iload_n d_C_bells_0 1 rfl rfl ?_
  refine j_iconst (v := 4) d_C_bells_1 (by decide) ?_
  refine j_icmp_lt (tgt := 11) d_C_bells_2 (by decide) ?_ ?_
  · refine j_iconst (v := -1) d_C_bells_11 (by decide) ?_
    exact j_retI d_C_bells_12
  · refine j_iload_n d_C_bells_5 1 rfl rfl ?_
    refine j_bipush (v := 12) d_C_bells_6 (by decide) ?_
    refine j_icmp_le (tgt := 13) d_C_bells_8 (by decide) ?_ ?_
    · refine j_aload_n d_C_bells_13 0 rfl rfl ?_
      refine j_iload_n d_C_bells_14 1 rfl rfl ?_
      refine j_putI d_C_bells_15 fl_11_26 (Or.inl rfl) (fun h1 => ?_)
      refine j_aload_n d_C_bells_18 0 rfl rfl ?_
      refine j_iconst (v := 1) d_C_bells_19 (by decide) ?_
      refine j_iload_n d_C_bells_20 1 rfl rfl ?_
      refine j_ishl d_C_bells_21 ?_
      refine j_iconst (v := 1) d_C_bells_22 (by decide) ?_
      refine j_isub d_C_bells_23 ?_
      refine j_putI d_C_bells_24 fl_11_30 (Or.inl rfl) (fun h2 => ?_)
      refine j_aload_n d_C_bells_27 0 rfl rfl ?_
      refine j_iconst (v := 0) d_C_bells_28 (by decide) ?_
      refine j_putI d_C_bells_29 fl_11_72 (Or.inl rfl) (fun h3 => ?_)
      refine j_aload_n d_C_bells_32 0 rfl rfl ?_
      refine j_getR d_C_bells_33 fl_11_36.r (fun x4 => ?_)
      refine j_iload_n d_C_bells_36 1 rfl rfl ?_
      refine j_vU1 d_C_bells_37 (allQ.cons (VD.mk vt_11_63_9 (ct_Touch_forget N l D dA B x4 l1 h3) (by decide) (by decide)) allQ.nil) (Nat.le_of_ble_eq_true rfl) (fun _ h5 => ?_)
      refine j_aload_n d_C_bells_40 0 rfl rfl ?_
      refine j_getR d_C_bells_41 fl_11_43.r (fun x6 => ?_)
      refine j_vU0 d_C_bells_44 (allQ.cons (VD.mk vt_11_75_5 (ct_Search_forget N l D dA B x6 h5) (by decide) (by decide)) allQ.nil) (Nat.le_of_ble_eq_true rfl) (fun _ h7 => ?_)
      refine j_iconst (v := 1) d_C_bells_47 (by decide) ?_
      exact j_retI d_C_bells_48
    · refine j_iconst (v := -1) d_C_bells_11 (by decide) ?_
      exact j_retI d_C_bells_12
set_option maxRecDepth 20000 in
theorem ct_C_bells (N : Nat) (l : Launch) (D : va_G) (dA : Nat → ClassId) (B : Nat) (l0 : Option Nat) (l1 : Int32) (h : Hp) : Ct l (⟨"RingingChamber", "bells", "(I)I"⟩ : MethodName) prog_1_method_4_code 2 (some .int) 4 85 D dA B [vr l0, vi l1] h vI (C_bells N l0 l1 h) :=
  Ct.of2 (own := "RingingChamber") (nme := "bells") (lv := [(0, vr l0), (1, vi l1)]) rfl rfl (by decide) (Nat.le_of_ble_eq_true rfl) rfl (fun p e R s m args below meth c => jc_C_bells N l0 l1 h)
theorem d_C_newMethod_0 : decode prog_1_method_45_code 0 = .ok (.iload_n 1, 1) := by decide +kernel
theorem d_C_newMethod_1 : decode prog_1_method_45_code 1 = .ok (.tableswitch 115 0 4 #[35, 51, 67, 83, 99], 35) := by decide +kernel
theorem d_C_newMethod_36 : decode prog_1_method_45_code 36 = .ok (.new 269, 3) := by decide +kernel
theorem d_C_newMethod_39 : decode prog_1_method_45_code 39 = .ok (.dup, 1) := by decide +kernel
theorem d_C_newMethod_40 : decode prog_1_method_45_code 40 = .ok (.aload_n 0, 1) := by decide +kernel
theorem d_C_newMethod_41 : decode prog_1_method_45_code 41 = .ok (.getfield 26, 3) := by decide +kernel
theorem d_C_newMethod_44 : decode prog_1_method_45_code 44 = .ok (.aload_n 0, 1) := by decide +kernel
theorem d_C_newMethod_45 : decode prog_1_method_45_code 45 = .ok (.getfield 16, 3) := by decide +kernel
theorem d_C_newMethod_48 : decode prog_1_method_45_code 48 = .ok (.invokespecial 271, 3) := by decide +kernel
theorem d_C_newMethod_51 : decode prog_1_method_45_code 51 = .ok (.areturn, 1) := by decide +kernel
theorem d_C_newMethod_52 : decode prog_1_method_45_code 52 = .ok (.new 274, 3) := by decide +kernel
theorem d_C_newMethod_55 : decode prog_1_method_45_code 55 = .ok (.dup, 1) := by decide +kernel
theorem d_C_newMethod_56 : decode prog_1_method_45_code 56 = .ok (.aload_n 0, 1) := by decide +kernel
theorem d_C_newMethod_57 : decode prog_1_method_45_code 57 = .ok (.getfield 26, 3) := by decide +kernel
theorem d_C_newMethod_60 : decode prog_1_method_45_code 60 = .ok (.aload_n 0, 1) := by decide +kernel
theorem d_C_newMethod_61 : decode prog_1_method_45_code 61 = .ok (.getfield 16, 3) := by decide +kernel
theorem d_C_newMethod_64 : decode prog_1_method_45_code 64 = .ok (.invokespecial 276, 3) := by decide +kernel
theorem d_C_newMethod_67 : decode prog_1_method_45_code 67 = .ok (.areturn, 1) := by decide +kernel
theorem d_C_newMethod_68 : decode prog_1_method_45_code 68 = .ok (.new 277, 3) := by decide +kernel
theorem d_C_newMethod_71 : decode prog_1_method_45_code 71 = .ok (.dup, 1) := by decide +kernel
theorem d_C_newMethod_72 : decode prog_1_method_45_code 72 = .ok (.aload_n 0, 1) := by decide +kernel
theorem d_C_newMethod_73 : decode prog_1_method_45_code 73 = .ok (.getfield 26, 3) := by decide +kernel
theorem d_C_newMethod_76 : decode prog_1_method_45_code 76 = .ok (.aload_n 0, 1) := by decide +kernel
theorem d_C_newMethod_77 : decode prog_1_method_45_code 77 = .ok (.getfield 16, 3) := by decide +kernel
theorem d_C_newMethod_80 : decode prog_1_method_45_code 80 = .ok (.invokespecial 279, 3) := by decide +kernel
theorem d_C_newMethod_83 : decode prog_1_method_45_code 83 = .ok (.areturn, 1) := by decide +kernel
theorem d_C_newMethod_84 : decode prog_1_method_45_code 84 = .ok (.new 280, 3) := by decide +kernel
theorem d_C_newMethod_87 : decode prog_1_method_45_code 87 = .ok (.dup, 1) := by decide +kernel
theorem d_C_newMethod_88 : decode prog_1_method_45_code 88 = .ok (.aload_n 0, 1) := by decide +kernel
theorem d_C_newMethod_89 : decode prog_1_method_45_code 89 = .ok (.getfield 26, 3) := by decide +kernel
theorem d_C_newMethod_92 : decode prog_1_method_45_code 92 = .ok (.aload_n 0, 1) := by decide +kernel
theorem d_C_newMethod_93 : decode prog_1_method_45_code 93 = .ok (.getfield 16, 3) := by decide +kernel
theorem d_C_newMethod_96 : decode prog_1_method_45_code 96 = .ok (.invokespecial 282, 3) := by decide +kernel
theorem d_C_newMethod_99 : decode prog_1_method_45_code 99 = .ok (.areturn, 1) := by decide +kernel
theorem d_C_newMethod_100 : decode prog_1_method_45_code 100 = .ok (.new 283, 3) := by decide +kernel
theorem d_C_newMethod_103 : decode prog_1_method_45_code 103 = .ok (.dup, 1) := by decide +kernel
theorem d_C_newMethod_104 : decode prog_1_method_45_code 104 = .ok (.aload_n 0, 1) := by decide +kernel
theorem d_C_newMethod_105 : decode prog_1_method_45_code 105 = .ok (.getfield 26, 3) := by decide +kernel
theorem d_C_newMethod_108 : decode prog_1_method_45_code 108 = .ok (.aload_n 0, 1) := by decide +kernel
theorem d_C_newMethod_109 : decode prog_1_method_45_code 109 = .ok (.getfield 16, 3) := by decide +kernel
theorem d_C_newMethod_112 : decode prog_1_method_45_code 112 = .ok (.invokespecial 285, 3) := by decide +kernel
theorem d_C_newMethod_115 : decode prog_1_method_45_code 115 = .ok (.areturn, 1) := by decide +kernel
theorem d_C_newMethod_116 : decode prog_1_method_45_code 116 = .ok (.new 92, 3) := by decide +kernel
theorem d_C_newMethod_119 : decode prog_1_method_45_code 119 = .ok (.dup, 1) := by decide +kernel
theorem d_C_newMethod_120 : decode prog_1_method_45_code 120 = .ok (.aload_n 0, 1) := by decide +kernel
theorem d_C_newMethod_121 : decode prog_1_method_45_code 121 = .ok (.getfield 26, 3) := by decide +kernel
theorem d_C_newMethod_124 : decode prog_1_method_45_code 124 = .ok (.aload_n 0, 1) := by decide +kernel
theorem d_C_newMethod_125 : decode prog_1_method_45_code 125 = .ok (.getfield 16, 3) := by decide +kernel
theorem d_C_newMethod_128 : decode prog_1_method_45_code 128 = .ok (.invokespecial 286, 3) := by decide +kernel
theorem d_C_newMethod_131 : decode prog_1_method_45_code 131 = .ok (.areturn, 1) := by decide +kernel
set_option maxRecDepth 20000 in
theorem jc_C_newMethod (N : Nat) (l0 : Option Nat) (l1 : Int32) (h : Hp) : J p l e R s m args below meth c prog_1_method_45_code 2 "RingingChamber" 6 128 (some (.object "RingingChamber$Method")) "newMethod" D dA B n0 s0 (QM below args s D dA B n0 s0 vR) 0 [(0, vr l0), (1, vi l1)] [] h (C_newMethod N l0 l1 h) := by
  unfold C_newMethod
  refine j_iload_n d_C_newMethod_0 1 rfl rfl ?_
  refine j_tsw (ts := [(0, 36), (1, 52), (2, 68), (3, 84), (4, 100)]) (d := 116) d_C_newMethod_1 (by decide +kernel) (by decide) (by decide +kernel) (by decide) rfl ((allQ.cons (sw_case (t := 36) (by decide) ?_) (allQ.cons (sw_case (t := 52) (by decide) ?_) (allQ.cons (sw_case (t := 68) (by decide) ?_) (allQ.cons (sw_case (t := 84) (by decide) ?_) (allQ.cons (sw_case (t := 100) (by decide) ?_) allQ.nil)))))) ?_
  · refine j_new d_C_newMethod_36 nl_11_269 (fun x1 h2 => ?_)
    refine j_dup d_C_newMethod_39 rfl ?_
    refine j_aload_n d_C_newMethod_40 0 rfl rfl ?_
    refine j_getI d_C_newMethod_41 fl_11_26.r (fun x3 => ?_)
    refine j_aload_n d_C_newMethod_44 0 rfl rfl ?_
    refine j_getR d_C_newMethod_45 fl_11_16.r (fun x4 => ?_)
    refine j_i2 d_C_newMethod_48 sl_11_271 ki_Plain_init (ct_Plain_init N l D dA B x1 x3 x4 h2) (by decide) (by decide) (Nat.le_of_ble_eq_true rfl) (fun _ h5 => ?_)
    exact j_retR (Or.inl ⟨_, rfl⟩) d_C_newMethod_51
  · refine j_new d_C_newMethod_52 nl_11_274 (fun x6 h7 => ?_)
    refine j_dup d_C_newMethod_55 rfl ?_
    refine j_aload_n d_C_newMethod_56 0 rfl rfl ?_
    refine j_getI d_C_newMethod_57 fl_11_26.r (fun x8 => ?_)
    refine j_aload_n d_C_newMethod_60 0 rfl rfl ?_
    refine j_getR d_C_newMethod_61 fl_11_16.r (fun x9 => ?_)
    refine j_i2 d_C_newMethod_64 sl_11_276 ki_Little_init (ct_Little_init N l D dA B x6 x8 x9 h7) (by decide) (by decide) (Nat.le_of_ble_eq_true rfl) (fun _ h10 => ?_)
    exact j_retR (Or.inl ⟨_, rfl⟩) d_C_newMethod_67
  · refine j_new d_C_newMethod_68 nl_11_277 (fun x11 h12 => ?_)
    refine j_dup d_C_newMethod_71 rfl ?_
    refine j_aload_n d_C_newMethod_72 0 rfl rfl ?_
    refine j_getI d_C_newMethod_73 fl_11_26.r (fun x13 => ?_)
    refine j_aload_n d_C_newMethod_76 0 rfl rfl ?_
    refine j_getR d_C_newMethod_77 fl_11_16.r (fun x14 => ?_)
    refine j_i2 d_C_newMethod_80 sl_11_279 ki_Treble_init (ct_Treble_init N l D dA B x11 x13 x14 h12) (by decide) (by decide) (Nat.le_of_ble_eq_true rfl) (fun _ h15 => ?_)
    exact j_retR (Or.inl ⟨_, rfl⟩) d_C_newMethod_83
  · refine j_new d_C_newMethod_84 nl_11_280 (fun x16 h17 => ?_)
    refine j_dup d_C_newMethod_87 rfl ?_
    refine j_aload_n d_C_newMethod_88 0 rfl rfl ?_
    refine j_getI d_C_newMethod_89 fl_11_26.r (fun x18 => ?_)
    refine j_aload_n d_C_newMethod_92 0 rfl rfl ?_
    refine j_getR d_C_newMethod_93 fl_11_16.r (fun x19 => ?_)
    refine j_i2 d_C_newMethod_96 sl_11_282 ki_Surprise_init (ct_Surprise_init N l D dA B x16 x18 x19 h17) (by decide) (by decide) (Nat.le_of_ble_eq_true rfl) (fun _ h20 => ?_)
    exact j_retR (Or.inl ⟨_, rfl⟩) d_C_newMethod_99
  · refine j_new d_C_newMethod_100 nl_11_283 (fun x21 h22 => ?_)
    refine j_dup d_C_newMethod_103 rfl ?_
    refine j_aload_n d_C_newMethod_104 0 rfl rfl ?_
    refine j_getI d_C_newMethod_105 fl_11_26.r (fun x23 => ?_)
    refine j_aload_n d_C_newMethod_108 0 rfl rfl ?_
    refine j_getR d_C_newMethod_109 fl_11_16.r (fun x24 => ?_)
    refine j_i2 d_C_newMethod_112 sl_11_285 ki_Principle_init (ct_Principle_init N l D dA B x21 x23 x24 h22) (by decide) (by decide) (Nat.le_of_ble_eq_true rfl) (fun _ h25 => ?_)
    exact j_retR (Or.inl ⟨_, rfl⟩) d_C_newMethod_115
  · refine j_new d_C_newMethod_116 nl_11_92 (fun x26 h27 => ?_)
    refine j_dup d_C_newMethod_119 rfl ?_
    refine j_aload_n d_C_newMethod_120 0 rfl rfl ?_
    refine j_getI d_C_newMethod_121 fl_11_26.r (fun x28 => ?_)
    refine j_aload_n d_C_newMethod_124 0 rfl rfl ?_
    refine j_getR d_C_newMethod_125 fl_11_16.r (fun x29 => ?_)
    refine j_i2 d_C_newMethod_128 sl_11_286 ki_Spliced_init (ct_Spliced_init N l D dA B x26 x28 x29 h27) (by decide) (by decide) (Nat.le_of_ble_eq_true rfl) (fun _ h30 => ?_)
    exact j_retR (Or.inl ⟨_, rfl⟩) d_C_newMethod_131
set_option maxRecDepth 20000 in
theorem ct_C_newMethod (N : Nat) (l : Launch) (D : va_G) (dA : Nat → ClassId) (B : Nat) (l0 : Option Nat) (l1 : Int32) (h : Hp) : Ct l (⟨"RingingChamber", "newMethod", "(I)LRingingChamber$Method;"⟩ : MethodName) prog_1_method_45_code 2 (some (.object "RingingChamber$Method")) 6 128 D dA B [vr l0, vi l1] h vR (C_newMethod N l0 l1 h) :=
  Ct.of2 (own := "RingingChamber") (nme := "newMethod") (lv := [(0, vr l0), (1, vi l1)]) rfl rfl (by decide) (Nat.le_of_ble_eq_true rfl) rfl (fun p e R s m args below meth c => jc_C_newMethod N l0 l1 h)
theorem d_C_method_0 : decode prog_1_method_5_code 0 = .ok (.iload_n 1, 1) := by decide +kernel
theorem d_C_method_1 : decode prog_1_method_5_code 1 = .ok (.ifCond .lt 9, 3) := by decide +kernel
theorem d_C_method_4 : decode prog_1_method_5_code 4 = .ok (.iload_n 1, 1) := by decide +kernel
theorem d_C_method_5 : decode prog_1_method_5_code 5 = .ok (.bipush 6, 2) := by decide +kernel
theorem d_C_method_7 : decode prog_1_method_5_code 7 = .ok (.if_icmp .lt 5, 3) := by decide +kernel
theorem d_C_method_10 : decode prog_1_method_5_code 10 = .ok (.iconst (-1), 1) := by decide +kernel
theorem d_C_method_11 : decode prog_1_method_5_code 11 = .ok (.ireturn, 1) := by decide +kernel
theorem d_C_method_12 : decode prog_1_method_5_code 12 = .ok (.aload_n 0, 1) := by decide +kernel
theorem d_C_method_13 : decode prog_1_method_5_code 13 = .ok (.getfield 72, 3) := by decide +kernel
theorem d_C_method_16 : decode prog_1_method_5_code 16 = .ok (.bipush 30, 2) := by decide +kernel
theorem d_C_method_18 : decode prog_1_method_5_code 18 = .ok (.if_icmp .lt 6, 3) := by decide +kernel
theorem d_C_method_21 : decode prog_1_method_5_code 21 = .ok (.bipush (-2), 2) := by decide +kernel
theorem d_C_method_23 : decode prog_1_method_5_code 23 = .ok (.ireturn, 1) := by decide +kernel
theorem d_C_method_24 : decode prog_1_method_5_code 24 = .ok (.aload_n 0, 1) := by decide +kernel
theorem d_C_method_25 : decode prog_1_method_5_code 25 = .ok (.getfield 22, 3) := by decide +kernel
theorem d_C_method_28 : decode prog_1_method_5_code 28 = .ok (.aload_n 0, 1) := by decide +kernel
theorem d_C_method_29 : decode prog_1_method_5_code 29 = .ok (.getfield 72, 3) := by decide +kernel
theorem d_C_method_32 : decode prog_1_method_5_code 32 = .ok (.aload_n 0, 1) := by decide +kernel
theorem d_C_method_33 : decode prog_1_method_5_code 33 = .ok (.iload_n 1, 1) := by decide +kernel
theorem d_C_method_34 : decode prog_1_method_5_code 34 = .ok (.invokevirtual 77, 3) := by decide +kernel
theorem d_C_method_37 : decode prog_1_method_5_code 37 = .ok (.aastore, 1) := by decide +kernel
theorem d_C_method_38 : decode prog_1_method_5_code 38 = .ok (.aload_n 0, 1) := by decide +kernel
theorem d_C_method_39 : decode prog_1_method_5_code 39 = .ok (.dup, 1) := by decide +kernel
theorem d_C_method_40 : decode prog_1_method_5_code 40 = .ok (.getfield 72, 3) := by decide +kernel
theorem d_C_method_43 : decode prog_1_method_5_code 43 = .ok (.iconst 1, 1) := by decide +kernel
theorem d_C_method_44 : decode prog_1_method_5_code 44 = .ok (.iadd, 1) := by decide +kernel
theorem d_C_method_45 : decode prog_1_method_5_code 45 = .ok (.putfield 72, 3) := by decide +kernel
theorem d_C_method_48 : decode prog_1_method_5_code 48 = .ok (.aload_n 0, 1) := by decide +kernel
theorem d_C_method_49 : decode prog_1_method_5_code 49 = .ok (.getfield 43, 3) := by decide +kernel
theorem d_C_method_52 : decode prog_1_method_5_code 52 = .ok (.iconst 1, 1) := by decide +kernel
theorem d_C_method_53 : decode prog_1_method_5_code 53 = .ok (.putfield 81, 3) := by decide +kernel
theorem d_C_method_56 : decode prog_1_method_5_code 56 = .ok (.aload_n 0, 1) := by decide +kernel
theorem d_C_method_57 : decode prog_1_method_5_code 57 = .ok (.getfield 72, 3) := by decide +kernel
theorem d_C_method_60 : decode prog_1_method_5_code 60 = .ok (.iconst 1, 1) := by decide +kernel
theorem d_C_method_61 : decode prog_1_method_5_code 61 = .ok (.isub, 1) := by decide +kernel
theorem d_C_method_62 : decode prog_1_method_5_code 62 = .ok (.ireturn, 1) := by decide +kernel
set_option maxRecDepth 20000 in
theorem jc_C_method (N : Nat) (l0 : Option Nat) (l1 : Int32) (h : Hp) : J p l e R s m args below meth c prog_1_method_5_code 2 "RingingChamber" 7 149 (some .int) "method" D dA B n0 s0 (QM below args s D dA B n0 s0 vI) 0 [(0, vr l0), (1, vi l1)] [] h (C_method N l0 l1 h) := by
  unfold C_method
  refine j_iload_n d_C_method_0 1 rfl rfl ?_
  refine j_if_lt (tgt := 10) d_C_method_1 (by decide) ?_ ?_
  · refine j_iconst (v := -1) d_C_method_10 (by decide) ?_
    exact j_retI d_C_method_11
  · refine j_iload_n d_C_method_4 1 rfl rfl ?_
    refine j_bipush (v := 6) d_C_method_5 (by decide) ?_
    refine j_icmp_lt (tgt := 12) d_C_method_7 (by decide) ?_ ?_
    · refine j_aload_n d_C_method_12 0 rfl rfl ?_
      refine j_getI d_C_method_13 fl_11_72.r (fun x1 => ?_)
      refine j_bipush (v := 30) d_C_method_16 (by decide) ?_
      refine j_icmp_lt (tgt := 24) d_C_method_18 (by decide) ?_ ?_
      · refine j_aload_n d_C_method_24 0 rfl rfl ?_
        refine j_getR d_C_method_25 fl_11_22.r (fun x2 => ?_)
        refine j_aload_n d_C_method_28 0 rfl rfl ?_
        refine j_getI d_C_method_29 fl_11_72.r (fun x3 => ?_)
        refine j_aload_n d_C_method_32 0 rfl rfl ?_
        refine j_iload_n d_C_method_33 1 rfl rfl ?_
        refine j_vR1 d_C_method_34 (allQ.cons (VD.mk vt_11_77_11 (ct_C_newMethod N l D dA B l0 l1 h) (by decide) (by decide)) allQ.nil) (Nat.le_of_ble_eq_true rfl) (fun x5 h4 => ?_)
        refine j_ast18 d_C_method_37 (fun h6 => ?_)
        refine j_aload_n d_C_method_38 0 rfl rfl ?_
        refine j_dup d_C_method_39 rfl ?_
        refine j_getI d_C_method_40 fl_11_72.r (fun x7 => ?_)
        refine j_iconst (v := 1) d_C_method_43 (by decide) ?_
        refine j_iadd d_C_method_44 ?_
        refine j_putI d_C_method_45 fl_11_72 (Or.inl rfl) (fun h8 => ?_)
        refine j_aload_n d_C_method_48 0 rfl rfl ?_
        refine j_getR d_C_method_49 fl_11_43.r (fun x9 => ?_)
        refine j_iconst (v := 1) d_C_method_52 (by decide) ?_
        refine j_putZ d_C_method_53 fl_11_81 (Or.inl rfl) (fun h10 => ?_)
        refine j_aload_n d_C_method_56 0 rfl rfl ?_
        refine j_getI d_C_method_57 fl_11_72.r (fun x11 => ?_)
        refine j_iconst (v := 1) d_C_method_60 (by decide) ?_
        refine j_isub d_C_method_61 ?_
        exact j_retI d_C_method_62
      · refine j_bipush (v := -2) d_C_method_21 (by decide) ?_
        exact j_retI d_C_method_23
    · refine j_iconst (v := -1) d_C_method_10 (by decide) ?_
      exact j_retI d_C_method_11
set_option maxRecDepth 20000 in
theorem ct_C_method (N : Nat) (l : Launch) (D : va_G) (dA : Nat → ClassId) (B : Nat) (l0 : Option Nat) (l1 : Int32) (h : Hp) : Ct l (⟨"RingingChamber", "method", "(I)I"⟩ : MethodName) prog_1_method_5_code 2 (some .int) 7 149 D dA B [vr l0, vi l1] h vI (C_method N l0 l1 h) :=
  Ct.of2 (own := "RingingChamber") (nme := "method") (lv := [(0, vr l0), (1, vi l1)]) rfl rfl (by decide) (Nat.le_of_ble_eq_true rfl) rfl (fun p e R s m args below meth c => jc_C_method N l0 l1 h)
theorem d_C_methodAt_0 : decode prog_1_method_44_code 0 = .ok (.iload_n 1, 1) := by decide +kernel
theorem d_C_methodAt_1 : decode prog_1_method_44_code 1 = .ok (.ifCond .lt 11, 3) := by decide +kernel
theorem d_C_methodAt_4 : decode prog_1_method_44_code 4 = .ok (.iload_n 1, 1) := by decide +kernel
theorem d_C_methodAt_5 : decode prog_1_method_44_code 5 = .ok (.aload_n 0, 1) := by decide +kernel
theorem d_C_methodAt_6 : decode prog_1_method_44_code 6 = .ok (.getfield 72, 3) := by decide +kernel
theorem d_C_methodAt_9 : decode prog_1_method_44_code 9 = .ok (.if_icmp .lt 7, 3) := by decide +kernel
theorem d_C_methodAt_12 : decode prog_1_method_44_code 12 = .ok (.aconst_null, 1) := by decide +kernel
theorem d_C_methodAt_13 : decode prog_1_method_44_code 13 = .ok (.goto 9, 3) := by decide +kernel
theorem d_C_methodAt_16 : decode prog_1_method_44_code 16 = .ok (.aload_n 0, 1) := by decide +kernel
theorem d_C_methodAt_17 : decode prog_1_method_44_code 17 = .ok (.getfield 22, 3) := by decide +kernel
theorem d_C_methodAt_20 : decode prog_1_method_44_code 20 = .ok (.iload_n 1, 1) := by decide +kernel
theorem d_C_methodAt_21 : decode prog_1_method_44_code 21 = .ok (.aaload, 1) := by decide +kernel
theorem d_C_methodAt_22 : decode prog_1_method_44_code 22 = .ok (.areturn, 1) := by decide +kernel
set_option maxRecDepth 20000 in
theorem jc_C_methodAt_12 (N : Nat)  (h : Hp) : J p l e R s m args below meth c prog_1_method_44_code 2 "RingingChamber" 0 0 (some (.object "RingingChamber$Method")) "methodAt" D dA B n0 s0 (QM below args s D dA B n0 s0 vR) 12 [] [] h (C_methodAt_12 N  h) := by
  unfold C_methodAt_12
  refine j_null d_C_methodAt_12 ?_
  refine j_goto (tgt := 22) d_C_methodAt_13 (by decide) ?_
  exact j_retR (Or.inl ⟨_, rfl⟩) d_C_methodAt_22
set_option maxRecDepth 20000 in
theorem jc_C_methodAt (N : Nat) (l0 : Option Nat) (l1 : Int32) (h : Hp) : J p l e R s m args below meth c prog_1_method_44_code 2 "RingingChamber" 0 0 (some (.object "RingingChamber$Method")) "methodAt" D dA B n0 s0 (QM below args s D dA B n0 s0 vR) 0 [(0, vr l0), (1, vi l1)] [] h (C_methodAt N l0 l1 h) := by
  unfold C_methodAt
  refine j_iload_n d_C_methodAt_0 1 rfl rfl ?_
  refine j_if_lt (tgt := 12) d_C_methodAt_1 (by decide) ?_ ?_
  · exact J.sub [] rfl (jc_C_methodAt_12 N  h)
  · refine j_iload_n d_C_methodAt_4 1 rfl rfl ?_
    refine j_aload_n d_C_methodAt_5 0 rfl rfl ?_
    refine j_getI d_C_methodAt_6 fl_11_72.r (fun x1 => ?_)
    refine j_icmp_lt (tgt := 16) d_C_methodAt_9 (by decide) ?_ ?_
    · refine j_aload_n d_C_methodAt_16 0 rfl rfl ?_
      refine j_getR d_C_methodAt_17 fl_11_22.r (fun x2 => ?_)
      refine j_iload_n d_C_methodAt_20 1 rfl rfl ?_
      refine j_ald18 d_C_methodAt_21 (fun x3 => ?_)
      exact j_retR (Or.inl ⟨_, rfl⟩) d_C_methodAt_22
    · exact J.sub [] rfl (jc_C_methodAt_12 N  h)
set_option maxRecDepth 20000 in
theorem ct_C_methodAt (N : Nat) (l : Launch) (D : va_G) (dA : Nat → ClassId) (B : Nat) (l0 : Option Nat) (l1 : Int32) (h : Hp) : Ct l (⟨"RingingChamber", "methodAt", "(I)LRingingChamber$Method;"⟩ : MethodName) prog_1_method_44_code 2 (some (.object "RingingChamber$Method")) 0 0 D dA B [vr l0, vi l1] h vR (C_methodAt N l0 l1 h) :=
  Ct.of2 (own := "RingingChamber") (nme := "methodAt") (lv := [(0, vr l0), (1, vi l1)]) rfl rfl (by decide) (Nat.le_of_ble_eq_true rfl) rfl (fun p e R s m args below meth c => jc_C_methodAt N l0 l1 h)
theorem d_C_finds_0 : decode prog_1_method_42_code 0 = .ok (.aload_n 0, 1) := by decide +kernel
theorem d_C_finds_1 : decode prog_1_method_42_code 1 = .ok (.iload_n 1, 1) := by decide +kernel
theorem d_C_finds_2 : decode prog_1_method_42_code 2 = .ok (.putfield 266, 3) := by decide +kernel
theorem d_C_finds_5 : decode prog_1_method_42_code 5 = .ok (.iload_n 2, 1) := by decide +kernel
theorem d_C_finds_6 : decode prog_1_method_42_code 6 = .ok (.ireturn, 1) := by decide +kernel
set_option maxRecDepth 20000 in
theorem jc_C_finds (N : Nat) (l0 : Option Nat) (l1 : Int32) (l2 : Int32) (h : Hp) : J p l e R s m args below meth c prog_1_method_42_code 3 "RingingChamber" 0 0 (some .int) "finds" D dA B n0 s0 (QM below args s D dA B n0 s0 vI) 0 [(0, vr l0), (1, vi l1), (2, vi l2)] [] h (C_finds N l0 l1 l2 h) := by
  unfold C_finds
  refine j_aload_n d_C_finds_0 0 rfl rfl ?_
  refine j_iload_n d_C_finds_1 1 rfl rfl ?_
  refine j_putI d_C_finds_2 fl_11_266 (Or.inl rfl) (fun h1 => ?_)
  refine j_iload_n d_C_finds_5 2 rfl rfl ?_
  exact j_retI d_C_finds_6
set_option maxRecDepth 20000 in
theorem ct_C_finds (N : Nat) (l : Launch) (D : va_G) (dA : Nat → ClassId) (B : Nat) (l0 : Option Nat) (l1 : Int32) (l2 : Int32) (h : Hp) : Ct l (⟨"RingingChamber", "finds", "(II)I"⟩ : MethodName) prog_1_method_42_code 3 (some .int) 0 0 D dA B [vr l0, vi l1, vi l2] h vI (C_finds N l0 l1 l2 h) :=
  Ct.of2 (own := "RingingChamber") (nme := "finds") (lv := [(0, vr l0), (1, vi l1), (2, vi l2)]) rfl rfl (by decide) (Nat.le_of_ble_eq_true rfl) rfl (fun p e R s m args below meth c => jc_C_finds N l0 l1 l2 h)
theorem d_C_notation_0 : decode prog_1_method_6_code 0 = .ok (.aload_n 0, 1) := by decide +kernel
theorem d_C_notation_1 : decode prog_1_method_6_code 1 = .ok (.iload_n 1, 1) := by decide +kernel
theorem d_C_notation_2 : decode prog_1_method_6_code 2 = .ok (.invokevirtual 85, 3) := by decide +kernel
theorem d_C_notation_5 : decode prog_1_method_6_code 5 = .ok (.astore_n 2, 1) := by decide +kernel
theorem d_C_notation_6 : decode prog_1_method_6_code 6 = .ok (.aload_n 2, 1) := by decide +kernel
theorem d_C_notation_7 : decode prog_1_method_6_code 7 = .ok (.ifnonnull 10, 3) := by decide +kernel
theorem d_C_notation_10 : decode prog_1_method_6_code 10 = .ok (.aload_n 0, 1) := by decide +kernel
theorem d_C_notation_11 : decode prog_1_method_6_code 11 = .ok (.iconst 4, 1) := by decide +kernel
theorem d_C_notation_12 : decode prog_1_method_6_code 12 = .ok (.iconst 0, 1) := by decide +kernel
theorem d_C_notation_13 : decode prog_1_method_6_code 13 = .ok (.invokevirtual 88, 3) := by decide +kernel
theorem d_C_notation_16 : decode prog_1_method_6_code 16 = .ok (.ireturn, 1) := by decide +kernel
theorem d_C_notation_17 : decode prog_1_method_6_code 17 = .ok (.aload_n 2, 1) := by decide +kernel
theorem d_C_notation_18 : decode prog_1_method_6_code 18 = .ok (.instanceof 92, 3) := by decide +kernel
theorem d_C_notation_21 : decode prog_1_method_6_code 21 = .ok (.ifCond .eq 10, 3) := by decide +kernel
theorem d_C_notation_24 : decode prog_1_method_6_code 24 = .ok (.aload_n 0, 1) := by decide +kernel
theorem d_C_notation_25 : decode prog_1_method_6_code 25 = .ok (.iconst 3, 1) := by decide +kernel
theorem d_C_notation_26 : decode prog_1_method_6_code 26 = .ok (.iconst 0, 1) := by decide +kernel
theorem d_C_notation_27 : decode prog_1_method_6_code 27 = .ok (.invokevirtual 88, 3) := by decide +kernel
theorem d_C_notation_30 : decode prog_1_method_6_code 30 = .ok (.ireturn, 1) := by decide +kernel
theorem d_C_notation_31 : decode prog_1_method_6_code 31 = .ok (.aload_n 0, 1) := by decide +kernel
theorem d_C_notation_32 : decode prog_1_method_6_code 32 = .ok (.getfield 10, 3) := by decide +kernel
theorem d_C_notation_35 : decode prog_1_method_6_code 35 = .ok (.aload_n 0, 1) := by decide +kernel
theorem d_C_notation_36 : decode prog_1_method_6_code 36 = .ok (.getfield 26, 3) := by decide +kernel
theorem d_C_notation_39 : decode prog_1_method_6_code 39 = .ok (.aload_n 2, 1) := by decide +kernel
theorem d_C_notation_40 : decode prog_1_method_6_code 40 = .ok (.getfield 94, 3) := by decide +kernel
theorem d_C_notation_43 : decode prog_1_method_6_code 43 = .ok (.invokevirtual 97, 3) := by decide +kernel
theorem d_C_notation_46 : decode prog_1_method_6_code 46 = .ok (.istore_n 3, 1) := by decide +kernel
theorem d_C_notation_47 : decode prog_1_method_6_code 47 = .ok (.aload_n 0, 1) := by decide +kernel
theorem d_C_notation_48 : decode prog_1_method_6_code 48 = .ok (.getfield 10, 3) := by decide +kernel
theorem d_C_notation_51 : decode prog_1_method_6_code 51 = .ok (.iconst 0, 1) := by decide +kernel
theorem d_C_notation_52 : decode prog_1_method_6_code 52 = .ok (.putfield 66, 3) := by decide +kernel
theorem d_C_notation_55 : decode prog_1_method_6_code 55 = .ok (.iload_n 3, 1) := by decide +kernel
theorem d_C_notation_56 : decode prog_1_method_6_code 56 = .ok (.ifCond .lt 11, 3) := by decide +kernel
theorem d_C_notation_59 : decode prog_1_method_6_code 59 = .ok (.aload_n 0, 1) := by decide +kernel
theorem d_C_notation_60 : decode prog_1_method_6_code 60 = .ok (.getfield 43, 3) := by decide +kernel
theorem d_C_notation_63 : decode prog_1_method_6_code 63 = .ok (.iconst 1, 1) := by decide +kernel
theorem d_C_notation_64 : decode prog_1_method_6_code 64 = .ok (.putfield 81, 3) := by decide +kernel
theorem d_C_notation_67 : decode prog_1_method_6_code 67 = .ok (.aload_n 0, 1) := by decide +kernel
theorem d_C_notation_68 : decode prog_1_method_6_code 68 = .ok (.iconst 0, 1) := by decide +kernel
theorem d_C_notation_69 : decode prog_1_method_6_code 69 = .ok (.iload_n 3, 1) := by decide +kernel
theorem d_C_notation_70 : decode prog_1_method_6_code 70 = .ok (.invokevirtual 88, 3) := by decide +kernel
theorem d_C_notation_73 : decode prog_1_method_6_code 73 = .ok (.ireturn, 1) := by decide +kernel
set_option maxRecDepth 20000 in
theorem jc_C_notation_67 (N : Nat) (l0 : Option Nat) (l3 : Int32) (h : Hp) : J p l e R s m args below meth c prog_1_method_6_code 4 "RingingChamber" 5 110 (some .int) "notation" D dA B n0 s0 (QM below args s D dA B n0 s0 vI) 67 [(0, vr l0), (3, vi l3)] [] h (C_notation_67 N l0 l3 h) := by
  unfold C_notation_67
  refine j_aload_n d_C_notation_67 0 rfl rfl ?_
  refine j_iconst (v := 0) d_C_notation_68 (by decide) ?_
  refine j_iload_n d_C_notation_69 1 rfl rfl ?_
  refine j_vI2 d_C_notation_70 (allQ.cons (VD.mk vt_11_88_11 (ct_C_finds N l D dA B l0 0 l3 h) (by decide) (by decide)) allQ.nil) (Nat.le_of_ble_eq_true rfl) (fun x2 h1 => ?_)
  exact j_retI d_C_notation_73
set_option maxRecDepth 20000 in
theorem jc_C_notation (N : Nat) (l0 : Option Nat) (l1 : Int32) (h : Hp) : J p l e R s m args below meth c prog_1_method_6_code 4 "RingingChamber" 5 110 (some .int) "notation" D dA B n0 s0 (QM below args s D dA B n0 s0 vI) 0 [(0, vr l0), (1, vi l1)] [] h (C_notation N l0 l1 h) := by
  unfold C_notation
  refine j_aload_n d_C_notation_0 0 rfl rfl ?_
  refine j_iload_n d_C_notation_1 1 rfl rfl ?_
  refine j_vR1 d_C_notation_2 (allQ.cons (VD.mk vt_11_85_11 (ct_C_methodAt N l D dA B l0 l1 h) (by decide) (by decide)) allQ.nil) (Nat.le_of_ble_eq_true rfl) (fun x2 h1 => ?_)
  refine j_astore_n (lv' := [(2, vr x2), (0, vr l0), (1, vi l1)]) d_C_notation_5 rfl (by decide) rfl ?_
  refine j_aload_n d_C_notation_6 0 rfl rfl ?_
  refine j_ifnonnull (tgt := 17) d_C_notation_7 (by decide) ?_ ?_
  · refine j_aload_n d_C_notation_10 1 rfl rfl ?_
    refine j_iconst (v := 4) d_C_notation_11 (by decide) ?_
    refine j_iconst (v := 0) d_C_notation_12 (by decide) ?_
    refine j_vI2 d_C_notation_13 (allQ.cons (VD.mk vt_11_88_11 (ct_C_finds N l D dA B l0 4 0 h1) (by decide) (by decide)) allQ.nil) (Nat.le_of_ble_eq_true rfl) (fun x16 h15 => ?_)
    exact j_retI d_C_notation_16
  · refine j_aload_n d_C_notation_17 0 rfl rfl ?_
    refine j_io d_C_notation_18 kl_11_92 (fun x3 => ?_)
    refine j_if_eq (tgt := 31) d_C_notation_21 (by decide) ?_ ?_
    · refine j_aload_n d_C_notation_31 1 rfl rfl ?_
      refine j_getR d_C_notation_32 fl_11_10.r (fun x4 => ?_)
      refine j_aload_n d_C_notation_35 1 rfl rfl ?_
      refine j_getI d_C_notation_36 fl_11_26.r (fun x5 => ?_)
      refine j_aload_n d_C_notation_39 0 rfl rfl ?_
      refine j_getR d_C_notation_40 fl_11_94 (fun x6 => ?_)
      refine j_vI2 d_C_notation_43 (allQ.cons (VD.mk vt_11_97_8 (ct_Tape_readLead N l D dA B x4 x5 x6 h1) (by decide) (by decide)) allQ.nil) (Nat.le_of_ble_eq_true rfl) (fun x8 h7 => ?_)
      refine j_istore_n (lv' := [(3, vi x8), (2, vr x2), (0, vr l0), (1, vi l1)]) d_C_notation_46 rfl (by decide) rfl ?_
      refine j_aload_n d_C_notation_47 2 rfl rfl ?_
      refine j_getR d_C_notation_48 fl_11_10.r (fun x9 => ?_)
      refine j_iconst (v := 0) d_C_notation_51 (by decide) ?_
      refine j_putI d_C_notation_52 fl_11_66 (Or.inl rfl) (fun h10 => ?_)
      refine j_iload_n d_C_notation_55 0 rfl rfl ?_
      refine j_if_lt (tgt := 67) d_C_notation_56 (by decide) ?_ ?_
      · exact J.sub [2, 0] rfl (jc_C_notation_67 N l0 x8 h10)
      · refine j_aload_n d_C_notation_59 2 rfl rfl ?_
        refine j_getR d_C_notation_60 fl_11_43.r (fun x11 => ?_)
        refine j_iconst (v := 1) d_C_notation_63 (by decide) ?_
        refine j_putZ d_C_notation_64 fl_11_81 (Or.inl rfl) (fun h12 => ?_)
        exact J.sub [2, 0] rfl (jc_C_notation_67 N l0 x8 h12)
    · refine j_aload_n d_C_notation_24 1 rfl rfl ?_
      refine j_iconst (v := 3) d_C_notation_25 (by decide) ?_
      refine j_iconst (v := 0) d_C_notation_26 (by decide) ?_
      refine j_vI2 d_C_notation_27 (allQ.cons (VD.mk vt_11_88_11 (ct_C_finds N l D dA B l0 3 0 h1) (by decide) (by decide)) allQ.nil) (Nat.le_of_ble_eq_true rfl) (fun x14 h13 => ?_)
      exact j_retI d_C_notation_30
set_option maxRecDepth 20000 in
theorem ct_C_notation (N : Nat) (l : Launch) (D : va_G) (dA : Nat → ClassId) (B : Nat) (l0 : Option Nat) (l1 : Int32) (h : Hp) : Ct l (⟨"RingingChamber", "notation", "(I)I"⟩ : MethodName) prog_1_method_6_code 4 (some .int) 5 110 D dA B [vr l0, vi l1] h vI (C_notation N l0 l1 h) :=
  Ct.of2 (own := "RingingChamber") (nme := "notation") (lv := [(0, vr l0), (1, vi l1)]) rfl rfl (by decide) (Nat.le_of_ble_eq_true rfl) rfl (fun p e R s m args below meth c => jc_C_notation N l0 l1 h)
theorem d_C_cut_0 : decode prog_1_method_7_code 0 = .ok (.aload_n 0, 1) := by decide +kernel
theorem d_C_cut_1 : decode prog_1_method_7_code 1 = .ok (.iload_n 1, 1) := by decide +kernel
theorem d_C_cut_2 : decode prog_1_method_7_code 2 = .ok (.invokevirtual 85, 3) := by decide +kernel
theorem d_C_cut_5 : decode prog_1_method_7_code 5 = .ok (.astore_n 3, 1) := by decide +kernel
theorem d_C_cut_6 : decode prog_1_method_7_code 6 = .ok (.aload_n 3, 1) := by decide +kernel
theorem d_C_cut_7 : decode prog_1_method_7_code 7 = .ok (.ifnonnull 10, 3) := by decide +kernel
theorem d_C_cut_10 : decode prog_1_method_7_code 10 = .ok (.aload_n 0, 1) := by decide +kernel
theorem d_C_cut_11 : decode prog_1_method_7_code 11 = .ok (.iconst 4, 1) := by decide +kernel
theorem d_C_cut_12 : decode prog_1_method_7_code 12 = .ok (.iconst 0, 1) := by decide +kernel
theorem d_C_cut_13 : decode prog_1_method_7_code 13 = .ok (.invokevirtual 88, 3) := by decide +kernel
theorem d_C_cut_16 : decode prog_1_method_7_code 16 = .ok (.ireturn, 1) := by decide +kernel
theorem d_C_cut_17 : decode prog_1_method_7_code 17 = .ok (.aload_n 3, 1) := by decide +kernel
theorem d_C_cut_18 : decode prog_1_method_7_code 18 = .ok (.instanceof 92, 3) := by decide +kernel
theorem d_C_cut_21 : decode prog_1_method_7_code 21 = .ok (.ifCond .eq 10, 3) := by decide +kernel
theorem d_C_cut_24 : decode prog_1_method_7_code 24 = .ok (.aload_n 0, 1) := by decide +kernel
theorem d_C_cut_25 : decode prog_1_method_7_code 25 = .ok (.iconst 3, 1) := by decide +kernel
theorem d_C_cut_26 : decode prog_1_method_7_code 26 = .ok (.iconst 0, 1) := by decide +kernel
theorem d_C_cut_27 : decode prog_1_method_7_code 27 = .ok (.invokevirtual 88, 3) := by decide +kernel
theorem d_C_cut_30 : decode prog_1_method_7_code 30 = .ok (.ireturn, 1) := by decide +kernel
theorem d_C_cut_31 : decode prog_1_method_7_code 31 = .ok (.aload_n 3, 1) := by decide +kernel
theorem d_C_cut_32 : decode prog_1_method_7_code 32 = .ok (.getfield 94, 3) := by decide +kernel
theorem d_C_cut_35 : decode prog_1_method_7_code 35 = .ok (.getfield 101, 3) := by decide +kernel
theorem d_C_cut_38 : decode prog_1_method_7_code 38 = .ok (.ifCond .eq 16, 3) := by decide +kernel
theorem d_C_cut_41 : decode prog_1_method_7_code 41 = .ok (.aload_n 0, 1) := by decide +kernel
theorem d_C_cut_42 : decode prog_1_method_7_code 42 = .ok (.aload_n 3, 1) := by decide +kernel
theorem d_C_cut_43 : decode prog_1_method_7_code 43 = .ok (.getfield 94, 3) := by decide +kernel
theorem d_C_cut_46 : decode prog_1_method_7_code 46 = .ok (.getfield 101, 3) := by decide +kernel
theorem d_C_cut_49 : decode prog_1_method_7_code 49 = .ok (.iconst 0, 1) := by decide +kernel
theorem d_C_cut_50 : decode prog_1_method_7_code 50 = .ok (.invokevirtual 88, 3) := by decide +kernel
theorem d_C_cut_53 : decode prog_1_method_7_code 53 = .ok (.ireturn, 1) := by decide +kernel
theorem d_C_cut_54 : decode prog_1_method_7_code 54 = .ok (.iload_n 2, 1) := by decide +kernel
theorem d_C_cut_55 : decode prog_1_method_7_code 55 = .ok (.ifCond .ge 11, 3) := by decide +kernel
theorem d_C_cut_58 : decode prog_1_method_7_code 58 = .ok (.aload_n 0, 1) := by decide +kernel
theorem d_C_cut_59 : decode prog_1_method_7_code 59 = .ok (.bipush 6, 2) := by decide +kernel
theorem d_C_cut_61 : decode prog_1_method_7_code 61 = .ok (.iconst 0, 1) := by decide +kernel
theorem d_C_cut_62 : decode prog_1_method_7_code 62 = .ok (.invokevirtual 88, 3) := by decide +kernel
theorem d_C_cut_65 : decode prog_1_method_7_code 65 = .ok (.ireturn, 1) := by decide +kernel
theorem d_C_cut_66 : decode prog_1_method_7_code 66 = .ok (.iload_n 2, 1) := by decide +kernel
theorem d_C_cut_67 : decode prog_1_method_7_code 67 = .ok (.aload_n 3, 1) := by decide +kernel
theorem d_C_cut_68 : decode prog_1_method_7_code 68 = .ok (.getfield 94, 3) := by decide +kernel
theorem d_C_cut_71 : decode prog_1_method_7_code 71 = .ok (.getfield 104, 3) := by decide +kernel
theorem d_C_cut_74 : decode prog_1_method_7_code 74 = .ok (.if_icmp .le 10, 3) := by decide +kernel
theorem d_C_cut_77 : decode prog_1_method_7_code 77 = .ok (.aload_n 0, 1) := by decide +kernel
theorem d_C_cut_78 : decode prog_1_method_7_code 78 = .ok (.iconst 5, 1) := by decide +kernel
theorem d_C_cut_79 : decode prog_1_method_7_code 79 = .ok (.iconst 0, 1) := by decide +kernel
theorem d_C_cut_80 : decode prog_1_method_7_code 80 = .ok (.invokevirtual 88, 3) := by decide +kernel
theorem d_C_cut_83 : decode prog_1_method_7_code 83 = .ok (.ireturn, 1) := by decide +kernel
theorem d_C_cut_84 : decode prog_1_method_7_code 84 = .ok (.aload_n 3, 1) := by decide +kernel
theorem d_C_cut_85 : decode prog_1_method_7_code 85 = .ok (.getfield 94, 3) := by decide +kernel
theorem d_C_cut_88 : decode prog_1_method_7_code 88 = .ok (.iload_n 2, 1) := by decide +kernel
theorem d_C_cut_89 : decode prog_1_method_7_code 89 = .ok (.putfield 104, 3) := by decide +kernel
theorem d_C_cut_92 : decode prog_1_method_7_code 92 = .ok (.aload_n 0, 1) := by decide +kernel
theorem d_C_cut_93 : decode prog_1_method_7_code 93 = .ok (.getfield 43, 3) := by decide +kernel
theorem d_C_cut_96 : decode prog_1_method_7_code 96 = .ok (.iconst 1, 1) := by decide +kernel
theorem d_C_cut_97 : decode prog_1_method_7_code 97 = .ok (.putfield 81, 3) := by decide +kernel
theorem d_C_cut_100 : decode prog_1_method_7_code 100 = .ok (.aload_n 0, 1) := by decide +kernel
theorem d_C_cut_101 : decode prog_1_method_7_code 101 = .ok (.iconst 0, 1) := by decide +kernel
theorem d_C_cut_102 : decode prog_1_method_7_code 102 = .ok (.iload_n 2, 1) := by decide +kernel
theorem d_C_cut_103 : decode prog_1_method_7_code 103 = .ok (.invokevirtual 88, 3) := by decide +kernel
theorem d_C_cut_106 : decode prog_1_method_7_code 106 = .ok (.ireturn, 1) := by decide +kernel
set_option maxRecDepth 20000 in
theorem jc_C_cut (N : Nat) (l0 : Option Nat) (l1 : Int32) (l2 : Int32) (h : Hp) : J p l e R s m args below meth c prog_1_method_7_code 4 "RingingChamber" 1 22 (some .int) "cut" D dA B n0 s0 (QM below args s D dA B n0 s0 vI) 0 [(0, vr l0), (1, vi l1), (2, vi l2)] [] h (C_cut N l0 l1 l2 h) := by
  unfold C_cut
  refine j_aload_n d_C_cut_0 0 rfl rfl ?_
  refine j_iload_n d_C_cut_1 1 rfl rfl ?_
  refine j_vR1 d_C_cut_2 (allQ.cons (VD.mk vt_11_85_11 (ct_C_methodAt N l D dA B l0 l1 h) (by decide) (by decide)) allQ.nil) (Nat.le_of_ble_eq_true rfl) (fun x2 h1 => ?_)
  refine j_astore_n (lv' := [(3, vr x2), (0, vr l0), (1, vi l1), (2, vi l2)]) d_C_cut_5 rfl (by decide) rfl ?_
  refine j_aload_n d_C_cut_6 0 rfl rfl ?_
  refine j_ifnonnull (tgt := 17) d_C_cut_7 (by decide) ?_ ?_
  · refine j_aload_n d_C_cut_10 1 rfl rfl ?_
    refine j_iconst (v := 4) d_C_cut_11 (by decide) ?_
    refine j_iconst (v := 0) d_C_cut_12 (by decide) ?_
    refine j_vI2 d_C_cut_13 (allQ.cons (VD.mk vt_11_88_11 (ct_C_finds N l D dA B l0 4 0 h1) (by decide) (by decide)) allQ.nil) (Nat.le_of_ble_eq_true rfl) (fun x25 h24 => ?_)
    exact j_retI d_C_cut_16
  · refine j_aload_n d_C_cut_17 0 rfl rfl ?_
    refine j_io d_C_cut_18 kl_11_92 (fun x3 => ?_)
    refine j_if_eq (tgt := 31) d_C_cut_21 (by decide) ?_ ?_
    · refine j_aload_n d_C_cut_31 0 rfl rfl ?_
      refine j_getR d_C_cut_32 fl_11_94 (fun x4 => ?_)
      refine j_getI d_C_cut_35 fl_11_101.r (fun x5 => ?_)
      refine j_if_eq (tgt := 54) d_C_cut_38 (by decide) ?_ ?_
      · refine j_iload_n d_C_cut_54 3 rfl rfl ?_
        refine j_if_ge (tgt := 66) d_C_cut_55 (by decide) ?_ ?_
        · refine j_iload_n d_C_cut_66 3 rfl rfl ?_
          refine j_aload_n d_C_cut_67 0 rfl rfl ?_
          refine j_getR d_C_cut_68 fl_11_94 (fun x6 => ?_)
          refine j_getI d_C_cut_71 fl_11_104.r (fun x7 => ?_)
          refine j_icmp_le (tgt := 84) d_C_cut_74 (by decide) ?_ ?_
          · refine j_aload_n d_C_cut_84 0 rfl rfl ?_
            refine j_getR d_C_cut_85 fl_11_94 (fun x8 => ?_)
            refine j_iload_n d_C_cut_88 3 rfl rfl ?_
            refine j_putI d_C_cut_89 fl_11_104 (Or.inl rfl) (fun h9 => ?_)
            refine j_aload_n d_C_cut_92 1 rfl rfl ?_
            refine j_getR d_C_cut_93 fl_11_43.r (fun x10 => ?_)
            refine j_iconst (v := 1) d_C_cut_96 (by decide) ?_
            refine j_putZ d_C_cut_97 fl_11_81 (Or.inl rfl) (fun h11 => ?_)
            refine j_aload_n d_C_cut_100 1 rfl rfl ?_
            refine j_iconst (v := 0) d_C_cut_101 (by decide) ?_
            refine j_iload_n d_C_cut_102 3 rfl rfl ?_
            refine j_vI2 d_C_cut_103 (allQ.cons (VD.mk vt_11_88_11 (ct_C_finds N l D dA B l0 0 l2 h11) (by decide) (by decide)) allQ.nil) (Nat.le_of_ble_eq_true rfl) (fun x13 h12 => ?_)
            exact j_retI d_C_cut_106
          · refine j_aload_n d_C_cut_77 1 rfl rfl ?_
            refine j_iconst (v := 5) d_C_cut_78 (by decide) ?_
            refine j_iconst (v := 0) d_C_cut_79 (by decide) ?_
            refine j_vI2 d_C_cut_80 (allQ.cons (VD.mk vt_11_88_11 (ct_C_finds N l D dA B l0 5 0 h1) (by decide) (by decide)) allQ.nil) (Nat.le_of_ble_eq_true rfl) (fun x15 h14 => ?_)
            exact j_retI d_C_cut_83
        · refine j_aload_n d_C_cut_58 1 rfl rfl ?_
          refine j_bipush (v := 6) d_C_cut_59 (by decide) ?_
          refine j_iconst (v := 0) d_C_cut_61 (by decide) ?_
          refine j_vI2 d_C_cut_62 (allQ.cons (VD.mk vt_11_88_11 (ct_C_finds N l D dA B l0 6 0 h1) (by decide) (by decide)) allQ.nil) (Nat.le_of_ble_eq_true rfl) (fun x17 h16 => ?_)
          exact j_retI d_C_cut_65
      · refine j_aload_n d_C_cut_41 1 rfl rfl ?_
        refine j_aload_n d_C_cut_42 0 rfl rfl ?_
        refine j_getR d_C_cut_43 fl_11_94 (fun x18 => ?_)
        refine j_getI d_C_cut_46 fl_11_101.r (fun x19 => ?_)
        refine j_iconst (v := 0) d_C_cut_49 (by decide) ?_
        refine j_vI2 d_C_cut_50 (allQ.cons (VD.mk vt_11_88_11 (ct_C_finds N l D dA B l0 x19 0 h1) (by decide) (by decide)) allQ.nil) (Nat.le_of_ble_eq_true rfl) (fun x21 h20 => ?_)
        exact j_retI d_C_cut_53
    · refine j_aload_n d_C_cut_24 1 rfl rfl ?_
      refine j_iconst (v := 3) d_C_cut_25 (by decide) ?_
      refine j_iconst (v := 0) d_C_cut_26 (by decide) ?_
      refine j_vI2 d_C_cut_27 (allQ.cons (VD.mk vt_11_88_11 (ct_C_finds N l D dA B l0 3 0 h1) (by decide) (by decide)) allQ.nil) (Nat.le_of_ble_eq_true rfl) (fun x23 h22 => ?_)
      exact j_retI d_C_cut_30
set_option maxRecDepth 20000 in
theorem ct_C_cut (N : Nat) (l : Launch) (D : va_G) (dA : Nat → ClassId) (B : Nat) (l0 : Option Nat) (l1 : Int32) (l2 : Int32) (h : Hp) : Ct l (⟨"RingingChamber", "cut", "(II)I"⟩ : MethodName) prog_1_method_7_code 4 (some .int) 1 22 D dA B [vr l0, vi l1, vi l2] h vI (C_cut N l0 l1 l2 h) :=
  Ct.of2 (own := "RingingChamber") (nme := "cut") (lv := [(0, vr l0), (1, vi l1), (2, vi l2)]) rfl rfl (by decide) (Nat.le_of_ble_eq_true rfl) rfl (fun p e R s m args below meth c => jc_C_cut N l0 l1 l2 h)
theorem d_C_called_0 : decode prog_1_method_8_code 0 = .ok (.aload_n 0, 1) := by decide +kernel
theorem d_C_called_1 : decode prog_1_method_8_code 1 = .ok (.iload_n 1, 1) := by decide +kernel
theorem d_C_called_2 : decode prog_1_method_8_code 2 = .ok (.invokevirtual 85, 3) := by decide +kernel
theorem d_C_called_5 : decode prog_1_method_8_code 5 = .ok (.astore 5, 2) := by decide +kernel
theorem d_C_called_7 : decode prog_1_method_8_code 7 = .ok (.aload 5, 2) := by decide +kernel
theorem d_C_called_9 : decode prog_1_method_8_code 9 = .ok (.ifnonnull 10, 3) := by decide +kernel
theorem d_C_called_12 : decode prog_1_method_8_code 12 = .ok (.aload_n 0, 1) := by decide +kernel
theorem d_C_called_13 : decode prog_1_method_8_code 13 = .ok (.iconst 4, 1) := by decide +kernel
theorem d_C_called_14 : decode prog_1_method_8_code 14 = .ok (.iconst 0, 1) := by decide +kernel
theorem d_C_called_15 : decode prog_1_method_8_code 15 = .ok (.invokevirtual 88, 3) := by decide +kernel
theorem d_C_called_18 : decode prog_1_method_8_code 18 = .ok (.ireturn, 1) := by decide +kernel
theorem d_C_called_19 : decode prog_1_method_8_code 19 = .ok (.aload 5, 2) := by decide +kernel
theorem d_C_called_21 : decode prog_1_method_8_code 21 = .ok (.instanceof 92, 3) := by decide +kernel
theorem d_C_called_24 : decode prog_1_method_8_code 24 = .ok (.ifCond .eq 11, 3) := by decide +kernel
theorem d_C_called_27 : decode prog_1_method_8_code 27 = .ok (.aload_n 0, 1) := by decide +kernel
theorem d_C_called_28 : decode prog_1_method_8_code 28 = .ok (.bipush 9, 2) := by decide +kernel
theorem d_C_called_30 : decode prog_1_method_8_code 30 = .ok (.iconst 0, 1) := by decide +kernel
theorem d_C_called_31 : decode prog_1_method_8_code 31 = .ok (.invokevirtual 88, 3) := by decide +kernel
theorem d_C_called_34 : decode prog_1_method_8_code 34 = .ok (.ireturn, 1) := by decide +kernel
theorem d_C_called_35 : decode prog_1_method_8_code 35 = .ok (.iload_n 2, 1) := by decide +kernel
theorem d_C_called_36 : decode prog_1_method_8_code 36 = .ok (.iconst 1, 1) := by decide +kernel
theorem d_C_called_37 : decode prog_1_method_8_code 37 = .ok (.if_icmp .eq 8, 3) := by decide +kernel
theorem d_C_called_40 : decode prog_1_method_8_code 40 = .ok (.iload_n 2, 1) := by decide +kernel
theorem d_C_called_41 : decode prog_1_method_8_code 41 = .ok (.iconst 2, 1) := by decide +kernel
theorem d_C_called_42 : decode prog_1_method_8_code 42 = .ok (.if_icmp .ne 7, 3) := by decide +kernel
theorem d_C_called_45 : decode prog_1_method_8_code 45 = .ok (.iload_n 3, 1) := by decide +kernel
theorem d_C_called_46 : decode prog_1_method_8_code 46 = .ok (.ifCond .ge 10, 3) := by decide +kernel
theorem d_C_called_49 : decode prog_1_method_8_code 49 = .ok (.aload_n 0, 1) := by decide +kernel
theorem d_C_called_50 : decode prog_1_method_8_code 50 = .ok (.iconst 2, 1) := by decide +kernel
theorem d_C_called_51 : decode prog_1_method_8_code 51 = .ok (.iconst 0, 1) := by decide +kernel
theorem d_C_called_52 : decode prog_1_method_8_code 52 = .ok (.invokevirtual 88, 3) := by decide +kernel
theorem d_C_called_55 : decode prog_1_method_8_code 55 = .ok (.ireturn, 1) := by decide +kernel
theorem d_C_called_56 : decode prog_1_method_8_code 56 = .ok (.iload 4, 2) := by decide +kernel
theorem d_C_called_58 : decode prog_1_method_8_code 58 = .ok (.aload_n 0, 1) := by decide +kernel
theorem d_C_called_59 : decode prog_1_method_8_code 59 = .ok (.getfield 26, 3) := by decide +kernel
theorem d_C_called_62 : decode prog_1_method_8_code 62 = .ok (.invokestatic 107, 3) := by decide +kernel
theorem d_C_called_65 : decode prog_1_method_8_code 65 = .ok (.ifCond .ne 11, 3) := by decide +kernel
theorem d_C_called_68 : decode prog_1_method_8_code 68 = .ok (.aload_n 0, 1) := by decide +kernel
theorem d_C_called_69 : decode prog_1_method_8_code 69 = .ok (.bipush 8, 2) := by decide +kernel
theorem d_C_called_71 : decode prog_1_method_8_code 71 = .ok (.iconst 0, 1) := by decide +kernel
theorem d_C_called_72 : decode prog_1_method_8_code 72 = .ok (.invokevirtual 88, 3) := by decide +kernel
theorem d_C_called_75 : decode prog_1_method_8_code 75 = .ok (.ireturn, 1) := by decide +kernel
theorem d_C_called_76 : decode prog_1_method_8_code 76 = .ok (.aload 5, 2) := by decide +kernel
theorem d_C_called_78 : decode prog_1_method_8_code 78 = .ok (.getfield 111, 3) := by decide +kernel
theorem d_C_called_81 : decode prog_1_method_8_code 81 = .ok (.iload_n 2, 1) := by decide +kernel
theorem d_C_called_82 : decode prog_1_method_8_code 82 = .ok (.iload_n 3, 1) := by decide +kernel
theorem d_C_called_83 : decode prog_1_method_8_code 83 = .ok (.iastore, 1) := by decide +kernel
theorem d_C_called_84 : decode prog_1_method_8_code 84 = .ok (.aload 5, 2) := by decide +kernel
theorem d_C_called_86 : decode prog_1_method_8_code 86 = .ok (.getfield 114, 3) := by decide +kernel
theorem d_C_called_89 : decode prog_1_method_8_code 89 = .ok (.iload_n 2, 1) := by decide +kernel
theorem d_C_called_90 : decode prog_1_method_8_code 90 = .ok (.iload 4, 2) := by decide +kernel
theorem d_C_called_92 : decode prog_1_method_8_code 92 = .ok (.iastore, 1) := by decide +kernel
theorem d_C_called_93 : decode prog_1_method_8_code 93 = .ok (.aload_n 0, 1) := by decide +kernel
theorem d_C_called_94 : decode prog_1_method_8_code 94 = .ok (.getfield 43, 3) := by decide +kernel
theorem d_C_called_97 : decode prog_1_method_8_code 97 = .ok (.iconst 1, 1) := by decide +kernel
theorem d_C_called_98 : decode prog_1_method_8_code 98 = .ok (.putfield 81, 3) := by decide +kernel
theorem d_C_called_101 : decode prog_1_method_8_code 101 = .ok (.aload_n 0, 1) := by decide +kernel
theorem d_C_called_102 : decode prog_1_method_8_code 102 = .ok (.iconst 0, 1) := by decide +kernel
theorem d_C_called_103 : decode prog_1_method_8_code 103 = .ok (.iconst 1, 1) := by decide +kernel
theorem d_C_called_104 : decode prog_1_method_8_code 104 = .ok (.invokevirtual 88, 3) := by decide +kernel
theorem d_C_called_107 : decode prog_1_method_8_code 107 = .ok (.ireturn, 1) := by decide +kernel
set_option maxRecDepth 20000 in
theorem jc_C_called_49 (N : Nat) (l0 : Option Nat) (h : Hp) : J p l e R s m args below meth c prog_1_method_8_code 6 "RingingChamber" 1 22 (some .int) "called" D dA B n0 s0 (QM below args s D dA B n0 s0 vI) 49 [(0, vr l0)] [] h (C_called_49 N l0 h) := by
  unfold C_called_49
  refine j_aload_n d_C_called_49 0 rfl rfl ?_
  refine j_iconst (v := 2) d_C_called_50 (by decide) ?_
  refine j_iconst (v := 0) d_C_called_51 (by decide) ?_
  refine j_vI2 d_C_called_52 (allQ.cons (VD.mk vt_11_88_11 (ct_C_finds N l D dA B l0 2 0 h) (by decide) (by decide)) allQ.nil) (Nat.le_of_ble_eq_true rfl) (fun x2 h1 => ?_)
  exact j_retI d_C_called_55
set_option maxRecDepth 20000 in
theorem jc_C_called_45 (N : Nat) (l0 : Option Nat) (l2 : Int32) (l3 : Int32) (l4 : Int32) (l5 : Option Nat) (h : Hp) : J p l e R s m args below meth c prog_1_method_8_code 6 "RingingChamber" 1 22 (some .int) "called" D dA B n0 s0 (QM below args s D dA B n0 s0 vI) 45 [(0, vr l0), (2, vi l2), (3, vi l3), (4, vi l4), (5, vr l5)] [] h (C_called_45 N l0 l2 l3 l4 l5 h) := by
  unfold C_called_45
  refine j_iload_n d_C_called_45 2 rfl rfl ?_
  refine j_if_ge (tgt := 56) d_C_called_46 (by decide) ?_ ?_
  · refine j_iload d_C_called_56 3 rfl ?_
    refine j_aload_n d_C_called_58 0 rfl rfl ?_
    refine j_getI d_C_called_59 fl_11_26.r (fun x1 => ?_)
    refine j_cSI2 d_C_called_62 sl_11_107 ks_Rows_isChange (ct_Rows_isChange N l D dA B l4 x1 h) (by decide) (by decide) (Nat.le_of_ble_eq_true rfl) (fun x3 h2 => ?_)
    refine j_if_ne (tgt := 76) d_C_called_65 (by decide) ?_ ?_
    · refine j_aload_n d_C_called_68 0 rfl rfl ?_
      refine j_bipush (v := 8) d_C_called_69 (by decide) ?_
      refine j_iconst (v := 0) d_C_called_71 (by decide) ?_
      refine j_vI2 d_C_called_72 (allQ.cons (VD.mk vt_11_88_11 (ct_C_finds N l D dA B l0 8 0 h2) (by decide) (by decide)) allQ.nil) (Nat.le_of_ble_eq_true rfl) (fun x13 h12 => ?_)
      exact j_retI d_C_called_75
    · refine j_aload d_C_called_76 4 rfl ?_
      refine j_getR d_C_called_78 fl_11_111 (fun x4 => ?_)
      refine j_iload_n d_C_called_81 1 rfl rfl ?_
      refine j_iload_n d_C_called_82 2 rfl rfl ?_
      refine j_iast d_C_called_83 (fun h5 => ?_)
      refine j_aload d_C_called_84 4 rfl ?_
      refine j_getR d_C_called_86 fl_11_114 (fun x6 => ?_)
      refine j_iload_n d_C_called_89 1 rfl rfl ?_
      refine j_iload d_C_called_90 3 rfl ?_
      refine j_iast d_C_called_92 (fun h7 => ?_)
      refine j_aload_n d_C_called_93 0 rfl rfl ?_
      refine j_getR d_C_called_94 fl_11_43.r (fun x8 => ?_)
      refine j_iconst (v := 1) d_C_called_97 (by decide) ?_
      refine j_putZ d_C_called_98 fl_11_81 (Or.inl rfl) (fun h9 => ?_)
      refine j_aload_n d_C_called_101 0 rfl rfl ?_
      refine j_iconst (v := 0) d_C_called_102 (by decide) ?_
      refine j_iconst (v := 1) d_C_called_103 (by decide) ?_
      refine j_vI2 d_C_called_104 (allQ.cons (VD.mk vt_11_88_11 (ct_C_finds N l D dA B l0 0 1 h9) (by decide) (by decide)) allQ.nil) (Nat.le_of_ble_eq_true rfl) (fun x11 h10 => ?_)
      exact j_retI d_C_called_107
  · exact J.sub [0] rfl (jc_C_called_49 N l0 h)
set_option maxRecDepth 20000 in
theorem jc_C_called (N : Nat) (l0 : Option Nat) (l1 : Int32) (l2 : Int32) (l3 : Int32) (l4 : Int32) (h : Hp) : J p l e R s m args below meth c prog_1_method_8_code 6 "RingingChamber" 1 22 (some .int) "called" D dA B n0 s0 (QM below args s D dA B n0 s0 vI) 0 [(0, vr l0), (1, vi l1), (2, vi l2), (3, vi l3), (4, vi l4)] [] h (C_called N l0 l1 l2 l3 l4 h) := by
  unfold C_called
  refine j_aload_n d_C_called_0 0 rfl rfl ?_
  refine j_iload_n d_C_called_1 1 rfl rfl ?_
  refine j_vR1 d_C_called_2 (allQ.cons (VD.mk vt_11_85_11 (ct_C_methodAt N l D dA B l0 l1 h) (by decide) (by decide)) allQ.nil) (Nat.le_of_ble_eq_true rfl) (fun x2 h1 => ?_)
  refine j_astore (lv' := [(5, vr x2), (0, vr l0), (1, vi l1), (2, vi l2), (3, vi l3), (4, vi l4)]) d_C_called_5 (by decide) rfl ?_
  refine j_aload d_C_called_7 0 rfl ?_
  refine j_ifnonnull (tgt := 19) d_C_called_9 (by decide) ?_ ?_
  · refine j_aload_n d_C_called_12 1 rfl rfl ?_
    refine j_iconst (v := 4) d_C_called_13 (by decide) ?_
    refine j_iconst (v := 0) d_C_called_14 (by decide) ?_
    refine j_vI2 d_C_called_15 (allQ.cons (VD.mk vt_11_88_11 (ct_C_finds N l D dA B l0 4 0 h1) (by decide) (by decide)) allQ.nil) (Nat.le_of_ble_eq_true rfl) (fun x7 h6 => ?_)
    exact j_retI d_C_called_18
  · refine j_aload d_C_called_19 0 rfl ?_
    refine j_io d_C_called_21 kl_11_92 (fun x3 => ?_)
    refine j_if_eq (tgt := 35) d_C_called_24 (by decide) ?_ ?_
    · refine j_iload_n d_C_called_35 3 rfl rfl ?_
      refine j_iconst (v := 1) d_C_called_36 (by decide) ?_
      refine j_icmp_eq (tgt := 45) d_C_called_37 (by decide) ?_ ?_
      · exact J.sub [1, 3, 4, 5, 0] rfl (jc_C_called_45 N l0 l2 l3 l4 x2 h1)
      · refine j_iload_n d_C_called_40 3 rfl rfl ?_
        refine j_iconst (v := 2) d_C_called_41 (by decide) ?_
        refine j_icmp_ne (tgt := 49) d_C_called_42 (by decide) ?_ ?_
        · exact J.sub [1, 3, 4, 5, 0] rfl (jc_C_called_45 N l0 l2 l3 l4 x2 h1)
        · exact J.sub [1] rfl (jc_C_called_49 N l0 h1)
    · refine j_aload_n d_C_called_27 1 rfl rfl ?_
      refine j_bipush (v := 9) d_C_called_28 (by decide) ?_
      refine j_iconst (v := 0) d_C_called_30 (by decide) ?_
      refine j_vI2 d_C_called_31 (allQ.cons (VD.mk vt_11_88_11 (ct_C_finds N l D dA B l0 9 0 h1) (by decide) (by decide)) allQ.nil) (Nat.le_of_ble_eq_true rfl) (fun x5 h4 => ?_)
      exact j_retI d_C_called_34
set_option maxRecDepth 20000 in
theorem ct_C_called (N : Nat) (l : Launch) (D : va_G) (dA : Nat → ClassId) (B : Nat) (l0 : Option Nat) (l1 : Int32) (l2 : Int32) (l3 : Int32) (l4 : Int32) (h : Hp) : Ct l (⟨"RingingChamber", "called", "(IIII)I"⟩ : MethodName) prog_1_method_8_code 6 (some .int) 1 22 D dA B [vr l0, vi l1, vi l2, vi l3, vi l4] h vI (C_called N l0 l1 l2 l3 l4 h) :=
  Ct.of2 (own := "RingingChamber") (nme := "called") (lv := [(0, vr l0), (1, vi l1), (2, vi l2), (3, vi l3), (4, vi l4)]) rfl rfl (by decide) (Nat.le_of_ble_eq_true rfl) rfl (fun p e R s m args below meth c => jc_C_called N l0 l1 l2 l3 l4 h)
theorem d_C_part_0 : decode prog_1_method_9_code 0 = .ok (.aload_n 0, 1) := by decide +kernel
theorem d_C_part_1 : decode prog_1_method_9_code 1 = .ok (.iload_n 1, 1) := by decide +kernel
theorem d_C_part_2 : decode prog_1_method_9_code 2 = .ok (.invokevirtual 85, 3) := by decide +kernel
theorem d_C_part_5 : decode prog_1_method_9_code 5 = .ok (.astore_n 3, 1) := by decide +kernel
theorem d_C_part_6 : decode prog_1_method_9_code 6 = .ok (.aload_n 0, 1) := by decide +kernel
theorem d_C_part_7 : decode prog_1_method_9_code 7 = .ok (.iload_n 2, 1) := by decide +kernel
theorem d_C_part_8 : decode prog_1_method_9_code 8 = .ok (.invokevirtual 85, 3) := by decide +kernel
theorem d_C_part_11 : decode prog_1_method_9_code 11 = .ok (.astore 4, 2) := by decide +kernel
theorem d_C_part_13 : decode prog_1_method_9_code 13 = .ok (.aload_n 3, 1) := by decide +kernel
theorem d_C_part_14 : decode prog_1_method_9_code 14 = .ok (.ifnull 8, 3) := by decide +kernel
theorem d_C_part_17 : decode prog_1_method_9_code 17 = .ok (.aload 4, 2) := by decide +kernel
theorem d_C_part_19 : decode prog_1_method_9_code 19 = .ok (.ifnonnull 10, 3) := by decide +kernel
theorem d_C_part_22 : decode prog_1_method_9_code 22 = .ok (.aload_n 0, 1) := by decide +kernel
theorem d_C_part_23 : decode prog_1_method_9_code 23 = .ok (.iconst 4, 1) := by decide +kernel
theorem d_C_part_24 : decode prog_1_method_9_code 24 = .ok (.iconst 0, 1) := by decide +kernel
theorem d_C_part_25 : decode prog_1_method_9_code 25 = .ok (.invokevirtual 88, 3) := by decide +kernel
theorem d_C_part_28 : decode prog_1_method_9_code 28 = .ok (.ireturn, 1) := by decide +kernel
theorem d_C_part_29 : decode prog_1_method_9_code 29 = .ok (.aload_n 3, 1) := by decide +kernel
theorem d_C_part_30 : decode prog_1_method_9_code 30 = .ok (.instanceof 92, 3) := by decide +kernel
theorem d_C_part_33 : decode prog_1_method_9_code 33 = .ok (.ifCond .eq 17, 3) := by decide +kernel
theorem d_C_part_36 : decode prog_1_method_9_code 36 = .ok (.aload_n 3, 1) := by decide +kernel
theorem d_C_part_37 : decode prog_1_method_9_code 37 = .ok (.checkcast 92, 3) := by decide +kernel
theorem d_C_part_40 : decode prog_1_method_9_code 40 = .ok (.astore 5, 2) := by decide +kernel
theorem d_C_part_42 : decode prog_1_method_9_code 42 = .ok (.aload 4, 2) := by decide +kernel
theorem d_C_part_44 : decode prog_1_method_9_code 44 = .ok (.instanceof 92, 3) := by decide +kernel
theorem d_C_part_47 : decode prog_1_method_9_code 47 = .ok (.ifCond .eq 10, 3) := by decide +kernel
theorem d_C_part_50 : decode prog_1_method_9_code 50 = .ok (.aload_n 0, 1) := by decide +kernel
theorem d_C_part_51 : decode prog_1_method_9_code 51 = .ok (.iconst 3, 1) := by decide +kernel
theorem d_C_part_52 : decode prog_1_method_9_code 52 = .ok (.iconst 0, 1) := by decide +kernel
theorem d_C_part_53 : decode prog_1_method_9_code 53 = .ok (.invokevirtual 88, 3) := by decide +kernel
theorem d_C_part_56 : decode prog_1_method_9_code 56 = .ok (.ireturn, 1) := by decide +kernel
theorem d_C_part_57 : decode prog_1_method_9_code 57 = .ok (.iload_n 2, 1) := by decide +kernel
theorem d_C_part_58 : decode prog_1_method_9_code 58 = .ok (.iload_n 1, 1) := by decide +kernel
theorem d_C_part_59 : decode prog_1_method_9_code 59 = .ok (.if_icmp .ge 13, 3) := by decide +kernel
theorem d_C_part_62 : decode prog_1_method_9_code 62 = .ok (.aload 5, 2) := by decide +kernel
theorem d_C_part_64 : decode prog_1_method_9_code 64 = .ok (.getfield 117, 3) := by decide +kernel
theorem d_C_part_67 : decode prog_1_method_9_code 67 = .ok (.bipush 6, 2) := by decide +kernel
theorem d_C_part_69 : decode prog_1_method_9_code 69 = .ok (.if_icmp .lt 10, 3) := by decide +kernel
theorem d_C_part_72 : decode prog_1_method_9_code 72 = .ok (.aload_n 0, 1) := by decide +kernel
theorem d_C_part_73 : decode prog_1_method_9_code 73 = .ok (.iconst 2, 1) := by decide +kernel
theorem d_C_part_74 : decode prog_1_method_9_code 74 = .ok (.iconst 0, 1) := by decide +kernel
theorem d_C_part_75 : decode prog_1_method_9_code 75 = .ok (.invokevirtual 88, 3) := by decide +kernel
theorem d_C_part_78 : decode prog_1_method_9_code 78 = .ok (.ireturn, 1) := by decide +kernel
theorem d_C_part_79 : decode prog_1_method_9_code 79 = .ok (.aload 5, 2) := by decide +kernel
theorem d_C_part_81 : decode prog_1_method_9_code 81 = .ok (.getfield 120, 3) := by decide +kernel
theorem d_C_part_84 : decode prog_1_method_9_code 84 = .ok (.aload 5, 2) := by decide +kernel
theorem d_C_part_86 : decode prog_1_method_9_code 86 = .ok (.getfield 117, 3) := by decide +kernel
theorem d_C_part_89 : decode prog_1_method_9_code 89 = .ok (.aload 4, 2) := by decide +kernel
theorem d_C_part_91 : decode prog_1_method_9_code 91 = .ok (.aastore, 1) := by decide +kernel
theorem d_C_part_92 : decode prog_1_method_9_code 92 = .ok (.aload 5, 2) := by decide +kernel
theorem d_C_part_94 : decode prog_1_method_9_code 94 = .ok (.dup, 1) := by decide +kernel
theorem d_C_part_95 : decode prog_1_method_9_code 95 = .ok (.getfield 117, 3) := by decide +kernel
theorem d_C_part_98 : decode prog_1_method_9_code 98 = .ok (.iconst 1, 1) := by decide +kernel
theorem d_C_part_99 : decode prog_1_method_9_code 99 = .ok (.iadd, 1) := by decide +kernel
theorem d_C_part_100 : decode prog_1_method_9_code 100 = .ok (.putfield 117, 3) := by decide +kernel
theorem d_C_part_103 : decode prog_1_method_9_code 103 = .ok (.aload_n 0, 1) := by decide +kernel
theorem d_C_part_104 : decode prog_1_method_9_code 104 = .ok (.getfield 43, 3) := by decide +kernel
theorem d_C_part_107 : decode prog_1_method_9_code 107 = .ok (.iconst 1, 1) := by decide +kernel
theorem d_C_part_108 : decode prog_1_method_9_code 108 = .ok (.putfield 81, 3) := by decide +kernel
theorem d_C_part_111 : decode prog_1_method_9_code 111 = .ok (.aload_n 0, 1) := by decide +kernel
theorem d_C_part_112 : decode prog_1_method_9_code 112 = .ok (.iconst 0, 1) := by decide +kernel
theorem d_C_part_113 : decode prog_1_method_9_code 113 = .ok (.aload 5, 2) := by decide +kernel
theorem d_C_part_115 : decode prog_1_method_9_code 115 = .ok (.getfield 117, 3) := by decide +kernel
theorem d_C_part_118 : decode prog_1_method_9_code 118 = .ok (.invokevirtual 88, 3) := by decide +kernel
theorem d_C_part_121 : decode prog_1_method_9_code 121 = .ok (.ireturn, 1) := by decide +kernel
set_option maxRecDepth 20000 in
theorem jc_C_part_22 (N : Nat) (l0 : Option Nat) (h : Hp) : J p l e R s m args below meth c prog_1_method_9_code 6 "RingingChamber" 1 22 (some .int) "part" D dA B n0 s0 (QM below args s D dA B n0 s0 vI) 22 [(0, vr l0)] [] h (C_part_22 N l0 h) := by
  unfold C_part_22
  refine j_aload_n d_C_part_22 0 rfl rfl ?_
  refine j_iconst (v := 4) d_C_part_23 (by decide) ?_
  refine j_iconst (v := 0) d_C_part_24 (by decide) ?_
  refine j_vI2 d_C_part_25 (allQ.cons (VD.mk vt_11_88_11 (ct_C_finds N l D dA B l0 4 0 h) (by decide) (by decide)) allQ.nil) (Nat.le_of_ble_eq_true rfl) (fun x2 h1 => ?_)
  exact j_retI d_C_part_28
set_option maxRecDepth 20000 in
theorem jc_C_part_50 (N : Nat) (l0 : Option Nat) (h : Hp) : J p l e R s m args below meth c prog_1_method_9_code 6 "RingingChamber" 1 22 (some .int) "part" D dA B n0 s0 (QM below args s D dA B n0 s0 vI) 50 [(0, vr l0)] [] h (C_part_50 N l0 h) := by
  unfold C_part_50
  refine j_aload_n d_C_part_50 0 rfl rfl ?_
  refine j_iconst (v := 3) d_C_part_51 (by decide) ?_
  refine j_iconst (v := 0) d_C_part_52 (by decide) ?_
  refine j_vI2 d_C_part_53 (allQ.cons (VD.mk vt_11_88_11 (ct_C_finds N l D dA B l0 3 0 h) (by decide) (by decide)) allQ.nil) (Nat.le_of_ble_eq_true rfl) (fun x2 h1 => ?_)
  exact j_retI d_C_part_56
set_option maxRecDepth 20000 in
theorem jc_C_part_72 (N : Nat) (l0 : Option Nat) (h : Hp) : J p l e R s m args below meth c prog_1_method_9_code 6 "RingingChamber" 1 22 (some .int) "part" D dA B n0 s0 (QM below args s D dA B n0 s0 vI) 72 [(0, vr l0)] [] h (C_part_72 N l0 h) := by
  unfold C_part_72
  refine j_aload_n d_C_part_72 0 rfl rfl ?_
  refine j_iconst (v := 2) d_C_part_73 (by decide) ?_
  refine j_iconst (v := 0) d_C_part_74 (by decide) ?_
  refine j_vI2 d_C_part_75 (allQ.cons (VD.mk vt_11_88_11 (ct_C_finds N l D dA B l0 2 0 h) (by decide) (by decide)) allQ.nil) (Nat.le_of_ble_eq_true rfl) (fun x2 h1 => ?_)
  exact j_retI d_C_part_78
set_option maxRecDepth 20000 in
theorem jc_C_part (N : Nat) (l0 : Option Nat) (l1 : Int32) (l2 : Int32) (h : Hp) : J p l e R s m args below meth c prog_1_method_9_code 6 "RingingChamber" 1 22 (some .int) "part" D dA B n0 s0 (QM below args s D dA B n0 s0 vI) 0 [(0, vr l0), (1, vi l1), (2, vi l2)] [] h (C_part N l0 l1 l2 h) := by
  unfold C_part
  refine j_aload_n d_C_part_0 0 rfl rfl ?_
  refine j_iload_n d_C_part_1 1 rfl rfl ?_
  refine j_vR1 d_C_part_2 (allQ.cons (VD.mk vt_11_85_11 (ct_C_methodAt N l D dA B l0 l1 h) (by decide) (by decide)) allQ.nil) (Nat.le_of_ble_eq_true rfl) (fun x2 h1 => ?_)
  refine j_astore_n (lv' := [(3, vr x2), (0, vr l0), (1, vi l1), (2, vi l2)]) d_C_part_5 rfl (by decide) rfl ?_
  refine j_aload_n d_C_part_6 1 rfl rfl ?_
  refine j_iload_n d_C_part_7 3 rfl rfl ?_
  refine j_vR1 d_C_part_8 (allQ.cons (VD.mk vt_11_85_11 (ct_C_methodAt N l D dA B l0 l2 h1) (by decide) (by decide)) allQ.nil) (Nat.le_of_ble_eq_true rfl) (fun x4 h3 => ?_)
  refine j_astore (lv' := [(4, vr x4), (3, vr x2), (0, vr l0), (1, vi l1), (2, vi l2)]) d_C_part_11 (by decide) rfl ?_
  refine j_aload_n d_C_part_13 1 rfl rfl ?_
  refine j_ifnull (tgt := 22) d_C_part_14 (by decide) ?_ ?_
  · exact J.sub [2] rfl (jc_C_part_22 N l0 h3)
  · refine j_aload d_C_part_17 0 rfl ?_
    refine j_ifnonnull (tgt := 29) d_C_part_19 (by decide) ?_ ?_
    · exact J.sub [2] rfl (jc_C_part_22 N l0 h3)
    · refine j_aload_n d_C_part_29 1 rfl rfl ?_
      refine j_io d_C_part_30 kl_11_92 (fun x5 => ?_)
      refine j_if_eq (tgt := 50) d_C_part_33 (by decide) ?_ ?_
      · exact J.sub [2] rfl (jc_C_part_50 N l0 h3)
      · refine j_aload_n d_C_part_36 1 rfl rfl ?_
        refine j_kc d_C_part_37 kl_11_92 ?_
        refine j_astore (lv' := [(5, vr x2), (4, vr x4), (3, vr x2), (0, vr l0), (1, vi l1), (2, vi l2)]) d_C_part_40 (by decide) rfl ?_
        refine j_aload d_C_part_42 1 rfl ?_
        refine j_io d_C_part_44 kl_11_92 (fun x6 => ?_)
        refine j_if_eq (tgt := 57) d_C_part_47 (by decide) ?_ ?_
        · refine j_iload_n d_C_part_57 5 rfl rfl ?_
          refine j_iload_n d_C_part_58 4 rfl rfl ?_
          refine j_icmp_ge (tgt := 72) d_C_part_59 (by decide) ?_ ?_
          · exact J.sub [3] rfl (jc_C_part_72 N l0 h3)
          · refine j_aload d_C_part_62 0 rfl ?_
            refine j_getI d_C_part_64 fl_11_117.r (fun x7 => ?_)
            refine j_bipush (v := 6) d_C_part_67 (by decide) ?_
            refine j_icmp_lt (tgt := 79) d_C_part_69 (by decide) ?_ ?_
            · refine j_aload d_C_part_79 0 rfl ?_
              refine j_getR d_C_part_81 fl_11_120 (fun x8 => ?_)
              refine j_aload d_C_part_84 0 rfl ?_
              refine j_getI d_C_part_86 fl_11_117.r (fun x9 => ?_)
              refine j_aload d_C_part_89 1 rfl ?_
              refine j_ast18 d_C_part_91 (fun h10 => ?_)
              refine j_aload d_C_part_92 0 rfl ?_
              refine j_dup d_C_part_94 rfl ?_
              refine j_getI d_C_part_95 fl_11_117.r (fun x11 => ?_)
              refine j_iconst (v := 1) d_C_part_98 (by decide) ?_
              refine j_iadd d_C_part_99 ?_
              refine j_putI d_C_part_100 fl_11_117 (Or.inl rfl) (fun h12 => ?_)
              refine j_aload_n d_C_part_103 3 rfl rfl ?_
              refine j_getR d_C_part_104 fl_11_43.r (fun x13 => ?_)
              refine j_iconst (v := 1) d_C_part_107 (by decide) ?_
              refine j_putZ d_C_part_108 fl_11_81 (Or.inl rfl) (fun h14 => ?_)
              refine j_aload_n d_C_part_111 3 rfl rfl ?_
              refine j_iconst (v := 0) d_C_part_112 (by decide) ?_
              refine j_aload d_C_part_113 0 rfl ?_
              refine j_getI d_C_part_115 fl_11_117.r (fun x15 => ?_)
              refine j_vI2 d_C_part_118 (allQ.cons (VD.mk vt_11_88_11 (ct_C_finds N l D dA B l0 0 x15 h14) (by decide) (by decide)) allQ.nil) (Nat.le_of_ble_eq_true rfl) (fun x17 h16 => ?_)
              exact j_retI d_C_part_121
            · exact J.sub [3] rfl (jc_C_part_72 N l0 h3)
        · exact J.sub [3] rfl (jc_C_part_50 N l0 h3)
set_option maxRecDepth 20000 in
theorem ct_C_part (N : Nat) (l : Launch) (D : va_G) (dA : Nat → ClassId) (B : Nat) (l0 : Option Nat) (l1 : Int32) (l2 : Int32) (h : Hp) : Ct l (⟨"RingingChamber", "part", "(II)I"⟩ : MethodName) prog_1_method_9_code 6 (some .int) 1 22 D dA B [vr l0, vi l1, vi l2] h vI (C_part N l0 l1 l2 h) :=
  Ct.of2 (own := "RingingChamber") (nme := "part") (lv := [(0, vr l0), (1, vi l1), (2, vi l2)]) rfl rfl (by decide) (Nat.le_of_ble_eq_true rfl) rfl (fun p e R s m args below meth c => jc_C_part N l0 l1 l2 h)
theorem d_C_isCall_0 : decode prog_1_method_47_code 0 = .ok (.iload_n 0, 1) := by decide +kernel
theorem d_C_isCall_1 : decode prog_1_method_47_code 1 = .ok (.ifCond .lt 12, 3) := by decide +kernel
theorem d_C_isCall_4 : decode prog_1_method_47_code 4 = .ok (.iload_n 0, 1) := by decide +kernel
theorem d_C_isCall_5 : decode prog_1_method_47_code 5 = .ok (.iconst 3, 1) := by decide +kernel
theorem d_C_isCall_6 : decode prog_1_method_47_code 6 = .ok (.if_icmp .ge 7, 3) := by decide +kernel
theorem d_C_isCall_9 : decode prog_1_method_47_code 9 = .ok (.iconst 1, 1) := by decide +kernel
theorem d_C_isCall_10 : decode prog_1_method_47_code 10 = .ok (.goto 4, 3) := by decide +kernel
theorem d_C_isCall_13 : decode prog_1_method_47_code 13 = .ok (.iconst 0, 1) := by decide +kernel
theorem d_C_isCall_14 : decode prog_1_method_47_code 14 = .ok (.ireturn, 1) := by decide +kernel
set_option maxRecDepth 20000 in
theorem jc_C_isCall (N : Nat) (l0 : Int32) (h : Hp) : J p l e R s m args below meth c prog_1_method_47_code 1 "RingingChamber" 0 0 (some .boolean) "isCall" D dA B n0 s0 (QM below args s D dA B n0 s0 vI) 0 [(0, vi l0)] [] h (C_isCall N l0 h) := by
  unfold C_isCall
  refine j_iload_n d_C_isCall_0 0 rfl rfl ?_
  refine j_if_lt (tgt := 13) d_C_isCall_1 (by decide) ?_ ?_
  · refine j_iconst (v := 0) d_C_isCall_13 (by decide) ?_
    exact j_retZ d_C_isCall_14
  · refine j_iload_n d_C_isCall_4 0 rfl rfl ?_
    refine j_iconst (v := 3) d_C_isCall_5 (by decide) ?_
    refine j_icmp_ge (tgt := 13) d_C_isCall_6 (by decide) ?_ ?_
    · refine j_iconst (v := 0) d_C_isCall_13 (by decide) ?_
      exact j_retZ d_C_isCall_14
    · refine j_iconst (v := 1) d_C_isCall_9 (by decide) ?_
      refine j_goto (tgt := 14) d_C_isCall_10 (by decide) ?_
      exact j_retZ d_C_isCall_14
set_option maxRecDepth 20000 in
theorem ct_C_isCall (N : Nat) (l : Launch) (D : va_G) (dA : Nat → ClassId) (B : Nat) (l0 : Int32) (h : Hp) : Ct l (⟨"RingingChamber", "isCall", "(I)Z"⟩ : MethodName) prog_1_method_47_code 1 (some .boolean) 0 0 D dA B [vi l0] h vI (C_isCall N l0 h) :=
  Ct.of2 (own := "RingingChamber") (nme := "isCall") (lv := [(0, vi l0)]) rfl rfl (by decide) (Nat.le_of_ble_eq_true rfl) rfl (fun p e R s m args below meth c => jc_C_isCall N l0 h)
theorem d_C_lead_0 : decode prog_1_method_10_code 0 = .ok (.aload_n 0, 1) := by decide +kernel
theorem d_C_lead_1 : decode prog_1_method_10_code 1 = .ok (.iload_n 1, 1) := by decide +kernel
theorem d_C_lead_2 : decode prog_1_method_10_code 2 = .ok (.invokevirtual 85, 3) := by decide +kernel
theorem d_C_lead_5 : decode prog_1_method_10_code 5 = .ok (.astore 5, 2) := by decide +kernel
theorem d_C_lead_7 : decode prog_1_method_10_code 7 = .ok (.aload 5, 2) := by decide +kernel
theorem d_C_lead_9 : decode prog_1_method_10_code 9 = .ok (.ifnonnull 10, 3) := by decide +kernel
theorem d_C_lead_12 : decode prog_1_method_10_code 12 = .ok (.aload_n 0, 1) := by decide +kernel
theorem d_C_lead_13 : decode prog_1_method_10_code 13 = .ok (.iconst 4, 1) := by decide +kernel
theorem d_C_lead_14 : decode prog_1_method_10_code 14 = .ok (.iconst (-1), 1) := by decide +kernel
theorem d_C_lead_15 : decode prog_1_method_10_code 15 = .ok (.invokevirtual 88, 3) := by decide +kernel
theorem d_C_lead_18 : decode prog_1_method_10_code 18 = .ok (.ireturn, 1) := by decide +kernel
theorem d_C_lead_19 : decode prog_1_method_10_code 19 = .ok (.iload_n 2, 1) := by decide +kernel
theorem d_C_lead_20 : decode prog_1_method_10_code 20 = .ok (.ifCond .lt 10, 3) := by decide +kernel
theorem d_C_lead_23 : decode prog_1_method_10_code 23 = .ok (.iload_n 3, 1) := by decide +kernel
theorem d_C_lead_24 : decode prog_1_method_10_code 24 = .ok (.invokestatic 123, 3) := by decide +kernel
theorem d_C_lead_27 : decode prog_1_method_10_code 27 = .ok (.ifCond .ne 10, 3) := by decide +kernel
theorem d_C_lead_30 : decode prog_1_method_10_code 30 = .ok (.aload_n 0, 1) := by decide +kernel
theorem d_C_lead_31 : decode prog_1_method_10_code 31 = .ok (.iconst 2, 1) := by decide +kernel
theorem d_C_lead_32 : decode prog_1_method_10_code 32 = .ok (.iconst (-1), 1) := by decide +kernel
theorem d_C_lead_33 : decode prog_1_method_10_code 33 = .ok (.invokevirtual 88, 3) := by decide +kernel
theorem d_C_lead_36 : decode prog_1_method_10_code 36 = .ok (.ireturn, 1) := by decide +kernel
theorem d_C_lead_37 : decode prog_1_method_10_code 37 = .ok (.aload 5, 2) := by decide +kernel
theorem d_C_lead_39 : decode prog_1_method_10_code 39 = .ok (.iload_n 2, 1) := by decide +kernel
theorem d_C_lead_40 : decode prog_1_method_10_code 40 = .ok (.iload_n 3, 1) := by decide +kernel
theorem d_C_lead_41 : decode prog_1_method_10_code 41 = .ok (.aload_n 0, 1) := by decide +kernel
theorem d_C_lead_42 : decode prog_1_method_10_code 42 = .ok (.getfield 50, 3) := by decide +kernel
theorem d_C_lead_45 : decode prog_1_method_10_code 45 = .ok (.invokevirtual 127, 3) := by decide +kernel
theorem d_C_lead_48 : decode prog_1_method_10_code 48 = .ok (.istore 6, 2) := by decide +kernel
theorem d_C_lead_50 : decode prog_1_method_10_code 50 = .ok (.iload 6, 2) := by decide +kernel
theorem d_C_lead_52 : decode prog_1_method_10_code 52 = .ok (.ifCond .eq 11, 3) := by decide +kernel
theorem d_C_lead_55 : decode prog_1_method_10_code 55 = .ok (.aload_n 0, 1) := by decide +kernel
theorem d_C_lead_56 : decode prog_1_method_10_code 56 = .ok (.iload 6, 2) := by decide +kernel
theorem d_C_lead_58 : decode prog_1_method_10_code 58 = .ok (.iconst (-1), 1) := by decide +kernel
theorem d_C_lead_59 : decode prog_1_method_10_code 59 = .ok (.invokevirtual 88, 3) := by decide +kernel
theorem d_C_lead_62 : decode prog_1_method_10_code 62 = .ok (.ireturn, 1) := by decide +kernel
theorem d_C_lead_63 : decode prog_1_method_10_code 63 = .ok (.iload 4, 2) := by decide +kernel
theorem d_C_lead_65 : decode prog_1_method_10_code 65 = .ok (.ifCond .lt 15, 3) := by decide +kernel
theorem d_C_lead_68 : decode prog_1_method_10_code 68 = .ok (.iload 4, 2) := by decide +kernel
theorem d_C_lead_70 : decode prog_1_method_10_code 70 = .ok (.aload_n 0, 1) := by decide +kernel
theorem d_C_lead_71 : decode prog_1_method_10_code 71 = .ok (.getfield 50, 3) := by decide +kernel
theorem d_C_lead_74 : decode prog_1_method_10_code 74 = .ok (.getfield 104, 3) := by decide +kernel
theorem d_C_lead_77 : decode prog_1_method_10_code 77 = .ok (.if_icmp .lt 10, 3) := by decide +kernel
theorem d_C_lead_80 : decode prog_1_method_10_code 80 = .ok (.aload_n 0, 1) := by decide +kernel
theorem d_C_lead_81 : decode prog_1_method_10_code 81 = .ok (.iconst 2, 1) := by decide +kernel
theorem d_C_lead_82 : decode prog_1_method_10_code 82 = .ok (.iconst (-1), 1) := by decide +kernel
theorem d_C_lead_83 : decode prog_1_method_10_code 83 = .ok (.invokevirtual 88, 3) := by decide +kernel
theorem d_C_lead_86 : decode prog_1_method_10_code 86 = .ok (.ireturn, 1) := by decide +kernel
theorem d_C_lead_87 : decode prog_1_method_10_code 87 = .ok (.aload_n 0, 1) := by decide +kernel
theorem d_C_lead_88 : decode prog_1_method_10_code 88 = .ok (.iconst 0, 1) := by decide +kernel
theorem d_C_lead_89 : decode prog_1_method_10_code 89 = .ok (.aload_n 0, 1) := by decide +kernel
theorem d_C_lead_90 : decode prog_1_method_10_code 90 = .ok (.getfield 50, 3) := by decide +kernel
theorem d_C_lead_93 : decode prog_1_method_10_code 93 = .ok (.getfield 131, 3) := by decide +kernel
theorem d_C_lead_96 : decode prog_1_method_10_code 96 = .ok (.iload 4, 2) := by decide +kernel
theorem d_C_lead_98 : decode prog_1_method_10_code 98 = .ok (.iaload, 1) := by decide +kernel
theorem d_C_lead_99 : decode prog_1_method_10_code 99 = .ok (.invokevirtual 88, 3) := by decide +kernel
theorem d_C_lead_102 : decode prog_1_method_10_code 102 = .ok (.ireturn, 1) := by decide +kernel
set_option maxRecDepth 20000 in
theorem jc_C_lead_30 (N : Nat) (l0 : Option Nat) (h : Hp) : J p l e R s m args below meth c prog_1_method_10_code 7 "RingingChamber" 5 127 (some .int) "lead" D dA B n0 s0 (QM below args s D dA B n0 s0 vI) 30 [(0, vr l0)] [] h (C_lead_30 N l0 h) := by
  unfold C_lead_30
  refine j_aload_n d_C_lead_30 0 rfl rfl ?_
  refine j_iconst (v := 2) d_C_lead_31 (by decide) ?_
  refine j_iconst (v := -1) d_C_lead_32 (by decide) ?_
  refine j_vI2 d_C_lead_33 (allQ.cons (VD.mk vt_11_88_11 (ct_C_finds N l D dA B l0 2 (-1) h) (by decide) (by decide)) allQ.nil) (Nat.le_of_ble_eq_true rfl) (fun x2 h1 => ?_)
  exact j_retI d_C_lead_36
set_option maxRecDepth 20000 in
theorem jc_C_lead_80 (N : Nat) (l0 : Option Nat) (h : Hp) : J p l e R s m args below meth c prog_1_method_10_code 7 "RingingChamber" 5 127 (some .int) "lead" D dA B n0 s0 (QM below args s D dA B n0 s0 vI) 80 [(0, vr l0)] [] h (C_lead_80 N l0 h) := by
  unfold C_lead_80
  refine j_aload_n d_C_lead_80 0 rfl rfl ?_
  refine j_iconst (v := 2) d_C_lead_81 (by decide) ?_
  refine j_iconst (v := -1) d_C_lead_82 (by decide) ?_
  refine j_vI2 d_C_lead_83 (allQ.cons (VD.mk vt_11_88_11 (ct_C_finds N l D dA B l0 2 (-1) h) (by decide) (by decide)) allQ.nil) (Nat.le_of_ble_eq_true rfl) (fun x2 h1 => ?_)
  exact j_retI d_C_lead_86
set_option maxRecDepth 20000 in
theorem jc_C_lead (N : Nat) (l0 : Option Nat) (l1 : Int32) (l2 : Int32) (l3 : Int32) (l4 : Int32) (h : Hp) : J p l e R s m args below meth c prog_1_method_10_code 7 "RingingChamber" 5 127 (some .int) "lead" D dA B n0 s0 (QM below args s D dA B n0 s0 vI) 0 [(0, vr l0), (1, vi l1), (2, vi l2), (3, vi l3), (4, vi l4)] [] h (C_lead N l0 l1 l2 l3 l4 h) := by
  unfold C_lead
  refine j_aload_n d_C_lead_0 0 rfl rfl ?_
  refine j_iload_n d_C_lead_1 1 rfl rfl ?_
  refine j_vR1 d_C_lead_2 (allQ.cons (VD.mk vt_11_85_11 (ct_C_methodAt N l D dA B l0 l1 h) (by decide) (by decide)) allQ.nil) (Nat.le_of_ble_eq_true rfl) (fun x2 h1 => ?_)
  refine j_astore (lv' := [(5, vr x2), (0, vr l0), (1, vi l1), (2, vi l2), (3, vi l3), (4, vi l4)]) d_C_lead_5 (by decide) rfl ?_
  refine j_aload d_C_lead_7 0 rfl ?_
  refine j_ifnonnull (tgt := 19) d_C_lead_9 (by decide) ?_ ?_
  · refine j_aload_n d_C_lead_12 1 rfl rfl ?_
    refine j_iconst (v := 4) d_C_lead_13 (by decide) ?_
    refine j_iconst (v := -1) d_C_lead_14 (by decide) ?_
    refine j_vI2 d_C_lead_15 (allQ.cons (VD.mk vt_11_88_11 (ct_C_finds N l D dA B l0 4 (-1) h1) (by decide) (by decide)) allQ.nil) (Nat.le_of_ble_eq_true rfl) (fun x18 h17 => ?_)
    exact j_retI d_C_lead_18
  · refine j_iload_n d_C_lead_19 3 rfl rfl ?_
    refine j_if_lt (tgt := 30) d_C_lead_20 (by decide) ?_ ?_
    · exact J.sub [1] rfl (jc_C_lead_30 N l0 h1)
    · refine j_iload_n d_C_lead_23 4 rfl rfl ?_
      refine j_cSI1 d_C_lead_24 sl_11_123 ks_C_isCall (ct_C_isCall N l D dA B l3 h1) (by decide) (by decide) (Nat.le_of_ble_eq_true rfl) (fun x4 h3 => ?_)
      refine j_if_ne (tgt := 37) d_C_lead_27 (by decide) ?_ ?_
      · exact J.sub [1] rfl (jc_C_lead_30 N l0 h3)
      · refine j_aload d_C_lead_37 0 rfl ?_
        refine j_iload_n d_C_lead_39 3 rfl rfl ?_
        refine j_iload_n d_C_lead_40 4 rfl rfl ?_
        refine j_aload_n d_C_lead_41 1 rfl rfl ?_
        refine j_getR d_C_lead_42 fl_11_50.r (fun x5 => ?_)
        refine j_vI3 d_C_lead_45 (allQ.cons (VD.mk vt_11_127_1 (ct_Little_calledOf N l D dA B x2 l2 l3 x5 h3) (by decide) (by decide)) (allQ.cons (VD.mk vt_11_127_2 (ct_Plain_calledOf N l D dA B x2 l2 l3 x5 h3) (by decide) (by decide)) (allQ.cons (VD.mk vt_11_127_3 (ct_Principle_calledOf N l D dA B x2 l2 l3 x5 h3) (by decide) (by decide)) (allQ.cons (VD.mk vt_11_127_6 (ct_Spliced_calledOf N l D dA B x2 l2 l3 x5 h3) (by decide) (by decide)) (allQ.cons (VD.mk vt_11_127_7 (ct_Surprise_calledOf N l D dA B x2 l2 l3 x5 h3) (by decide) (by decide)) (allQ.cons (VD.mk vt_11_127_10 (ct_Plain_calledOf N l D dA B x2 l2 l3 x5 h3) (by decide) (by decide)) allQ.nil)))))) (Nat.le_of_ble_eq_true rfl) (fun x7 h6 => ?_)
        refine j_istore (lv' := [(6, vi x7), (5, vr x2), (0, vr l0), (1, vi l1), (2, vi l2), (3, vi l3), (4, vi l4)]) d_C_lead_48 (by decide) rfl ?_
        refine j_iload d_C_lead_50 0 rfl ?_
        refine j_if_eq (tgt := 63) d_C_lead_52 (by decide) ?_ ?_
        · refine j_iload d_C_lead_63 6 rfl ?_
          refine j_if_lt (tgt := 80) d_C_lead_65 (by decide) ?_ ?_
          · exact J.sub [2] rfl (jc_C_lead_80 N l0 h6)
          · refine j_iload d_C_lead_68 6 rfl ?_
            refine j_aload_n d_C_lead_70 2 rfl rfl ?_
            refine j_getR d_C_lead_71 fl_11_50.r (fun x8 => ?_)
            refine j_getI d_C_lead_74 fl_11_104.r (fun x9 => ?_)
            refine j_icmp_lt (tgt := 87) d_C_lead_77 (by decide) ?_ ?_
            · refine j_aload_n d_C_lead_87 2 rfl rfl ?_
              refine j_iconst (v := 0) d_C_lead_88 (by decide) ?_
              refine j_aload_n d_C_lead_89 2 rfl rfl ?_
              refine j_getR d_C_lead_90 fl_11_50.r (fun x10 => ?_)
              refine j_getR d_C_lead_93 fl_11_131 (fun x11 => ?_)
              refine j_iload d_C_lead_96 6 rfl ?_
              refine j_iald d_C_lead_98 (fun x12 => ?_)
              refine j_vI2 d_C_lead_99 (allQ.cons (VD.mk vt_11_88_11 (ct_C_finds N l D dA B l0 0 x12 h6) (by decide) (by decide)) allQ.nil) (Nat.le_of_ble_eq_true rfl) (fun x14 h13 => ?_)
              exact j_retI d_C_lead_102
            · exact J.sub [2] rfl (jc_C_lead_80 N l0 h6)
        · refine j_aload_n d_C_lead_55 2 rfl rfl ?_
          refine j_iload d_C_lead_56 0 rfl ?_
          refine j_iconst (v := -1) d_C_lead_58 (by decide) ?_
          refine j_vI2 d_C_lead_59 (allQ.cons (VD.mk vt_11_88_11 (ct_C_finds N l D dA B l0 x7 (-1) h6) (by decide) (by decide)) allQ.nil) (Nat.le_of_ble_eq_true rfl) (fun x16 h15 => ?_)
          exact j_retI d_C_lead_62
set_option maxRecDepth 20000 in
theorem ct_C_lead (N : Nat) (l : Launch) (D : va_G) (dA : Nat → ClassId) (B : Nat) (l0 : Option Nat) (l1 : Int32) (l2 : Int32) (l3 : Int32) (l4 : Int32) (h : Hp) : Ct l (⟨"RingingChamber", "lead", "(IIII)I"⟩ : MethodName) prog_1_method_10_code 7 (some .int) 5 127 D dA B [vr l0, vi l1, vi l2, vi l3, vi l4] h vI (C_lead N l0 l1 l2 l3 l4 h) :=
  Ct.of2 (own := "RingingChamber") (nme := "lead") (lv := [(0, vr l0), (1, vi l1), (2, vi l2), (3, vi l3), (4, vi l4)]) rfl rfl (by decide) (Nat.le_of_ble_eq_true rfl) rfl (fun p e R s m args below meth c => jc_C_lead N l0 l1 l2 l3 l4 h)
theorem d_C_judge_0 : decode prog_1_method_11_code 0 = .ok (.aload_n 0, 1) := by decide +kernel
theorem d_C_judge_1 : decode prog_1_method_11_code 1 = .ok (.iload_n 1, 1) := by decide +kernel
theorem d_C_judge_2 : decode prog_1_method_11_code 2 = .ok (.invokevirtual 85, 3) := by decide +kernel
theorem d_C_judge_5 : decode prog_1_method_11_code 5 = .ok (.astore_n 2, 1) := by decide +kernel
theorem d_C_judge_6 : decode prog_1_method_11_code 6 = .ok (.aload_n 2, 1) := by decide +kernel
theorem d_C_judge_7 : decode prog_1_method_11_code 7 = .ok (.ifnonnull 10, 3) := by decide +kernel
theorem d_C_judge_10 : decode prog_1_method_11_code 10 = .ok (.aload_n 0, 1) := by decide +kernel
theorem d_C_judge_11 : decode prog_1_method_11_code 11 = .ok (.iconst 4, 1) := by decide +kernel
theorem d_C_judge_12 : decode prog_1_method_11_code 12 = .ok (.iconst 0, 1) := by decide +kernel
theorem d_C_judge_13 : decode prog_1_method_11_code 13 = .ok (.invokevirtual 88, 3) := by decide +kernel
theorem d_C_judge_16 : decode prog_1_method_11_code 16 = .ok (.ireturn, 1) := by decide +kernel
theorem d_C_judge_17 : decode prog_1_method_11_code 17 = .ok (.aload_n 2, 1) := by decide +kernel
theorem d_C_judge_18 : decode prog_1_method_11_code 18 = .ok (.invokevirtual 134, 3) := by decide +kernel
theorem d_C_judge_21 : decode prog_1_method_11_code 21 = .ok (.istore_n 3, 1) := by decide +kernel
theorem d_C_judge_22 : decode prog_1_method_11_code 22 = .ok (.iload_n 3, 1) := by decide +kernel
theorem d_C_judge_23 : decode prog_1_method_11_code 23 = .ok (.ifCond .ge 11, 3) := by decide +kernel
theorem d_C_judge_26 : decode prog_1_method_11_code 26 = .ok (.aload_n 0, 1) := by decide +kernel
theorem d_C_judge_27 : decode prog_1_method_11_code 27 = .ok (.iload_n 3, 1) := by decide +kernel
theorem d_C_judge_28 : decode prog_1_method_11_code 28 = .ok (.ineg, 1) := by decide +kernel
theorem d_C_judge_29 : decode prog_1_method_11_code 29 = .ok (.iconst 0, 1) := by decide +kernel
theorem d_C_judge_30 : decode prog_1_method_11_code 30 = .ok (.invokevirtual 88, 3) := by decide +kernel
theorem d_C_judge_33 : decode prog_1_method_11_code 33 = .ok (.ireturn, 1) := by decide +kernel
theorem d_C_judge_34 : decode prog_1_method_11_code 34 = .ok (.aload_n 0, 1) := by decide +kernel
theorem d_C_judge_35 : decode prog_1_method_11_code 35 = .ok (.iconst 0, 1) := by decide +kernel
theorem d_C_judge_36 : decode prog_1_method_11_code 36 = .ok (.iload_n 3, 1) := by decide +kernel
theorem d_C_judge_37 : decode prog_1_method_11_code 37 = .ok (.invokevirtual 88, 3) := by decide +kernel
theorem d_C_judge_40 : decode prog_1_method_11_code 40 = .ok (.ireturn, 1) := by decide +kernel
set_option maxRecDepth 20000 in
theorem jc_C_judge (N : Nat) (l0 : Option Nat) (l1 : Int32) (h : Hp) : J p l e R s m args below meth c prog_1_method_11_code 4 "RingingChamber" 6 132 (some .int) "judge" D dA B n0 s0 (QM below args s D dA B n0 s0 vI) 0 [(0, vr l0), (1, vi l1)] [] h (C_judge N l0 l1 h) := by
  unfold C_judge
  refine j_aload_n d_C_judge_0 0 rfl rfl ?_
  refine j_iload_n d_C_judge_1 1 rfl rfl ?_
  refine j_vR1 d_C_judge_2 (allQ.cons (VD.mk vt_11_85_11 (ct_C_methodAt N l D dA B l0 l1 h) (by decide) (by decide)) allQ.nil) (Nat.le_of_ble_eq_true rfl) (fun x2 h1 => ?_)
  refine j_astore_n (lv' := [(2, vr x2), (0, vr l0), (1, vi l1)]) d_C_judge_5 rfl (by decide) rfl ?_
  refine j_aload_n d_C_judge_6 0 rfl rfl ?_
  refine j_ifnonnull (tgt := 17) d_C_judge_7 (by decide) ?_ ?_
  · refine j_aload_n d_C_judge_10 1 rfl rfl ?_
    refine j_iconst (v := 4) d_C_judge_11 (by decide) ?_
    refine j_iconst (v := 0) d_C_judge_12 (by decide) ?_
    refine j_vI2 d_C_judge_13 (allQ.cons (VD.mk vt_11_88_11 (ct_C_finds N l D dA B l0 4 0 h1) (by decide) (by decide)) allQ.nil) (Nat.le_of_ble_eq_true rfl) (fun x10 h9 => ?_)
    exact j_retI d_C_judge_16
  · refine j_aload_n d_C_judge_17 0 rfl rfl ?_
    refine j_vI0 d_C_judge_18 (allQ.cons (VD.mk vt_11_134_1 (ct_Little_judged N l D dA B x2 h1) (by decide) (by decide)) (allQ.cons (VD.mk vt_11_134_2 (ct_Plain_judged N l D dA B x2 h1) (by decide) (by decide)) (allQ.cons (VD.mk vt_11_134_3 (ct_Principle_judged N l D dA B x2 h1) (by decide) (by decide)) (allQ.cons (VD.mk vt_11_134_6 (ct_Spliced_judged N l D dA B x2 h1) (by decide) (by decide)) (allQ.cons (VD.mk vt_11_134_7 (ct_Surprise_judged N l D dA B x2 h1) (by decide) (by decide)) (allQ.cons (VD.mk vt_11_134_10 (ct_Treble_judged N l D dA B x2 h1) (by decide) (by decide)) allQ.nil)))))) (Nat.le_of_ble_eq_true rfl) (fun x4 h3 => ?_)
    refine j_istore_n (lv' := [(3, vi x4), (2, vr x2), (0, vr l0), (1, vi l1)]) d_C_judge_21 rfl (by decide) rfl ?_
    refine j_iload_n d_C_judge_22 0 rfl rfl ?_
    refine j_if_ge (tgt := 34) d_C_judge_23 (by decide) ?_ ?_
    · refine j_aload_n d_C_judge_34 2 rfl rfl ?_
      refine j_iconst (v := 0) d_C_judge_35 (by decide) ?_
      refine j_iload_n d_C_judge_36 0 rfl rfl ?_
      refine j_vI2 d_C_judge_37 (allQ.cons (VD.mk vt_11_88_11 (ct_C_finds N l D dA B l0 0 x4 h3) (by decide) (by decide)) allQ.nil) (Nat.le_of_ble_eq_true rfl) (fun x6 h5 => ?_)
      exact j_retI d_C_judge_40
    · refine j_aload_n d_C_judge_26 2 rfl rfl ?_
      refine j_iload_n d_C_judge_27 0 rfl rfl ?_
      refine j_ineg d_C_judge_28 ?_
      refine j_iconst (v := 0) d_C_judge_29 (by decide) ?_
      refine j_vI2 d_C_judge_30 (allQ.cons (VD.mk vt_11_88_11 (ct_C_finds N l D dA B l0 (-x4) 0 h3) (by decide) (by decide)) allQ.nil) (Nat.le_of_ble_eq_true rfl) (fun x8 h7 => ?_)
      exact j_retI d_C_judge_33
set_option maxRecDepth 20000 in
theorem ct_C_judge (N : Nat) (l : Launch) (D : va_G) (dA : Nat → ClassId) (B : Nat) (l0 : Option Nat) (l1 : Int32) (h : Hp) : Ct l (⟨"RingingChamber", "judge", "(I)I"⟩ : MethodName) prog_1_method_11_code 4 (some .int) 6 132 D dA B [vr l0, vi l1] h vI (C_judge N l0 l1 h) :=
  Ct.of2 (own := "RingingChamber") (nme := "judge") (lv := [(0, vr l0), (1, vi l1)]) rfl rfl (by decide) (Nat.le_of_ble_eq_true rfl) rfl (fun p e R s m args below meth c => jc_C_judge N l0 l1 h)
theorem d_C_findsRow_0 : decode prog_1_method_43_code 0 = .ok (.aload_n 0, 1) := by decide +kernel
theorem d_C_findsRow_1 : decode prog_1_method_43_code 1 = .ok (.iconst 0, 1) := by decide +kernel
theorem d_C_findsRow_2 : decode prog_1_method_43_code 2 = .ok (.putfield 266, 3) := by decide +kernel
theorem d_C_findsRow_5 : decode prog_1_method_43_code 5 = .ok (.lload_n 1, 1) := by decide +kernel
theorem d_C_findsRow_6 : decode prog_1_method_43_code 6 = .ok (.lreturn, 1) := by decide +kernel
set_option maxRecDepth 20000 in
theorem jc_C_findsRow (N : Nat) (l0 : Option Nat) (l1 : Int64) (h : Hp) : J p l e R s m args below meth c prog_1_method_43_code 3 "RingingChamber" 0 0 (some .long) "findsRow" D dA B n0 s0 (QM below args s D dA B n0 s0 vL) 0 [(0, vr l0), (1, vl l1)] [] h (C_findsRow N l0 l1 h) := by
  unfold C_findsRow
  refine j_aload_n d_C_findsRow_0 0 rfl rfl ?_
  refine j_iconst (v := 0) d_C_findsRow_1 (by decide) ?_
  refine j_putI d_C_findsRow_2 fl_11_266 (Or.inl rfl) (fun h1 => ?_)
  refine j_lload_n d_C_findsRow_5 1 rfl rfl ?_
  exact j_retL d_C_findsRow_6
set_option maxRecDepth 20000 in
theorem ct_C_findsRow (N : Nat) (l : Launch) (D : va_G) (dA : Nat → ClassId) (B : Nat) (l0 : Option Nat) (l1 : Int64) (h : Hp) : Ct l (⟨"RingingChamber", "findsRow", "(J)J"⟩ : MethodName) prog_1_method_43_code 3 (some .long) 0 0 D dA B [vr l0, vl l1] h vL (C_findsRow N l0 l1 h) :=
  Ct.of2 (own := "RingingChamber") (nme := "findsRow") (lv := [(0, vr l0), (1, vl l1)]) rfl rfl (by decide) (Nat.le_of_ble_eq_true rfl) rfl (fun p e R s m args below meth c => jc_C_findsRow N l0 l1 h)
theorem d_C_leadHead_0 : decode prog_1_method_12_code 0 = .ok (.aload_n 0, 1) := by decide +kernel
theorem d_C_leadHead_1 : decode prog_1_method_12_code 1 = .ok (.iload_n 1, 1) := by decide +kernel
theorem d_C_leadHead_2 : decode prog_1_method_12_code 2 = .ok (.invokevirtual 85, 3) := by decide +kernel
theorem d_C_leadHead_5 : decode prog_1_method_12_code 5 = .ok (.astore_n 3, 1) := by decide +kernel
theorem d_C_leadHead_6 : decode prog_1_method_12_code 6 = .ok (.aload_n 3, 1) := by decide +kernel
theorem d_C_leadHead_7 : decode prog_1_method_12_code 7 = .ok (.ifnonnull 11, 3) := by decide +kernel
theorem d_C_leadHead_10 : decode prog_1_method_12_code 10 = .ok (.aload_n 0, 1) := by decide +kernel
theorem d_C_leadHead_11 : decode prog_1_method_12_code 11 = .ok (.iconst 4, 1) := by decide +kernel
theorem d_C_leadHead_12 : decode prog_1_method_12_code 12 = .ok (.iconst 0, 1) := by decide +kernel
theorem d_C_leadHead_13 : decode prog_1_method_12_code 13 = .ok (.invokevirtual 88, 3) := by decide +kernel
theorem d_C_leadHead_16 : decode prog_1_method_12_code 16 = .ok (.i2l, 1) := by decide +kernel
theorem d_C_leadHead_17 : decode prog_1_method_12_code 17 = .ok (.lreturn, 1) := by decide +kernel
theorem d_C_leadHead_18 : decode prog_1_method_12_code 18 = .ok (.iload_n 2, 1) := by decide +kernel
theorem d_C_leadHead_19 : decode prog_1_method_12_code 19 = .ok (.invokestatic 123, 3) := by decide +kernel
theorem d_C_leadHead_22 : decode prog_1_method_12_code 22 = .ok (.ifCond .ne 11, 3) := by decide +kernel
theorem d_C_leadHead_25 : decode prog_1_method_12_code 25 = .ok (.aload_n 0, 1) := by decide +kernel
theorem d_C_leadHead_26 : decode prog_1_method_12_code 26 = .ok (.iconst 2, 1) := by decide +kernel
theorem d_C_leadHead_27 : decode prog_1_method_12_code 27 = .ok (.iconst 0, 1) := by decide +kernel
theorem d_C_leadHead_28 : decode prog_1_method_12_code 28 = .ok (.invokevirtual 88, 3) := by decide +kernel
theorem d_C_leadHead_31 : decode prog_1_method_12_code 31 = .ok (.i2l, 1) := by decide +kernel
theorem d_C_leadHead_32 : decode prog_1_method_12_code 32 = .ok (.lreturn, 1) := by decide +kernel
theorem d_C_leadHead_33 : decode prog_1_method_12_code 33 = .ok (.aload_n 3, 1) := by decide +kernel
theorem d_C_leadHead_34 : decode prog_1_method_12_code 34 = .ok (.iconst 0, 1) := by decide +kernel
theorem d_C_leadHead_35 : decode prog_1_method_12_code 35 = .ok (.iload_n 2, 1) := by decide +kernel
theorem d_C_leadHead_36 : decode prog_1_method_12_code 36 = .ok (.aload_n 0, 1) := by decide +kernel
theorem d_C_leadHead_37 : decode prog_1_method_12_code 37 = .ok (.getfield 50, 3) := by decide +kernel
theorem d_C_leadHead_40 : decode prog_1_method_12_code 40 = .ok (.invokevirtual 127, 3) := by decide +kernel
theorem d_C_leadHead_43 : decode prog_1_method_12_code 43 = .ok (.istore 4, 2) := by decide +kernel
theorem d_C_leadHead_45 : decode prog_1_method_12_code 45 = .ok (.iload 4, 2) := by decide +kernel
theorem d_C_leadHead_47 : decode prog_1_method_12_code 47 = .ok (.ifCond .eq 12, 3) := by decide +kernel
theorem d_C_leadHead_50 : decode prog_1_method_12_code 50 = .ok (.aload_n 0, 1) := by decide +kernel
theorem d_C_leadHead_51 : decode prog_1_method_12_code 51 = .ok (.iload 4, 2) := by decide +kernel
theorem d_C_leadHead_53 : decode prog_1_method_12_code 53 = .ok (.iconst 0, 1) := by decide +kernel
theorem d_C_leadHead_54 : decode prog_1_method_12_code 54 = .ok (.invokevirtual 88, 3) := by decide +kernel
theorem d_C_leadHead_57 : decode prog_1_method_12_code 57 = .ok (.i2l, 1) := by decide +kernel
theorem d_C_leadHead_58 : decode prog_1_method_12_code 58 = .ok (.lreturn, 1) := by decide +kernel
theorem d_C_leadHead_59 : decode prog_1_method_12_code 59 = .ok (.aload_n 0, 1) := by decide +kernel
theorem d_C_leadHead_60 : decode prog_1_method_12_code 60 = .ok (.aload_n 0, 1) := by decide +kernel
theorem d_C_leadHead_61 : decode prog_1_method_12_code 61 = .ok (.getfield 50, 3) := by decide +kernel
theorem d_C_leadHead_64 : decode prog_1_method_12_code 64 = .ok (.aload_n 0, 1) := by decide +kernel
theorem d_C_leadHead_65 : decode prog_1_method_12_code 65 = .ok (.getfield 26, 3) := by decide +kernel
theorem d_C_leadHead_68 : decode prog_1_method_12_code 68 = .ok (.invokestatic 138, 3) := by decide +kernel
theorem d_C_leadHead_71 : decode prog_1_method_12_code 71 = .ok (.invokevirtual 142, 3) := by decide +kernel
theorem d_C_leadHead_74 : decode prog_1_method_12_code 74 = .ok (.invokevirtual 146, 3) := by decide +kernel
theorem d_C_leadHead_77 : decode prog_1_method_12_code 77 = .ok (.lreturn, 1) := by decide +kernel
set_option maxRecDepth 20000 in
theorem jc_C_leadHead (N : Nat) (l0 : Option Nat) (l1 : Int32) (l2 : Int32) (h : Hp) : J p l e R s m args below meth c prog_1_method_12_code 5 "RingingChamber" 5 127 (some .long) "leadHead" D dA B n0 s0 (QM below args s D dA B n0 s0 vL) 0 [(0, vr l0), (1, vi l1), (2, vi l2)] [] h (C_leadHead N l0 l1 l2 h) := by
  unfold C_leadHead
  refine j_aload_n d_C_leadHead_0 0 rfl rfl ?_
  refine j_iload_n d_C_leadHead_1 1 rfl rfl ?_
  refine j_vR1 d_C_leadHead_2 (allQ.cons (VD.mk vt_11_85_11 (ct_C_methodAt N l D dA B l0 l1 h) (by decide) (by decide)) allQ.nil) (Nat.le_of_ble_eq_true rfl) (fun x2 h1 => ?_)
  refine j_astore_n (lv' := [(3, vr x2), (0, vr l0), (1, vi l1), (2, vi l2)]) d_C_leadHead_5 rfl (by decide) rfl ?_
  refine j_aload_n d_C_leadHead_6 0 rfl rfl ?_
  refine j_ifnonnull (tgt := 18) d_C_leadHead_7 (by decide) ?_ ?_
  · refine j_aload_n d_C_leadHead_10 1 rfl rfl ?_
    refine j_iconst (v := 4) d_C_leadHead_11 (by decide) ?_
    refine j_iconst (v := 0) d_C_leadHead_12 (by decide) ?_
    refine j_vI2 d_C_leadHead_13 (allQ.cons (VD.mk vt_11_88_11 (ct_C_finds N l D dA B l0 4 0 h1) (by decide) (by decide)) allQ.nil) (Nat.le_of_ble_eq_true rfl) (fun x21 h20 => ?_)
    refine j_i2l d_C_leadHead_16 ?_
    exact j_retL d_C_leadHead_17
  · refine j_iload_n d_C_leadHead_18 3 rfl rfl ?_
    refine j_cSI1 d_C_leadHead_19 sl_11_123 ks_C_isCall (ct_C_isCall N l D dA B l2 h1) (by decide) (by decide) (Nat.le_of_ble_eq_true rfl) (fun x4 h3 => ?_)
    refine j_if_ne (tgt := 33) d_C_leadHead_22 (by decide) ?_ ?_
    · refine j_aload_n d_C_leadHead_25 1 rfl rfl ?_
      refine j_iconst (v := 2) d_C_leadHead_26 (by decide) ?_
      refine j_iconst (v := 0) d_C_leadHead_27 (by decide) ?_
      refine j_vI2 d_C_leadHead_28 (allQ.cons (VD.mk vt_11_88_11 (ct_C_finds N l D dA B l0 2 0 h3) (by decide) (by decide)) allQ.nil) (Nat.le_of_ble_eq_true rfl) (fun x19 h18 => ?_)
      refine j_i2l d_C_leadHead_31 ?_
      exact j_retL d_C_leadHead_32
    · refine j_aload_n d_C_leadHead_33 0 rfl rfl ?_
      refine j_iconst (v := 0) d_C_leadHead_34 (by decide) ?_
      refine j_iload_n d_C_leadHead_35 3 rfl rfl ?_
      refine j_aload_n d_C_leadHead_36 1 rfl rfl ?_
      refine j_getR d_C_leadHead_37 fl_11_50.r (fun x5 => ?_)
      refine j_vI3 d_C_leadHead_40 (allQ.cons (VD.mk vt_11_127_1 (ct_Little_calledOf N l D dA B x2 0 l2 x5 h3) (by decide) (by decide)) (allQ.cons (VD.mk vt_11_127_2 (ct_Plain_calledOf N l D dA B x2 0 l2 x5 h3) (by decide) (by decide)) (allQ.cons (VD.mk vt_11_127_3 (ct_Principle_calledOf N l D dA B x2 0 l2 x5 h3) (by decide) (by decide)) (allQ.cons (VD.mk vt_11_127_6 (ct_Spliced_calledOf N l D dA B x2 0 l2 x5 h3) (by decide) (by decide)) (allQ.cons (VD.mk vt_11_127_7 (ct_Surprise_calledOf N l D dA B x2 0 l2 x5 h3) (by decide) (by decide)) (allQ.cons (VD.mk vt_11_127_10 (ct_Plain_calledOf N l D dA B x2 0 l2 x5 h3) (by decide) (by decide)) allQ.nil)))))) (Nat.le_of_ble_eq_true rfl) (fun x7 h6 => ?_)
      refine j_istore (lv' := [(4, vi x7), (3, vr x2), (0, vr l0), (1, vi l1), (2, vi l2)]) d_C_leadHead_43 (by decide) rfl ?_
      refine j_iload d_C_leadHead_45 0 rfl ?_
      refine j_if_eq (tgt := 59) d_C_leadHead_47 (by decide) ?_ ?_
      · refine j_aload_n d_C_leadHead_59 2 rfl rfl ?_
        refine j_aload_n d_C_leadHead_60 2 rfl rfl ?_
        refine j_getR d_C_leadHead_61 fl_11_50.r (fun x8 => ?_)
        refine j_aload_n d_C_leadHead_64 2 rfl rfl ?_
        refine j_getI d_C_leadHead_65 fl_11_26.r (fun x9 => ?_)
        refine j_cSL1 d_C_leadHead_68 sl_11_138 ks_Rows_rounds (ct_Rows_rounds N l D dA B x9 h6) (by decide) (by decide) (Nat.le_of_ble_eq_true rfl) (fun x11 h10 => ?_)
        refine j_vL1 d_C_leadHead_71 (allQ.cons (VD.mk vt_11_142_0 (ct_Lead_rungFrom N l D dA B x8 x11 h10) (by decide) (by decide)) allQ.nil) (Nat.le_of_ble_eq_true rfl) (fun x13 h12 => ?_)
        refine j_vL1 d_C_leadHead_74 (allQ.cons (VD.mk vt_11_146_11 (ct_C_findsRow N l D dA B l0 x13 h12) (by decide) (by decide)) allQ.nil) (Nat.le_of_ble_eq_true rfl) (fun x15 h14 => ?_)
        exact j_retL d_C_leadHead_77
      · refine j_aload_n d_C_leadHead_50 2 rfl rfl ?_
        refine j_iload d_C_leadHead_51 0 rfl ?_
        refine j_iconst (v := 0) d_C_leadHead_53 (by decide) ?_
        refine j_vI2 d_C_leadHead_54 (allQ.cons (VD.mk vt_11_88_11 (ct_C_finds N l D dA B l0 x7 0 h6) (by decide) (by decide)) allQ.nil) (Nat.le_of_ble_eq_true rfl) (fun x17 h16 => ?_)
        refine j_i2l d_C_leadHead_57 ?_
        exact j_retL d_C_leadHead_58
set_option maxRecDepth 20000 in
theorem ct_C_leadHead (N : Nat) (l : Launch) (D : va_G) (dA : Nat → ClassId) (B : Nat) (l0 : Option Nat) (l1 : Int32) (l2 : Int32) (h : Hp) : Ct l (⟨"RingingChamber", "leadHead", "(II)J"⟩ : MethodName) prog_1_method_12_code 5 (some .long) 5 127 D dA B [vr l0, vi l1, vi l2] h vL (C_leadHead N l0 l1 l2 h) :=
  Ct.of2 (own := "RingingChamber") (nme := "leadHead") (lv := [(0, vr l0), (1, vi l1), (2, vi l2)]) rfl rfl (by decide) (Nat.le_of_ble_eq_true rfl) rfl (fun p e R s m args below meth c => jc_C_leadHead N l0 l1 l2 h)
theorem d_C_course_0 : decode prog_1_method_13_code 0 = .ok (.aload_n 0, 1) := by decide +kernel
theorem d_C_course_1 : decode prog_1_method_13_code 1 = .ok (.iload_n 1, 1) := by decide +kernel
theorem d_C_course_2 : decode prog_1_method_13_code 2 = .ok (.invokevirtual 85, 3) := by decide +kernel
theorem d_C_course_5 : decode prog_1_method_13_code 5 = .ok (.astore_n 2, 1) := by decide +kernel
theorem d_C_course_6 : decode prog_1_method_13_code 6 = .ok (.aload_n 2, 1) := by decide +kernel
theorem d_C_course_7 : decode prog_1_method_13_code 7 = .ok (.ifnonnull 10, 3) := by decide +kernel
theorem d_C_course_10 : decode prog_1_method_13_code 10 = .ok (.aload_n 0, 1) := by decide +kernel
theorem d_C_course_11 : decode prog_1_method_13_code 11 = .ok (.iconst 4, 1) := by decide +kernel
theorem d_C_course_12 : decode prog_1_method_13_code 12 = .ok (.iconst 0, 1) := by decide +kernel
theorem d_C_course_13 : decode prog_1_method_13_code 13 = .ok (.invokevirtual 88, 3) := by decide +kernel
theorem d_C_course_16 : decode prog_1_method_13_code 16 = .ok (.ireturn, 1) := by decide +kernel
theorem d_C_course_17 : decode prog_1_method_13_code 17 = .ok (.aload_n 2, 1) := by decide +kernel
theorem d_C_course_18 : decode prog_1_method_13_code 18 = .ok (.iconst 0, 1) := by decide +kernel
theorem d_C_course_19 : decode prog_1_method_13_code 19 = .ok (.invokevirtual 149, 3) := by decide +kernel
theorem d_C_course_22 : decode prog_1_method_13_code 22 = .ok (.astore_n 3, 1) := by decide +kernel
theorem d_C_course_23 : decode prog_1_method_13_code 23 = .ok (.aload_n 3, 1) := by decide +kernel
theorem d_C_course_24 : decode prog_1_method_13_code 24 = .ok (.getfield 101, 3) := by decide +kernel
theorem d_C_course_27 : decode prog_1_method_13_code 27 = .ok (.ifCond .eq 13, 3) := by decide +kernel
theorem d_C_course_30 : decode prog_1_method_13_code 30 = .ok (.aload_n 0, 1) := by decide +kernel
theorem d_C_course_31 : decode prog_1_method_13_code 31 = .ok (.aload_n 3, 1) := by decide +kernel
theorem d_C_course_32 : decode prog_1_method_13_code 32 = .ok (.getfield 101, 3) := by decide +kernel
theorem d_C_course_35 : decode prog_1_method_13_code 35 = .ok (.iconst 0, 1) := by decide +kernel
theorem d_C_course_36 : decode prog_1_method_13_code 36 = .ok (.invokevirtual 88, 3) := by decide +kernel
theorem d_C_course_39 : decode prog_1_method_13_code 39 = .ok (.ireturn, 1) := by decide +kernel
theorem d_C_course_40 : decode prog_1_method_13_code 40 = .ok (.aload_n 3, 1) := by decide +kernel
theorem d_C_course_41 : decode prog_1_method_13_code 41 = .ok (.aload_n 0, 1) := by decide +kernel
theorem d_C_course_42 : decode prog_1_method_13_code 42 = .ok (.getfield 26, 3) := by decide +kernel
theorem d_C_course_45 : decode prog_1_method_13_code 45 = .ok (.invokestatic 138, 3) := by decide +kernel
theorem d_C_course_48 : decode prog_1_method_13_code 48 = .ok (.invokevirtual 142, 3) := by decide +kernel
theorem d_C_course_51 : decode prog_1_method_13_code 51 = .ok (.lstore 4, 2) := by decide +kernel
theorem d_C_course_53 : decode prog_1_method_13_code 53 = .ok (.aload_n 0, 1) := by decide +kernel
theorem d_C_course_54 : decode prog_1_method_13_code 54 = .ok (.iconst 0, 1) := by decide +kernel
theorem d_C_course_55 : decode prog_1_method_13_code 55 = .ok (.lload 4, 2) := by decide +kernel
theorem d_C_course_57 : decode prog_1_method_13_code 57 = .ok (.aload_n 0, 1) := by decide +kernel
theorem d_C_course_58 : decode prog_1_method_13_code 58 = .ok (.getfield 26, 3) := by decide +kernel
theorem d_C_course_61 : decode prog_1_method_13_code 61 = .ok (.invokestatic 153, 3) := by decide +kernel
theorem d_C_course_64 : decode prog_1_method_13_code 64 = .ok (.invokevirtual 88, 3) := by decide +kernel
theorem d_C_course_67 : decode prog_1_method_13_code 67 = .ok (.ireturn, 1) := by decide +kernel
set_option maxRecDepth 20000 in
theorem jc_C_course (N : Nat) (l0 : Option Nat) (l1 : Int32) (h : Hp) : J p l e R s m args below meth c prog_1_method_13_code 6 "RingingChamber" 3 78 (some .int) "course" D dA B n0 s0 (QM below args s D dA B n0 s0 vI) 0 [(0, vr l0), (1, vi l1)] [] h (C_course N l0 l1 h) := by
  unfold C_course
  refine j_aload_n d_C_course_0 0 rfl rfl ?_
  refine j_iload_n d_C_course_1 1 rfl rfl ?_
  refine j_vR1 d_C_course_2 (allQ.cons (VD.mk vt_11_85_11 (ct_C_methodAt N l D dA B l0 l1 h) (by decide) (by decide)) allQ.nil) (Nat.le_of_ble_eq_true rfl) (fun x2 h1 => ?_)
  refine j_astore_n (lv' := [(2, vr x2), (0, vr l0), (1, vi l1)]) d_C_course_5 rfl (by decide) rfl ?_
  refine j_aload_n d_C_course_6 0 rfl rfl ?_
  refine j_ifnonnull (tgt := 17) d_C_course_7 (by decide) ?_ ?_
  · refine j_aload_n d_C_course_10 1 rfl rfl ?_
    refine j_iconst (v := 4) d_C_course_11 (by decide) ?_
    refine j_iconst (v := 0) d_C_course_12 (by decide) ?_
    refine j_vI2 d_C_course_13 (allQ.cons (VD.mk vt_11_88_11 (ct_C_finds N l D dA B l0 4 0 h1) (by decide) (by decide)) allQ.nil) (Nat.le_of_ble_eq_true rfl) (fun x20 h19 => ?_)
    exact j_retI d_C_course_16
  · refine j_aload_n d_C_course_17 0 rfl rfl ?_
    refine j_iconst (v := 0) d_C_course_18 (by decide) ?_
    refine j_vR1 d_C_course_19 (allQ.cons (VD.mk vt_11_149_1 (ct_Plain_leadOf N l D dA B x2 0 h1) (by decide) (by decide)) (allQ.cons (VD.mk vt_11_149_2 (ct_Plain_leadOf N l D dA B x2 0 h1) (by decide) (by decide)) (allQ.cons (VD.mk vt_11_149_3 (ct_Principle_leadOf N l D dA B x2 0 h1) (by decide) (by decide)) (allQ.cons (VD.mk vt_11_149_6 (ct_Spliced_leadOf N l D dA B x2 0 h1) (by decide) (by decide)) (allQ.cons (VD.mk vt_11_149_7 (ct_Plain_leadOf N l D dA B x2 0 h1) (by decide) (by decide)) (allQ.cons (VD.mk vt_11_149_10 (ct_Plain_leadOf N l D dA B x2 0 h1) (by decide) (by decide)) allQ.nil)))))) (Nat.le_of_ble_eq_true rfl) (fun x4 h3 => ?_)
    refine j_astore_n (lv' := [(3, vr x4), (2, vr x2), (0, vr l0), (1, vi l1)]) d_C_course_22 rfl (by decide) rfl ?_
    refine j_aload_n d_C_course_23 0 rfl rfl ?_
    refine j_getI d_C_course_24 fl_11_101.r (fun x5 => ?_)
    refine j_if_eq (tgt := 40) d_C_course_27 (by decide) ?_ ?_
    · refine j_aload_n d_C_course_40 0 rfl rfl ?_
      refine j_aload_n d_C_course_41 2 rfl rfl ?_
      refine j_getI d_C_course_42 fl_11_26.r (fun x6 => ?_)
      refine j_cSL1 d_C_course_45 sl_11_138 ks_Rows_rounds (ct_Rows_rounds N l D dA B x6 h3) (by decide) (by decide) (Nat.le_of_ble_eq_true rfl) (fun x8 h7 => ?_)
      refine j_vL1 d_C_course_48 (allQ.cons (VD.mk vt_11_142_0 (ct_Lead_rungFrom N l D dA B x4 x8 h7) (by decide) (by decide)) allQ.nil) (Nat.le_of_ble_eq_true rfl) (fun x10 h9 => ?_)
      refine j_lstore (lv' := [(4, vl x10), (3, vr x4), (2, vr x2), (0, vr l0), (1, vi l1)]) d_C_course_51 (by decide) rfl ?_
      refine j_aload_n d_C_course_53 3 rfl rfl ?_
      refine j_iconst (v := 0) d_C_course_54 (by decide) ?_
      refine j_lload d_C_course_55 0 rfl ?_
      refine j_aload_n d_C_course_57 3 rfl rfl ?_
      refine j_getI d_C_course_58 fl_11_26.r (fun x11 => ?_)
      refine j_cSI2 d_C_course_61 sl_11_153 ks_Rows_orderOf (ct_Rows_orderOf N l D dA B x10 x11 h9) (by decide) (by decide) (Nat.le_of_ble_eq_true rfl) (fun x13 h12 => ?_)
      refine j_vI2 d_C_course_64 (allQ.cons (VD.mk vt_11_88_11 (ct_C_finds N l D dA B l0 0 x13 h12) (by decide) (by decide)) allQ.nil) (Nat.le_of_ble_eq_true rfl) (fun x15 h14 => ?_)
      exact j_retI d_C_course_67
    · refine j_aload_n d_C_course_30 2 rfl rfl ?_
      refine j_aload_n d_C_course_31 0 rfl rfl ?_
      refine j_getI d_C_course_32 fl_11_101.r (fun x16 => ?_)
      refine j_iconst (v := 0) d_C_course_35 (by decide) ?_
      refine j_vI2 d_C_course_36 (allQ.cons (VD.mk vt_11_88_11 (ct_C_finds N l D dA B l0 x16 0 h3) (by decide) (by decide)) allQ.nil) (Nat.le_of_ble_eq_true rfl) (fun x18 h17 => ?_)
      exact j_retI d_C_course_39
set_option maxRecDepth 20000 in
theorem ct_C_course (N : Nat) (l : Launch) (D : va_G) (dA : Nat → ClassId) (B : Nat) (l0 : Option Nat) (l1 : Int32) (h : Hp) : Ct l (⟨"RingingChamber", "course", "(I)I"⟩ : MethodName) prog_1_method_13_code 6 (some .int) 3 78 D dA B [vr l0, vi l1] h vI (C_course N l0 l1 h) :=
  Ct.of2 (own := "RingingChamber") (nme := "course") (lv := [(0, vr l0), (1, vi l1)]) rfl rfl (by decide) (Nat.le_of_ble_eq_true rfl) rfl (fun p e R s m args below meth c => jc_C_course N l0 l1 h)
theorem d_C_sharedRows_0 : decode prog_1_method_46_code 0 = .ok (.aload_n 0, 1) := by decide +kernel
theorem d_C_sharedRows_1 : decode prog_1_method_46_code 1 = .ok (.getfield 59, 3) := by decide +kernel
theorem d_C_sharedRows_4 : decode prog_1_method_46_code 4 = .ok (.iconst 0, 1) := by decide +kernel
theorem d_C_sharedRows_5 : decode prog_1_method_46_code 5 = .ok (.invokevirtual 287, 3) := by decide +kernel
theorem d_C_sharedRows_8 : decode prog_1_method_46_code 8 = .ok (.lload_n 2, 1) := by decide +kernel
theorem d_C_sharedRows_9 : decode prog_1_method_46_code 9 = .ok (.lstore 4, 2) := by decide +kernel
theorem d_C_sharedRows_11 : decode prog_1_method_46_code 11 = .ok (.iconst 0, 1) := by decide +kernel
theorem d_C_sharedRows_12 : decode prog_1_method_46_code 12 = .ok (.istore 6, 2) := by decide +kernel
theorem d_C_sharedRows_14 : decode prog_1_method_46_code 14 = .ok (.iload 6, 2) := by decide +kernel
theorem d_C_sharedRows_16 : decode prog_1_method_46_code 16 = .ok (.aload_n 1, 1) := by decide +kernel
theorem d_C_sharedRows_17 : decode prog_1_method_46_code 17 = .ok (.getfield 104, 3) := by decide +kernel
theorem d_C_sharedRows_20 : decode prog_1_method_46_code 20 = .ok (.if_icmp .ge 32, 3) := by decide +kernel
theorem d_C_sharedRows_23 : decode prog_1_method_46_code 23 = .ok (.aload_n 0, 1) := by decide +kernel
theorem d_C_sharedRows_24 : decode prog_1_method_46_code 24 = .ok (.getfield 59, 3) := by decide +kernel
theorem d_C_sharedRows_27 : decode prog_1_method_46_code 27 = .ok (.lload 4, 2) := by decide +kernel
theorem d_C_sharedRows_29 : decode prog_1_method_46_code 29 = .ok (.invokevirtual 290, 3) := by decide +kernel
theorem d_C_sharedRows_32 : decode prog_1_method_46_code 32 = .ok (.lload 4, 2) := by decide +kernel
theorem d_C_sharedRows_34 : decode prog_1_method_46_code 34 = .ok (.aload_n 1, 1) := by decide +kernel
theorem d_C_sharedRows_35 : decode prog_1_method_46_code 35 = .ok (.getfield 131, 3) := by decide +kernel
theorem d_C_sharedRows_38 : decode prog_1_method_46_code 38 = .ok (.iload 6, 2) := by decide +kernel
theorem d_C_sharedRows_40 : decode prog_1_method_46_code 40 = .ok (.iaload, 1) := by decide +kernel
theorem d_C_sharedRows_41 : decode prog_1_method_46_code 41 = .ok (.invokestatic 168, 3) := by decide +kernel
theorem d_C_sharedRows_44 : decode prog_1_method_46_code 44 = .ok (.lstore 4, 2) := by decide +kernel
theorem d_C_sharedRows_46 : decode prog_1_method_46_code 46 = .ok (.iinc 6 1, 3) := by decide +kernel
theorem d_C_sharedRows_49 : decode prog_1_method_46_code 49 = .ok (.goto (-35), 3) := by decide +kernel
theorem d_C_sharedRows_52 : decode prog_1_method_46_code 52 = .ok (.iconst 0, 1) := by decide +kernel
theorem d_C_sharedRows_53 : decode prog_1_method_46_code 53 = .ok (.istore 6, 2) := by decide +kernel
theorem d_C_sharedRows_55 : decode prog_1_method_46_code 55 = .ok (.aload_n 0, 1) := by decide +kernel
theorem d_C_sharedRows_56 : decode prog_1_method_46_code 56 = .ok (.getfield 26, 3) := by decide +kernel
theorem d_C_sharedRows_59 : decode prog_1_method_46_code 59 = .ok (.invokestatic 138, 3) := by decide +kernel
theorem d_C_sharedRows_62 : decode prog_1_method_46_code 62 = .ok (.lstore 4, 2) := by decide +kernel
theorem d_C_sharedRows_64 : decode prog_1_method_46_code 64 = .ok (.iconst 0, 1) := by decide +kernel
theorem d_C_sharedRows_65 : decode prog_1_method_46_code 65 = .ok (.istore 7, 2) := by decide +kernel
theorem d_C_sharedRows_67 : decode prog_1_method_46_code 67 = .ok (.iload 7, 2) := by decide +kernel
theorem d_C_sharedRows_69 : decode prog_1_method_46_code 69 = .ok (.aload_n 1, 1) := by decide +kernel
theorem d_C_sharedRows_70 : decode prog_1_method_46_code 70 = .ok (.getfield 104, 3) := by decide +kernel
theorem d_C_sharedRows_73 : decode prog_1_method_46_code 73 = .ok (.if_icmp .ge 38, 3) := by decide +kernel
theorem d_C_sharedRows_76 : decode prog_1_method_46_code 76 = .ok (.aload_n 0, 1) := by decide +kernel
theorem d_C_sharedRows_77 : decode prog_1_method_46_code 77 = .ok (.getfield 59, 3) := by decide +kernel
theorem d_C_sharedRows_80 : decode prog_1_method_46_code 80 = .ok (.lload 4, 2) := by decide +kernel
theorem d_C_sharedRows_82 : decode prog_1_method_46_code 82 = .ok (.invokevirtual 293, 3) := by decide +kernel
theorem d_C_sharedRows_85 : decode prog_1_method_46_code 85 = .ok (.ifCond .lt 6, 3) := by decide +kernel
theorem d_C_sharedRows_88 : decode prog_1_method_46_code 88 = .ok (.iinc 6 1, 3) := by decide +kernel
theorem d_C_sharedRows_91 : decode prog_1_method_46_code 91 = .ok (.lload 4, 2) := by decide +kernel
theorem d_C_sharedRows_93 : decode prog_1_method_46_code 93 = .ok (.aload_n 1, 1) := by decide +kernel
theorem d_C_sharedRows_94 : decode prog_1_method_46_code 94 = .ok (.getfield 131, 3) := by decide +kernel
theorem d_C_sharedRows_97 : decode prog_1_method_46_code 97 = .ok (.iload 7, 2) := by decide +kernel
theorem d_C_sharedRows_99 : decode prog_1_method_46_code 99 = .ok (.iaload, 1) := by decide +kernel
theorem d_C_sharedRows_100 : decode prog_1_method_46_code 100 = .ok (.invokestatic 168, 3) := by decide +kernel
theorem d_C_sharedRows_103 : decode prog_1_method_46_code 103 = .ok (.lstore 4, 2) := by decide +kernel
theorem d_C_sharedRows_105 : decode prog_1_method_46_code 105 = .ok (.iinc 7 1, 3) := by decide +kernel
theorem d_C_sharedRows_108 : decode prog_1_method_46_code 108 = .ok (.goto (-41), 3) := by decide +kernel
theorem d_C_sharedRows_111 : decode prog_1_method_46_code 111 = .ok (.iload 6, 2) := by decide +kernel
theorem d_C_sharedRows_113 : decode prog_1_method_46_code 113 = .ok (.ireturn, 1) := by decide +kernel
set_option maxRecDepth 20000 in
theorem jc_C_sharedRows_91 (N : Nat) (re67 : Option Nat → Option Nat → Int64 → Int32 → Int32 → Hp → Option (Int32 × Hp)) (hre67 : ∀ y0 y1 y2 y3 y4 h, J p l e R s m args below meth c prog_1_method_46_code 8 "RingingChamber" 2 45 (some .int) "sharedRows" D dA B n0 s0 (QM below args s D dA B n0 s0 vI) 67 [(0, vr y0), (1, vr y1), (4, vl y2), (6, vi y3), (7, vi y4)] [] h (re67 y0 y1 y2 y3 y4 h)) (l0 : Option Nat) (l1 : Option Nat) (l4 : Int64) (l6 : Int32) (l7 : Int32) (h : Hp) : J p l e R s m args below meth c prog_1_method_46_code 8 "RingingChamber" 2 45 (some .int) "sharedRows" D dA B n0 s0 (QM below args s D dA B n0 s0 vI) 91 [(0, vr l0), (1, vr l1), (4, vl l4), (6, vi l6), (7, vi l7)] [] h (C_sharedRows_91 N re67 l0 l1 l4 l6 l7 h) := by
  unfold C_sharedRows_91
  refine j_lload d_C_sharedRows_91 2 rfl ?_
  refine j_aload_n d_C_sharedRows_93 1 rfl rfl ?_
  refine j_getR d_C_sharedRows_94 fl_11_131 (fun x1 => ?_)
  refine j_iload d_C_sharedRows_97 4 rfl ?_
  refine j_iald d_C_sharedRows_99 (fun x2 => ?_)
  refine j_cSL2 d_C_sharedRows_100 sl_11_168 ks_Rows_changed (ct_Rows_changed N l D dA B l4 x2 h) (by decide) (by decide) (Nat.le_of_ble_eq_true rfl) (fun x4 h3 => ?_)
  refine j_lstore (lv' := [(4, vl x4), (0, vr l0), (1, vr l1), (6, vi l6), (7, vi l7)]) d_C_sharedRows_103 (by decide) rfl ?_
  refine j_iinc (lvv := fun x5 => [(7, vi x5), (4, vl x4), (0, vr l0), (1, vr l1), (6, vi l6)]) d_C_sharedRows_105 4 rfl rfl (by decide) (fun _ => rfl) (fun x5 => ?_)
  refine j_goto (tgt := 67) d_C_sharedRows_108 (by decide) ?_
  exact J.sub [2, 3, 1, 4, 0] rfl (hre67 l0 l1 x4 l6 x5 h3)
set_option maxRecDepth 20000 in
theorem jc_C_sharedRows_67 (N : Nat) : ∀ (n : Nat) (l0 : Option Nat) (l1 : Option Nat) (l4 : Int64) (l6 : Int32) (l7 : Int32) (h : Hp), J p l e R s m args below meth c prog_1_method_46_code 8 "RingingChamber" 2 45 (some .int) "sharedRows" D dA B n0 s0 (QM below args s D dA B n0 s0 vI) 67 [(0, vr l0), (1, vr l1), (4, vl l4), (6, vi l6), (7, vi l7)] [] h (C_sharedRows_67 N n l0 l1 l4 l6 l7 h) := by
  intro n
  induction n with
  | zero => intros; exact J.none
  | succ n ih =>
    intro l0 l1 l4 l6 l7 h
    rw [C_sharedRows_67]
    refine j_iload d_C_sharedRows_67 4 rfl ?_
    refine j_aload_n d_C_sharedRows_69 1 rfl rfl ?_
    refine j_getI d_C_sharedRows_70 fl_11_104.r (fun x1 => ?_)
    refine j_icmp_ge (tgt := 111) d_C_sharedRows_73 (by decide) ?_ ?_
    · refine j_iload d_C_sharedRows_111 3 rfl ?_
      exact j_retI d_C_sharedRows_113
    · refine j_aload_n d_C_sharedRows_76 0 rfl rfl ?_
      refine j_getR d_C_sharedRows_77 fl_11_59.r (fun x2 => ?_)
      refine j_lload d_C_sharedRows_80 2 rfl ?_
      refine j_vI1 d_C_sharedRows_82 (allQ.cons (VD.mk vt_11_293_4 (ct_Rows_indexOf N l D dA B x2 l4 h) (by decide) (by decide)) allQ.nil) (Nat.le_of_ble_eq_true rfl) (fun x4 h3 => ?_)
      refine j_if_lt (tgt := 91) d_C_sharedRows_85 (by decide) ?_ ?_
      · exact jc_C_sharedRows_91 N (C_sharedRows_67 N n) ih l0 l1 l4 l6 l7 h3
      · refine j_iinc (lvv := fun x5 => [(6, vi x5), (0, vr l0), (1, vr l1), (4, vl l4), (7, vi l7)]) d_C_sharedRows_88 3 rfl rfl (by decide) (fun _ => rfl) (fun x5 => ?_)
        exact J.sub [1, 2, 3, 0, 4] rfl (jc_C_sharedRows_91 N (C_sharedRows_67 N n) ih l0 l1 l4 x5 l7 h3)
set_option maxRecDepth 20000 in
theorem jc_C_sharedRows_14 (N : Nat) : ∀ (n : Nat) (l0 : Option Nat) (l1 : Option Nat) (l4 : Int64) (l6 : Int32) (h : Hp), J p l e R s m args below meth c prog_1_method_46_code 8 "RingingChamber" 2 45 (some .int) "sharedRows" D dA B n0 s0 (QM below args s D dA B n0 s0 vI) 14 [(0, vr l0), (1, vr l1), (4, vl l4), (6, vi l6)] [] h (C_sharedRows_14 N n l0 l1 l4 l6 h) := by
  intro n
  induction n with
  | zero => intros; exact J.none
  | succ n ih =>
    intro l0 l1 l4 l6 h
    rw [C_sharedRows_14]
    refine j_iload d_C_sharedRows_14 3 rfl ?_
    refine j_aload_n d_C_sharedRows_16 1 rfl rfl ?_
    refine j_getI d_C_sharedRows_17 fl_11_104.r (fun x1 => ?_)
    refine j_icmp_ge (tgt := 52) d_C_sharedRows_20 (by decide) ?_ ?_
    · refine j_iconst (v := 0) d_C_sharedRows_52 (by decide) ?_
      refine j_istore (lv' := [(6, vi 0), (0, vr l0), (1, vr l1), (4, vl l4)]) d_C_sharedRows_53 (by decide) rfl ?_
      refine j_aload_n d_C_sharedRows_55 1 rfl rfl ?_
      refine j_getI d_C_sharedRows_56 fl_11_26.r (fun x2 => ?_)
      refine j_cSL1 d_C_sharedRows_59 sl_11_138 ks_Rows_rounds (ct_Rows_rounds N l D dA B x2 h) (by decide) (by decide) (Nat.le_of_ble_eq_true rfl) (fun x4 h3 => ?_)
      refine j_lstore (lv' := [(4, vl x4), (6, vi 0), (0, vr l0), (1, vr l1)]) d_C_sharedRows_62 (by decide) rfl ?_
      refine j_iconst (v := 0) d_C_sharedRows_64 (by decide) ?_
      refine j_istore (lv' := [(7, vi 0), (4, vl x4), (6, vi 0), (0, vr l0), (1, vr l1)]) d_C_sharedRows_65 (by decide) rfl ?_
      exact J.sub [3, 4, 1, 2, 0] rfl (jc_C_sharedRows_67 N N l0 l1 x4 0 0 h3)
    · refine j_aload_n d_C_sharedRows_23 0 rfl rfl ?_
      refine j_getR d_C_sharedRows_24 fl_11_59.r (fun x5 => ?_)
      refine j_lload d_C_sharedRows_27 2 rfl ?_
      refine j_vU1 d_C_sharedRows_29 (allQ.cons (VD.mk vt_11_290_4 (ct_Rows_add N l D dA B x5 l4 h) (by decide) (by decide)) allQ.nil) (Nat.le_of_ble_eq_true rfl) (fun _ h6 => ?_)
      refine j_lload d_C_sharedRows_32 2 rfl ?_
      refine j_aload_n d_C_sharedRows_34 1 rfl rfl ?_
      refine j_getR d_C_sharedRows_35 fl_11_131 (fun x7 => ?_)
      refine j_iload d_C_sharedRows_38 3 rfl ?_
      refine j_iald d_C_sharedRows_40 (fun x8 => ?_)
      refine j_cSL2 d_C_sharedRows_41 sl_11_168 ks_Rows_changed (ct_Rows_changed N l D dA B l4 x8 h6) (by decide) (by decide) (Nat.le_of_ble_eq_true rfl) (fun x10 h9 => ?_)
      refine j_lstore (lv' := [(4, vl x10), (0, vr l0), (1, vr l1), (6, vi l6)]) d_C_sharedRows_44 (by decide) rfl ?_
      refine j_iinc (lvv := fun x11 => [(6, vi x11), (4, vl x10), (0, vr l0), (1, vr l1)]) d_C_sharedRows_46 3 rfl rfl (by decide) (fun _ => rfl) (fun x11 => ?_)
      refine j_goto (tgt := 14) d_C_sharedRows_49 (by decide) ?_
      exact J.sub [2, 3, 1, 0] rfl (ih l0 l1 x10 x11 h9)
set_option maxRecDepth 20000 in
theorem jc_C_sharedRows (N : Nat) (l0 : Option Nat) (l1 : Option Nat) (l2 : Int64) (h : Hp) : J p l e R s m args below meth c prog_1_method_46_code 8 "RingingChamber" 2 45 (some .int) "sharedRows" D dA B n0 s0 (QM below args s D dA B n0 s0 vI) 0 [(0, vr l0), (1, vr l1), (2, vl l2)] [] h (C_sharedRows N l0 l1 l2 h) := by
  unfold C_sharedRows
  refine j_aload_n d_C_sharedRows_0 0 rfl rfl ?_
  refine j_getR d_C_sharedRows_1 fl_11_59.r (fun x1 => ?_)
  refine j_iconst (v := 0) d_C_sharedRows_4 (by decide) ?_
  refine j_vU1 d_C_sharedRows_5 (allQ.cons (VD.mk vt_11_287_4 (ct_Rows_keepFirst N l D dA B x1 0 h) (by decide) (by decide)) allQ.nil) (Nat.le_of_ble_eq_true rfl) (fun _ h2 => ?_)
  refine j_lload_n d_C_sharedRows_8 2 rfl rfl ?_
  refine j_lstore (lv' := [(4, vl l2), (0, vr l0), (1, vr l1), (2, vl l2)]) d_C_sharedRows_9 (by decide) rfl ?_
  refine j_iconst (v := 0) d_C_sharedRows_11 (by decide) ?_
  refine j_istore (lv' := [(6, vi 0), (4, vl l2), (0, vr l0), (1, vr l1), (2, vl l2)]) d_C_sharedRows_12 (by decide) rfl ?_
  exact J.sub [2, 3, 1, 0] rfl (jc_C_sharedRows_14 N N l0 l1 l2 0 h2)
set_option maxRecDepth 20000 in
theorem ct_C_sharedRows (N : Nat) (l : Launch) (D : va_G) (dA : Nat → ClassId) (B : Nat) (l0 : Option Nat) (l1 : Option Nat) (l2 : Int64) (h : Hp) : Ct l (⟨"RingingChamber", "sharedRows", "(LRingingChamber$Lead;J)I"⟩ : MethodName) prog_1_method_46_code 8 (some .int) 2 45 D dA B [vr l0, vr l1, vl l2] h vI (C_sharedRows N l0 l1 l2 h) :=
  Ct.of2 (own := "RingingChamber") (nme := "sharedRows") (lv := [(0, vr l0), (1, vr l1), (2, vl l2)]) rfl rfl (by decide) (Nat.le_of_ble_eq_true rfl) rfl (fun p e R s m args below meth c => jc_C_sharedRows N l0 l1 l2 h)
end
