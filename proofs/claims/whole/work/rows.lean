section
-- ===== PART A: goes FIRST, ahead of the names: the tables' words, and 'selects' of the private methods out of them =====
/-- a private method of a class that the tables say can be made, by its rows of tables_1 -/
def lw_okq (q : MethodName × Nat) : Prop := (q.1.cls ≠ "java/lang/invoke/MethodHandle" ∧ q.1.cls ≠ "java/lang/invoke/VarHandle") ∧ Cond.instantiable q.1.cls q.2 ∈ tables_1 ∧ Cond.privateMethod q.1 ∈ tables_1 ∧ Cond.instanceMethod q.1 ∈ tables_1
theorem lw_p0 : lw_okq (⟨"RingingChamber", "newMethod", "(I)LRingingChamber$Method;"⟩, 11) := ⟨⟨by decide +kernel, by decide +kernel⟩, List.mem_of_getElem? (i := 20) (by decide +kernel), List.mem_of_getElem? (i := 351) (by decide +kernel), List.mem_of_getElem? (i := 352) (by decide +kernel)⟩
theorem lw_p1 : lw_okq (⟨"RingingChamber", "methodAt", "(I)LRingingChamber$Method;"⟩, 11) := ⟨⟨by decide +kernel, by decide +kernel⟩, List.mem_of_getElem? (i := 20) (by decide +kernel), List.mem_of_getElem? (i := 498) (by decide +kernel), List.mem_of_getElem? (i := 499) (by decide +kernel)⟩
theorem lw_p2 : lw_okq (⟨"RingingChamber", "finds", "(II)I"⟩, 11) := ⟨⟨by decide +kernel, by decide +kernel⟩, List.mem_of_getElem? (i := 20) (by decide +kernel), List.mem_of_getElem? (i := 502) (by decide +kernel), List.mem_of_getElem? (i := 503) (by decide +kernel)⟩
theorem lw_p3 : lw_okq (⟨"RingingChamber$Tape", "takes", "(II)Z"⟩, 8) := ⟨⟨by decide +kernel, by decide +kernel⟩, List.mem_of_getElem? (i := 28) (by decide +kernel), List.mem_of_getElem? (i := 510) (by decide +kernel), List.mem_of_getElem? (i := 511) (by decide +kernel)⟩
theorem lw_p4 : lw_okq (⟨"RingingChamber$Tape", "takesCross", "(I)Z"⟩, 8) := ⟨⟨by decide +kernel, by decide +kernel⟩, List.mem_of_getElem? (i := 28) (by decide +kernel), List.mem_of_getElem? (i := 514) (by decide +kernel), List.mem_of_getElem? (i := 515) (by decide +kernel)⟩
theorem lw_p5 : lw_okq (⟨"RingingChamber$Tape", "closePlaces", "(I)V"⟩, 8) := ⟨⟨by decide +kernel, by decide +kernel⟩, List.mem_of_getElem? (i := 28) (by decide +kernel), List.mem_of_getElem? (i := 518) (by decide +kernel), List.mem_of_getElem? (i := 519) (by decide +kernel)⟩
theorem lw_p6 : lw_okq (⟨"RingingChamber$Tape", "tell", "(I)V"⟩, 8) := ⟨⟨by decide +kernel, by decide +kernel⟩, List.mem_of_getElem? (i := 28) (by decide +kernel), List.mem_of_getElem? (i := 525) (by decide +kernel), List.mem_of_getElem? (i := 526) (by decide +kernel)⟩
theorem lw_p7 : lw_okq (⟨"RingingChamber$Tape", "takesDot", "(I)Z"⟩, 8) := ⟨⟨by decide +kernel, by decide +kernel⟩, List.mem_of_getElem? (i := 28) (by decide +kernel), List.mem_of_getElem? (i := 529) (by decide +kernel), List.mem_of_getElem? (i := 530) (by decide +kernel)⟩
theorem lw_p8 : lw_okq (⟨"RingingChamber$Tape", "takesComma", "(I)Z"⟩, 8) := ⟨⟨by decide +kernel, by decide +kernel⟩, List.mem_of_getElem? (i := 28) (by decide +kernel), List.mem_of_getElem? (i := 533) (by decide +kernel), List.mem_of_getElem? (i := 534) (by decide +kernel)⟩
theorem lw_p9 : lw_okq (⟨"RingingChamber$Tape", "canCloseBlock", "()Z"⟩, 8) := ⟨⟨by decide +kernel, by decide +kernel⟩, List.mem_of_getElem? (i := 28) (by decide +kernel), List.mem_of_getElem? (i := 537) (by decide +kernel), List.mem_of_getElem? (i := 538) (by decide +kernel)⟩
theorem lw_p10 : lw_okq (⟨"RingingChamber$Tape", "takesPlace", "(II)Z"⟩, 8) := ⟨⟨by decide +kernel, by decide +kernel⟩, List.mem_of_getElem? (i := 28) (by decide +kernel), List.mem_of_getElem? (i := 544) (by decide +kernel), List.mem_of_getElem? (i := 545) (by decide +kernel)⟩
theorem lw_p11 : lw_okq (⟨"RingingChamber$Tape", "write", "(LRingingChamber$Lead;)V"⟩, 8) := ⟨⟨by decide +kernel, by decide +kernel⟩, List.mem_of_getElem? (i := 28) (by decide +kernel), List.mem_of_getElem? (i := 548) (by decide +kernel), List.mem_of_getElem? (i := 549) (by decide +kernel)⟩
theorem lw_p12 : lw_okq (⟨"RingingChamber$Spliced", "partOf", "(I)LRingingChamber$Method;"⟩, 8) := ⟨⟨by decide +kernel, by decide +kernel⟩, List.mem_of_getElem? (i := 472) (by decide +kernel), List.mem_of_getElem? (i := 627) (by decide +kernel), List.mem_of_getElem? (i := 628) (by decide +kernel)⟩
theorem lw_p13 : lw_okq (⟨"RingingChamber$Little", "trebleKeepsOffLastPlace", "(LRingingChamber$Lead;)Z"⟩, 6) := ⟨⟨by decide +kernel, by decide +kernel⟩, List.mem_of_getElem? (i := 420) (by decide +kernel), List.mem_of_getElem? (i := 671) (by decide +kernel), List.mem_of_getElem? (i := 672) (by decide +kernel)⟩
theorem lw_p14 : lw_okq (⟨"RingingChamber$Treble", "trebleIsAsOftenAtEachPlace", "(LRingingChamber$Lead;)Z"⟩, 6) := ⟨⟨by decide +kernel, by decide +kernel⟩, List.mem_of_getElem? (i := 433) (by decide +kernel), List.mem_of_getElem? (i := 698) (by decide +kernel), List.mem_of_getElem? (i := 699) (by decide +kernel)⟩
theorem lw_p15 : lw_okq (⟨"RingingChamber$Surprise", "hasPlacesWhereTrebleCrosses", "(LRingingChamber$Lead;)Z"⟩, 6) := ⟨⟨by decide +kernel, by decide +kernel⟩, List.mem_of_getElem? (i := 446) (by decide +kernel), List.mem_of_getElem? (i := 704) (by decide +kernel), List.mem_of_getElem? (i := 705) (by decide +kernel)⟩
def lw_privs_1 : List (MethodName × Nat) := [(⟨"RingingChamber", "newMethod", "(I)LRingingChamber$Method;"⟩, 11), (⟨"RingingChamber", "methodAt", "(I)LRingingChamber$Method;"⟩, 11), (⟨"RingingChamber", "finds", "(II)I"⟩, 11), (⟨"RingingChamber$Tape", "takes", "(II)Z"⟩, 8), (⟨"RingingChamber$Tape", "takesCross", "(I)Z"⟩, 8), (⟨"RingingChamber$Tape", "closePlaces", "(I)V"⟩, 8), (⟨"RingingChamber$Tape", "tell", "(I)V"⟩, 8), (⟨"RingingChamber$Tape", "takesDot", "(I)Z"⟩, 8), (⟨"RingingChamber$Tape", "takesComma", "(I)Z"⟩, 8), (⟨"RingingChamber$Tape", "canCloseBlock", "()Z"⟩, 8), (⟨"RingingChamber$Tape", "takesPlace", "(II)Z"⟩, 8), (⟨"RingingChamber$Tape", "write", "(LRingingChamber$Lead;)V"⟩, 8), (⟨"RingingChamber$Spliced", "partOf", "(I)LRingingChamber$Method;"⟩, 8), (⟨"RingingChamber$Little", "trebleKeepsOffLastPlace", "(LRingingChamber$Lead;)Z"⟩, 6), (⟨"RingingChamber$Treble", "trebleIsAsOftenAtEachPlace", "(LRingingChamber$Lead;)Z"⟩, 6), (⟨"RingingChamber$Surprise", "hasPlacesWhereTrebleCrosses", "(LRingingChamber$Lead;)Z"⟩, 6)]
theorem lw_r1 : ∀ q ∈ lw_privs_1, lw_okq q := List.forall_mem_cons.mpr ⟨lw_p0, List.forall_mem_cons.mpr ⟨lw_p1, List.forall_mem_cons.mpr ⟨lw_p2, List.forall_mem_cons.mpr ⟨lw_p3, List.forall_mem_cons.mpr ⟨lw_p4, List.forall_mem_cons.mpr ⟨lw_p5, List.forall_mem_cons.mpr ⟨lw_p6, List.forall_mem_cons.mpr ⟨lw_p7, List.forall_mem_cons.mpr ⟨lw_p8, List.forall_mem_cons.mpr ⟨lw_p9, List.forall_mem_cons.mpr ⟨lw_p10, List.forall_mem_cons.mpr ⟨lw_p11, List.forall_mem_cons.mpr ⟨lw_p12, List.forall_mem_cons.mpr ⟨lw_p13, List.forall_mem_cons.mpr ⟨lw_p14, List.forall_mem_cons.mpr ⟨lw_p15, fun _ h => absurd h List.not_mem_nil⟩⟩⟩⟩⟩⟩⟩⟩⟩⟩⟩⟩⟩⟩⟩⟩
theorem lw_p16 : lw_okq (⟨"RingingChamber$Surprise", "hasInnerPlace", "(I)Z"⟩, 6) := ⟨⟨by decide +kernel, by decide +kernel⟩, List.mem_of_getElem? (i := 446) (by decide +kernel), List.mem_of_getElem? (i := 713) (by decide +kernel), List.mem_of_getElem? (i := 714) (by decide +kernel)⟩
theorem lw_p17 : lw_okq (⟨"RingingChamber", "findsRow", "(J)J"⟩, 11) := ⟨⟨by decide +kernel, by decide +kernel⟩, List.mem_of_getElem? (i := 20) (by decide +kernel), List.mem_of_getElem? (i := 732) (by decide +kernel), List.mem_of_getElem? (i := 733) (by decide +kernel)⟩
theorem lw_p18 : lw_okq (⟨"RingingChamber", "sharedRows", "(LRingingChamber$Lead;J)I"⟩, 11) := ⟨⟨by decide +kernel, by decide +kernel⟩, List.mem_of_getElem? (i := 20) (by decide +kernel), List.mem_of_getElem? (i := 772) (by decide +kernel), List.mem_of_getElem? (i := 773) (by decide +kernel)⟩
theorem lw_p19 : lw_okq (⟨"RingingChamber$Touch", "ringRow", "()V"⟩, 16) := ⟨⟨by decide +kernel, by decide +kernel⟩, List.mem_of_getElem? (i := 64) (by decide +kernel), List.mem_of_getElem? (i := 861) (by decide +kernel), List.mem_of_getElem? (i := 862) (by decide +kernel)⟩
theorem lw_p20 : lw_okq (⟨"RingingChamber$Touch", "beginItem", "()I"⟩, 16) := ⟨⟨by decide +kernel, by decide +kernel⟩, List.mem_of_getElem? (i := 64) (by decide +kernel), List.mem_of_getElem? (i := 871) (by decide +kernel), List.mem_of_getElem? (i := 872) (by decide +kernel)⟩
theorem lw_p21 : lw_okq (⟨"RingingChamber$Touch", "orderNumbers", "()I"⟩, 16) := ⟨⟨by decide +kernel, by decide +kernel⟩, List.mem_of_getElem? (i := 64) (by decide +kernel), List.mem_of_getElem? (i := 897) (by decide +kernel), List.mem_of_getElem? (i := 898) (by decide +kernel)⟩
theorem lw_p22 : lw_okq (⟨"RingingChamber$Touch", "provableRows", "()I"⟩, 16) := ⟨⟨by decide +kernel, by decide +kernel⟩, List.mem_of_getElem? (i := 64) (by decide +kernel), List.mem_of_getElem? (i := 901) (by decide +kernel), List.mem_of_getElem? (i := 902) (by decide +kernel)⟩
theorem lw_p23 : lw_okq (⟨"RingingChamber$Touch", "heapSort", "(I)V"⟩, 16) := ⟨⟨by decide +kernel, by decide +kernel⟩, List.mem_of_getElem? (i := 64) (by decide +kernel), List.mem_of_getElem? (i := 906) (by decide +kernel), List.mem_of_getElem? (i := 907) (by decide +kernel)⟩
theorem lw_p24 : lw_okq (⟨"RingingChamber$Touch", "sink", "(II)V"⟩, 16) := ⟨⟨by decide +kernel, by decide +kernel⟩, List.mem_of_getElem? (i := 64) (by decide +kernel), List.mem_of_getElem? (i := 910) (by decide +kernel), List.mem_of_getElem? (i := 911) (by decide +kernel)⟩
theorem lw_p25 : lw_okq (⟨"RingingChamber$Search", "openPlace", "()V"⟩, 20) := ⟨⟨by decide +kernel, by decide +kernel⟩, List.mem_of_getElem? (i := 191) (by decide +kernel), List.mem_of_getElem? (i := 979) (by decide +kernel), List.mem_of_getElem? (i := 980) (by decide +kernel)⟩
theorem lw_p26 : lw_okq (⟨"RingingChamber$Search", "ringRow", "(LRingingChamber$Lead;)V"⟩, 20) := ⟨⟨by decide +kernel, by decide +kernel⟩, List.mem_of_getElem? (i := 191) (by decide +kernel), List.mem_of_getElem? (i := 992) (by decide +kernel), List.mem_of_getElem? (i := 993) (by decide +kernel)⟩
theorem lw_p27 : lw_okq (⟨"RingingChamber$Search", "leaveItem", "()V"⟩, 20) := ⟨⟨by decide +kernel, by decide +kernel⟩, List.mem_of_getElem? (i := 191) (by decide +kernel), List.mem_of_getElem? (i := 999) (by decide +kernel), List.mem_of_getElem? (i := 1000) (by decide +kernel)⟩
theorem lw_p28 : lw_okq (⟨"RingingChamber$Search", "takesNextChoice", "()Z"⟩, 20) := ⟨⟨by decide +kernel, by decide +kernel⟩, List.mem_of_getElem? (i := 191) (by decide +kernel), List.mem_of_getElem? (i := 1003) (by decide +kernel), List.mem_of_getElem? (i := 1004) (by decide +kernel)⟩
theorem lw_p29 : lw_okq (⟨"RingingChamber$Search", "lookAtItem", "(ILRingingChamber$Method;)V"⟩, 20) := ⟨⟨by decide +kernel, by decide +kernel⟩, List.mem_of_getElem? (i := 191) (by decide +kernel), List.mem_of_getElem? (i := 1007) (by decide +kernel), List.mem_of_getElem? (i := 1008) (by decide +kernel)⟩
theorem lw_p30 : lw_okq (⟨"RingingChamberModel", "begin", "(I)V"⟩, 59) := ⟨⟨by decide +kernel, by decide +kernel⟩, List.mem_of_getElem? (i := 1033) (by decide +kernel), List.mem_of_getElem? (i := 1039) (by decide +kernel), List.mem_of_getElem? (i := 1040) (by decide +kernel)⟩
theorem lw_p31 : lw_okq (⟨"RingingChamberModel", "anew", "()V"⟩, 59) := ⟨⟨by decide +kernel, by decide +kernel⟩, List.mem_of_getElem? (i := 1033) (by decide +kernel), List.mem_of_getElem? (i := 1043) (by decide +kernel), List.mem_of_getElem? (i := 1044) (by decide +kernel)⟩
def lw_privs_2 : List (MethodName × Nat) := [(⟨"RingingChamber$Surprise", "hasInnerPlace", "(I)Z"⟩, 6), (⟨"RingingChamber", "findsRow", "(J)J"⟩, 11), (⟨"RingingChamber", "sharedRows", "(LRingingChamber$Lead;J)I"⟩, 11), (⟨"RingingChamber$Touch", "ringRow", "()V"⟩, 16), (⟨"RingingChamber$Touch", "beginItem", "()I"⟩, 16), (⟨"RingingChamber$Touch", "orderNumbers", "()I"⟩, 16), (⟨"RingingChamber$Touch", "provableRows", "()I"⟩, 16), (⟨"RingingChamber$Touch", "heapSort", "(I)V"⟩, 16), (⟨"RingingChamber$Touch", "sink", "(II)V"⟩, 16), (⟨"RingingChamber$Search", "openPlace", "()V"⟩, 20), (⟨"RingingChamber$Search", "ringRow", "(LRingingChamber$Lead;)V"⟩, 20), (⟨"RingingChamber$Search", "leaveItem", "()V"⟩, 20), (⟨"RingingChamber$Search", "takesNextChoice", "()Z"⟩, 20), (⟨"RingingChamber$Search", "lookAtItem", "(ILRingingChamber$Method;)V"⟩, 20), (⟨"RingingChamberModel", "begin", "(I)V"⟩, 59), (⟨"RingingChamberModel", "anew", "()V"⟩, 59)]
theorem lw_r2 : ∀ q ∈ lw_privs_2, lw_okq q := List.forall_mem_cons.mpr ⟨lw_p16, List.forall_mem_cons.mpr ⟨lw_p17, List.forall_mem_cons.mpr ⟨lw_p18, List.forall_mem_cons.mpr ⟨lw_p19, List.forall_mem_cons.mpr ⟨lw_p20, List.forall_mem_cons.mpr ⟨lw_p21, List.forall_mem_cons.mpr ⟨lw_p22, List.forall_mem_cons.mpr ⟨lw_p23, List.forall_mem_cons.mpr ⟨lw_p24, List.forall_mem_cons.mpr ⟨lw_p25, List.forall_mem_cons.mpr ⟨lw_p26, List.forall_mem_cons.mpr ⟨lw_p27, List.forall_mem_cons.mpr ⟨lw_p28, List.forall_mem_cons.mpr ⟨lw_p29, List.forall_mem_cons.mpr ⟨lw_p30, List.forall_mem_cons.mpr ⟨lw_p31, fun _ h => absurd h List.not_mem_nil⟩⟩⟩⟩⟩⟩⟩⟩⟩⟩⟩⟩⟩⟩⟩⟩
theorem lw_p32 : lw_okq (⟨"RingingChamberModel", "rounds", "()J"⟩, 59) := ⟨⟨by decide +kernel, by decide +kernel⟩, List.mem_of_getElem? (i := 1033) (by decide +kernel), List.mem_of_getElem? (i := 1047) (by decide +kernel), List.mem_of_getElem? (i := 1048) (by decide +kernel)⟩
theorem lw_p33 : lw_okq (⟨"RingingChamberModel", "isMethod", "(I)Z"⟩, 59) := ⟨⟨by decide +kernel, by decide +kernel⟩, List.mem_of_getElem? (i := 1033) (by decide +kernel), List.mem_of_getElem? (i := 1251) (by decide +kernel), List.mem_of_getElem? (i := 1252) (by decide +kernel)⟩
theorem lw_p34 : lw_okq (⟨"RingingChamberModel", "finds", "(I)Z"⟩, 59) := ⟨⟨by decide +kernel, by decide +kernel⟩, List.mem_of_getElem? (i := 1033) (by decide +kernel), List.mem_of_getElem? (i := 1255) (by decide +kernel), List.mem_of_getElem? (i := 1256) (by decide +kernel)⟩
theorem lw_p35 : lw_okq (⟨"RingingChamberModel", "block", "(I)Z"⟩, 59) := ⟨⟨by decide +kernel, by decide +kernel⟩, List.mem_of_getElem? (i := 1033) (by decide +kernel), List.mem_of_getElem? (i := 1259) (by decide +kernel), List.mem_of_getElem? (i := 1260) (by decide +kernel)⟩
theorem lw_p36 : lw_okq (⟨"RingingChamberModel", "cross", "()I"⟩, 59) := ⟨⟨by decide +kernel, by decide +kernel⟩, List.mem_of_getElem? (i := 1033) (by decide +kernel), List.mem_of_getElem? (i := 1266) (by decide +kernel), List.mem_of_getElem? (i := 1267) (by decide +kernel)⟩
theorem lw_p37 : lw_okq (⟨"RingingChamberModel", "places", "()Z"⟩, 59) := ⟨⟨by decide +kernel, by decide +kernel⟩, List.mem_of_getElem? (i := 1033) (by decide +kernel), List.mem_of_getElem? (i := 1270) (by decide +kernel), List.mem_of_getElem? (i := 1271) (by decide +kernel)⟩
theorem lw_p38 : lw_okq (⟨"RingingChamberModel", "turned", "(I)V"⟩, 59) := ⟨⟨by decide +kernel, by decide +kernel⟩, List.mem_of_getElem? (i := 1033) (by decide +kernel), List.mem_of_getElem? (i := 1274) (by decide +kernel), List.mem_of_getElem? (i := 1275) (by decide +kernel)⟩
theorem lw_p39 : lw_okq (⟨"RingingChamberModel", "isChange", "(I)Z"⟩, 59) := ⟨⟨by decide +kernel, by decide +kernel⟩, List.mem_of_getElem? (i := 1033) (by decide +kernel), List.mem_of_getElem? (i := 1286) (by decide +kernel), List.mem_of_getElem? (i := 1287) (by decide +kernel)⟩
theorem lw_p40 : lw_okq (⟨"RingingChamberModel", "calledOf", "(III)Z"⟩, 59) := ⟨⟨by decide +kernel, by decide +kernel⟩, List.mem_of_getElem? (i := 1033) (by decide +kernel), List.mem_of_getElem? (i := 1298) (by decide +kernel), List.mem_of_getElem? (i := 1299) (by decide +kernel)⟩
theorem lw_p41 : lw_okq (⟨"RingingChamberModel", "count", "(II)V"⟩, 59) := ⟨⟨by decide +kernel, by decide +kernel⟩, List.mem_of_getElem? (i := 1033) (by decide +kernel), List.mem_of_getElem? (i := 1302) (by decide +kernel), List.mem_of_getElem? (i := 1303) (by decide +kernel)⟩
theorem lw_p42 : lw_okq (⟨"RingingChamberModel", "isAmiss", "(I)Z"⟩, 59) := ⟨⟨by decide +kernel, by decide +kernel⟩, List.mem_of_getElem? (i := 1033) (by decide +kernel), List.mem_of_getElem? (i := 1306) (by decide +kernel), List.mem_of_getElem? (i := 1307) (by decide +kernel)⟩
theorem lw_p43 : lw_okq (⟨"RingingChamberModel", "partOf", "(II)I"⟩, 59) := ⟨⟨by decide +kernel, by decide +kernel⟩, List.mem_of_getElem? (i := 1033) (by decide +kernel), List.mem_of_getElem? (i := 1310) (by decide +kernel), List.mem_of_getElem? (i := 1311) (by decide +kernel)⟩
theorem lw_p44 : lw_okq (⟨"RingingChamberModel", "leadOf", "(II)Z"⟩, 59) := ⟨⟨by decide +kernel, by decide +kernel⟩, List.mem_of_getElem? (i := 1033) (by decide +kernel), List.mem_of_getElem? (i := 1314) (by decide +kernel), List.mem_of_getElem? (i := 1315) (by decide +kernel)⟩
theorem lw_p45 : lw_okq (⟨"RingingChamberModel", "judgeOf", "(I)I"⟩, 59) := ⟨⟨by decide +kernel, by decide +kernel⟩, List.mem_of_getElem? (i := 1033) (by decide +kernel), List.mem_of_getElem? (i := 1322) (by decide +kernel), List.mem_of_getElem? (i := 1323) (by decide +kernel)⟩
theorem lw_p46 : lw_okq (⟨"RingingChamberModel", "behind", "(JI)J"⟩, 59) := ⟨⟨by decide +kernel, by decide +kernel⟩, List.mem_of_getElem? (i := 1033) (by decide +kernel), List.mem_of_getElem? (i := 1326) (by decide +kernel), List.mem_of_getElem? (i := 1327) (by decide +kernel)⟩
theorem lw_p47 : lw_okq (⟨"RingingChamberModel", "hunt", "()V"⟩, 59) := ⟨⟨by decide +kernel, by decide +kernel⟩, List.mem_of_getElem? (i := 1033) (by decide +kernel), List.mem_of_getElem? (i := 1336) (by decide +kernel), List.mem_of_getElem? (i := 1337) (by decide +kernel)⟩
def lw_privs_3 : List (MethodName × Nat) := [(⟨"RingingChamberModel", "rounds", "()J"⟩, 59), (⟨"RingingChamberModel", "isMethod", "(I)Z"⟩, 59), (⟨"RingingChamberModel", "finds", "(I)Z"⟩, 59), (⟨"RingingChamberModel", "block", "(I)Z"⟩, 59), (⟨"RingingChamberModel", "cross", "()I"⟩, 59), (⟨"RingingChamberModel", "places", "()Z"⟩, 59), (⟨"RingingChamberModel", "turned", "(I)V"⟩, 59), (⟨"RingingChamberModel", "isChange", "(I)Z"⟩, 59), (⟨"RingingChamberModel", "calledOf", "(III)Z"⟩, 59), (⟨"RingingChamberModel", "count", "(II)V"⟩, 59), (⟨"RingingChamberModel", "isAmiss", "(I)Z"⟩, 59), (⟨"RingingChamberModel", "partOf", "(II)I"⟩, 59), (⟨"RingingChamberModel", "leadOf", "(II)Z"⟩, 59), (⟨"RingingChamberModel", "judgeOf", "(I)I"⟩, 59), (⟨"RingingChamberModel", "behind", "(JI)J"⟩, 59), (⟨"RingingChamberModel", "hunt", "()V"⟩, 59)]
theorem lw_r3 : ∀ q ∈ lw_privs_3, lw_okq q := List.forall_mem_cons.mpr ⟨lw_p32, List.forall_mem_cons.mpr ⟨lw_p33, List.forall_mem_cons.mpr ⟨lw_p34, List.forall_mem_cons.mpr ⟨lw_p35, List.forall_mem_cons.mpr ⟨lw_p36, List.forall_mem_cons.mpr ⟨lw_p37, List.forall_mem_cons.mpr ⟨lw_p38, List.forall_mem_cons.mpr ⟨lw_p39, List.forall_mem_cons.mpr ⟨lw_p40, List.forall_mem_cons.mpr ⟨lw_p41, List.forall_mem_cons.mpr ⟨lw_p42, List.forall_mem_cons.mpr ⟨lw_p43, List.forall_mem_cons.mpr ⟨lw_p44, List.forall_mem_cons.mpr ⟨lw_p45, List.forall_mem_cons.mpr ⟨lw_p46, List.forall_mem_cons.mpr ⟨lw_p47, fun _ h => absurd h List.not_mem_nil⟩⟩⟩⟩⟩⟩⟩⟩⟩⟩⟩⟩⟩⟩⟩⟩
theorem lw_p48 : lw_okq (⟨"RingingChamberModel", "placeOfOne", "(J)I"⟩, 59) := ⟨⟨by decide +kernel, by decide +kernel⟩, List.mem_of_getElem? (i := 1033) (by decide +kernel), List.mem_of_getElem? (i := 1340) (by decide +kernel), List.mem_of_getElem? (i := 1341) (by decide +kernel)⟩
theorem lw_p49 : lw_okq (⟨"RingingChamberModel", "isEven", "()Z"⟩, 59) := ⟨⟨by decide +kernel, by decide +kernel⟩, List.mem_of_getElem? (i := 1033) (by decide +kernel), List.mem_of_getElem? (i := 1344) (by decide +kernel), List.mem_of_getElem? (i := 1345) (by decide +kernel)⟩
theorem lw_p50 : lw_okq (⟨"RingingChamberModel", "isSurprising", "()Z"⟩, 59) := ⟨⟨by decide +kernel, by decide +kernel⟩, List.mem_of_getElem? (i := 1033) (by decide +kernel), List.mem_of_getElem? (i := 1348) (by decide +kernel), List.mem_of_getElem? (i := 1349) (by decide +kernel)⟩
theorem lw_p51 : lw_okq (⟨"RingingChamberModel", "staysWithin", "(I)Z"⟩, 59) := ⟨⟨by decide +kernel, by decide +kernel⟩, List.mem_of_getElem? (i := 1033) (by decide +kernel), List.mem_of_getElem? (i := 1353) (by decide +kernel), List.mem_of_getElem? (i := 1354) (by decide +kernel)⟩
theorem lw_p52 : lw_okq (⟨"RingingChamberModel", "orderOf", "(J)I"⟩, 59) := ⟨⟨by decide +kernel, by decide +kernel⟩, List.mem_of_getElem? (i := 1033) (by decide +kernel), List.mem_of_getElem? (i := 1365) (by decide +kernel), List.mem_of_getElem? (i := 1366) (by decide +kernel)⟩
theorem lw_p53 : lw_okq (⟨"RingingChamberModel", "times", "(JJ)J"⟩, 59) := ⟨⟨by decide +kernel, by decide +kernel⟩, List.mem_of_getElem? (i := 1033) (by decide +kernel), List.mem_of_getElem? (i := 1369) (by decide +kernel), List.mem_of_getElem? (i := 1370) (by decide +kernel)⟩
theorem lw_p54 : lw_okq (⟨"RingingChamberModel", "isRow", "(J)Z"⟩, 59) := ⟨⟨by decide +kernel, by decide +kernel⟩, List.mem_of_getElem? (i := 1033) (by decide +kernel), List.mem_of_getElem? (i := 1377) (by decide +kernel), List.mem_of_getElem? (i := 1378) (by decide +kernel)⟩
theorem lw_p55 : lw_okq (⟨"RingingChamberModel", "numberOf", "(J)I"⟩, 59) := ⟨⟨by decide +kernel, by decide +kernel⟩, List.mem_of_getElem? (i := 1033) (by decide +kernel), List.mem_of_getElem? (i := 1393) (by decide +kernel), List.mem_of_getElem? (i := 1394) (by decide +kernel)⟩
theorem lw_p56 : lw_okq (⟨"RingingChamberModel", "all", "()I"⟩, 59) := ⟨⟨by decide +kernel, by decide +kernel⟩, List.mem_of_getElem? (i := 1033) (by decide +kernel), List.mem_of_getElem? (i := 1401) (by decide +kernel), List.mem_of_getElem? (i := 1402) (by decide +kernel)⟩
theorem lw_p57 : lw_okq (⟨"RingingChamberModel", "rowOf", "(I)J"⟩, 59) := ⟨⟨by decide +kernel, by decide +kernel⟩, List.mem_of_getElem? (i := 1033) (by decide +kernel), List.mem_of_getElem? (i := 1405) (by decide +kernel), List.mem_of_getElem? (i := 1406) (by decide +kernel)⟩
theorem lw_p58 : lw_okq (⟨"RingingChamberModel", "rings", "()Z"⟩, 59) := ⟨⟨by decide +kernel, by decide +kernel⟩, List.mem_of_getElem? (i := 1033) (by decide +kernel), List.mem_of_getElem? (i := 1437) (by decide +kernel), List.mem_of_getElem? (i := 1438) (by decide +kernel)⟩
theorem lw_p59 : lw_okq (⟨"RingingChamberModel", "meant", "()I"⟩, 59) := ⟨⟨by decide +kernel, by decide +kernel⟩, List.mem_of_getElem? (i := 1033) (by decide +kernel), List.mem_of_getElem? (i := 1453) (by decide +kernel), List.mem_of_getElem? (i := 1454) (by decide +kernel)⟩
theorem lw_p60 : lw_okq (⟨"RingingChamberModel", "numbers", "([I)V"⟩, 59) := ⟨⟨by decide +kernel, by decide +kernel⟩, List.mem_of_getElem? (i := 1033) (by decide +kernel), List.mem_of_getElem? (i := 1462) (by decide +kernel), List.mem_of_getElem? (i := 1463) (by decide +kernel)⟩
theorem lw_p61 : lw_okq (⟨"RingingChamberModel", "isPattern", "(J)Z"⟩, 59) := ⟨⟨by decide +kernel, by decide +kernel⟩, List.mem_of_getElem? (i := 1033) (by decide +kernel), List.mem_of_getElem? (i := 1490) (by decide +kernel), List.mem_of_getElem? (i := 1491) (by decide +kernel)⟩
theorem lw_p62 : lw_okq (⟨"RingingChamberModel", "isFitting", "(JJ)Z"⟩, 59) := ⟨⟨by decide +kernel, by decide +kernel⟩, List.mem_of_getElem? (i := 1033) (by decide +kernel), List.mem_of_getElem? (i := 1494) (by decide +kernel), List.mem_of_getElem? (i := 1495) (by decide +kernel)⟩
theorem lw_p63 : lw_okq (⟨"RingingChamberModel", "go", "(I)V"⟩, 59) := ⟨⟨by decide +kernel, by decide +kernel⟩, List.mem_of_getElem? (i := 1033) (by decide +kernel), List.mem_of_getElem? (i := 1511) (by decide +kernel), List.mem_of_getElem? (i := 1512) (by decide +kernel)⟩
def lw_privs_4 : List (MethodName × Nat) := [(⟨"RingingChamberModel", "placeOfOne", "(J)I"⟩, 59), (⟨"RingingChamberModel", "isEven", "()Z"⟩, 59), (⟨"RingingChamberModel", "isSurprising", "()Z"⟩, 59), (⟨"RingingChamberModel", "staysWithin", "(I)Z"⟩, 59), (⟨"RingingChamberModel", "orderOf", "(J)I"⟩, 59), (⟨"RingingChamberModel", "times", "(JJ)J"⟩, 59), (⟨"RingingChamberModel", "isRow", "(J)Z"⟩, 59), (⟨"RingingChamberModel", "numberOf", "(J)I"⟩, 59), (⟨"RingingChamberModel", "all", "()I"⟩, 59), (⟨"RingingChamberModel", "rowOf", "(I)J"⟩, 59), (⟨"RingingChamberModel", "rings", "()Z"⟩, 59), (⟨"RingingChamberModel", "meant", "()I"⟩, 59), (⟨"RingingChamberModel", "numbers", "([I)V"⟩, 59), (⟨"RingingChamberModel", "isPattern", "(J)Z"⟩, 59), (⟨"RingingChamberModel", "isFitting", "(JJ)Z"⟩, 59), (⟨"RingingChamberModel", "go", "(I)V"⟩, 59)]
theorem lw_r4 : ∀ q ∈ lw_privs_4, lw_okq q := List.forall_mem_cons.mpr ⟨lw_p48, List.forall_mem_cons.mpr ⟨lw_p49, List.forall_mem_cons.mpr ⟨lw_p50, List.forall_mem_cons.mpr ⟨lw_p51, List.forall_mem_cons.mpr ⟨lw_p52, List.forall_mem_cons.mpr ⟨lw_p53, List.forall_mem_cons.mpr ⟨lw_p54, List.forall_mem_cons.mpr ⟨lw_p55, List.forall_mem_cons.mpr ⟨lw_p56, List.forall_mem_cons.mpr ⟨lw_p57, List.forall_mem_cons.mpr ⟨lw_p58, List.forall_mem_cons.mpr ⟨lw_p59, List.forall_mem_cons.mpr ⟨lw_p60, List.forall_mem_cons.mpr ⟨lw_p61, List.forall_mem_cons.mpr ⟨lw_p62, List.forall_mem_cons.mpr ⟨lw_p63, fun _ h => absurd h List.not_mem_nil⟩⟩⟩⟩⟩⟩⟩⟩⟩⟩⟩⟩⟩⟩⟩⟩
theorem lw_p64 : lw_okq (⟨"RingingChamberModel", "begins", "()Z"⟩, 59) := ⟨⟨by decide +kernel, by decide +kernel⟩, List.mem_of_getElem? (i := 1033) (by decide +kernel), List.mem_of_getElem? (i := 1515) (by decide +kernel), List.mem_of_getElem? (i := 1516) (by decide +kernel)⟩
theorem lw_p65 : lw_okq (⟨"RingingChamberModel", "isComposed", "()Z"⟩, 59) := ⟨⟨by decide +kernel, by decide +kernel⟩, List.mem_of_getElem? (i := 1033) (by decide +kernel), List.mem_of_getElem? (i := 1519) (by decide +kernel), List.mem_of_getElem? (i := 1520) (by decide +kernel)⟩
theorem lw_p66 : lw_okq (⟨"RingingChamberModel", "tell", "()V"⟩, 59) := ⟨⟨by decide +kernel, by decide +kernel⟩, List.mem_of_getElem? (i := 1033) (by decide +kernel), List.mem_of_getElem? (i := 1523) (by decide +kernel), List.mem_of_getElem? (i := 1524) (by decide +kernel)⟩
theorem lw_p67 : lw_okq (⟨"RingingChamberModel", "isThere", "(J)Z"⟩, 59) := ⟨⟨by decide +kernel, by decide +kernel⟩, List.mem_of_getElem? (i := 1033) (by decide +kernel), List.mem_of_getElem? (i := 1527) (by decide +kernel), List.mem_of_getElem? (i := 1528) (by decide +kernel)⟩
def lw_privs_5 : List (MethodName × Nat) := [(⟨"RingingChamberModel", "begins", "()Z"⟩, 59), (⟨"RingingChamberModel", "isComposed", "()Z"⟩, 59), (⟨"RingingChamberModel", "tell", "()V"⟩, 59), (⟨"RingingChamberModel", "isThere", "(J)Z"⟩, 59)]
theorem lw_r5 : ∀ q ∈ lw_privs_5, lw_okq q := List.forall_mem_cons.mpr ⟨lw_p64, List.forall_mem_cons.mpr ⟨lw_p65, List.forall_mem_cons.mpr ⟨lw_p66, List.forall_mem_cons.mpr ⟨lw_p67, fun _ h => absurd h List.not_mem_nil⟩⟩⟩⟩
def lw_privs : List (MethodName × Nat) := lw_privs_1 ++ (lw_privs_2 ++ (lw_privs_3 ++ (lw_privs_4 ++ (lw_privs_5))))
def lw_tbl : List Cond := k2_sels lw_privs ++ tables_1
theorem lw_privs_ok : ∀ q ∈ lw_privs, lw_okq q := by
  show ∀ q ∈ lw_privs_1 ++ (lw_privs_2 ++ (lw_privs_3 ++ (lw_privs_4 ++ (lw_privs_5)))), lw_okq q
  exact List.forall_mem_append.mpr ⟨lw_r1, List.forall_mem_append.mpr ⟨lw_r2, List.forall_mem_append.mpr ⟨lw_r3, List.forall_mem_append.mpr ⟨lw_r4, lw_r5⟩⟩⟩⟩
-- ===== end of PART A; then your names; then what follows =====
end
section
/-! class tables: fields in order (declaring class, name, descriptor, final) -/
def kT0 : u_T := fun k => match k with
  | 0 => ("RingingChamber$Lead", "changes", "[I", true)
  | 1 => ("RingingChamber$Lead", "size", "I", false)
  | _ => ("RingingChamber$Lead", "amiss", "I", false)
def kY0 : Nat → FieldType := fun k => match k with
  | 0 => .array (.int)
  | 1 => .int
  | _ => .int
def kT1 : u_T := fun k => match k with
  | 0 => ("RingingChamber$Method", "bells", "I", true)
  | 1 => ("RingingChamber$Method", "begun", "[I", true)
  | 2 => ("RingingChamber$Method", "own", "LRingingChamber$Lead;", true)
  | 3 => ("RingingChamber$Method", "callPlaces", "[I", true)
  | 4 => ("RingingChamber$Method", "callChanges", "[I", true)
  | _ => ("RingingChamber$Method", "allowedCalls", "I", false)
def kY1 : Nat → FieldType := fun k => match k with
  | 0 => .int
  | 1 => .array (.int)
  | 2 => .object "RingingChamber$Lead"
  | 3 => .array (.int)
  | 4 => .array (.int)
  | _ => .int
def kT2 : u_T := fun k => match k with
  | 0 => ("RingingChamber$Method", "bells", "I", true)
  | 1 => ("RingingChamber$Method", "begun", "[I", true)
  | 2 => ("RingingChamber$Method", "own", "LRingingChamber$Lead;", true)
  | 3 => ("RingingChamber$Method", "callPlaces", "[I", true)
  | 4 => ("RingingChamber$Method", "callChanges", "[I", true)
  | _ => ("RingingChamber$Method", "allowedCalls", "I", false)
def kY2 : Nat → FieldType := fun k => match k with
  | 0 => .int
  | 1 => .array (.int)
  | 2 => .object "RingingChamber$Lead"
  | 3 => .array (.int)
  | 4 => .array (.int)
  | _ => .int
def kT3 : u_T := fun k => match k with
  | 0 => ("RingingChamber$Method", "bells", "I", true)
  | 1 => ("RingingChamber$Method", "begun", "[I", true)
  | 2 => ("RingingChamber$Method", "own", "LRingingChamber$Lead;", true)
  | 3 => ("RingingChamber$Method", "callPlaces", "[I", true)
  | 4 => ("RingingChamber$Method", "callChanges", "[I", true)
  | _ => ("RingingChamber$Method", "allowedCalls", "I", false)
def kY3 : Nat → FieldType := fun k => match k with
  | 0 => .int
  | 1 => .array (.int)
  | 2 => .object "RingingChamber$Lead"
  | 3 => .array (.int)
  | 4 => .array (.int)
  | _ => .int
def kT4 : u_T := fun k => match k with
  | 0 => ("RingingChamber$Rows", "codes", "[J", true)
  | 1 => ("RingingChamber$Rows", "links", "[I", true)
  | 2 => ("RingingChamber$Rows", "heads", "[I", true)
  | _ => ("RingingChamber$Rows", "size", "I", false)
def kY4 : Nat → FieldType := fun k => match k with
  | 0 => .array (.long)
  | 1 => .array (.int)
  | 2 => .array (.int)
  | _ => .int
def kT5 : u_T := fun k => match k with
  | 0 => ("RingingChamber$Search", "choices", "[I", true)
  | 1 => ("RingingChamber$Search", "choiceMethods", "[LRingingChamber$Method;", true)
  | 2 => ("RingingChamber$Search", "choiceCount", "I", false)
  | 3 => ("RingingChamber$Search", "length", "I", false)
  | 4 => ("RingingChamber$Search", "wanted", "I", false)
  | 5 => ("RingingChamber$Search", "pattern", "J", false)
  | 6 => ("RingingChamber$Search", "toldDigits", "J", false)
  | 7 => ("RingingChamber$Search", "rounds", "J", false)
  | 8 => ("RingingChamber$Search", "leads", "[LRingingChamber$Lead;", true)
  | 9 => ("RingingChamber$Search", "usable", "[I", true)
  | 10 => ("RingingChamber$Search", "rows", "LRingingChamber$Rows;", true)
  | 11 => ("RingingChamber$Search", "fitting", "[I", true)
  | 12 => ("RingingChamber$Search", "taken", "[I", true)
  | 13 => ("RingingChamber$Search", "firstRows", "[I", true)
  | 14 => ("RingingChamber$Search", "depth", "I", false)
  | 15 => ("RingingChamber$Search", "current", "LRingingChamber$Lead;", false)
  | 16 => ("RingingChamber$Search", "changesDone", "I", false)
  | 17 => ("RingingChamber$Search", "answer", "I", false)
  | 18 => ("RingingChamber$Search", "steps", "I", false)
  | _ => ("RingingChamber$Search", "isVoid", "Z", false)
def kY5 : Nat → FieldType := fun k => match k with
  | 0 => .array (.int)
  | 1 => .array (.object "RingingChamber$Method")
  | 2 => .int
  | 3 => .int
  | 4 => .int
  | 5 => .long
  | 6 => .long
  | 7 => .long
  | 8 => .array (.object "RingingChamber$Lead")
  | 9 => .array (.int)
  | 10 => .object "RingingChamber$Rows"
  | 11 => .array (.int)
  | 12 => .array (.int)
  | 13 => .array (.int)
  | 14 => .int
  | 15 => .object "RingingChamber$Lead"
  | 16 => .int
  | 17 => .int
  | 18 => .int
  | _ => .boolean
def kT6 : u_T := fun k => match k with
  | 0 => ("RingingChamber$Method", "bells", "I", true)
  | 1 => ("RingingChamber$Method", "begun", "[I", true)
  | 2 => ("RingingChamber$Method", "own", "LRingingChamber$Lead;", true)
  | 3 => ("RingingChamber$Method", "callPlaces", "[I", true)
  | 4 => ("RingingChamber$Method", "callChanges", "[I", true)
  | 5 => ("RingingChamber$Method", "allowedCalls", "I", false)
  | 6 => ("RingingChamber$Spliced", "parts", "[LRingingChamber$Method;", true)
  | _ => ("RingingChamber$Spliced", "partCount", "I", false)
def kY6 : Nat → FieldType := fun k => match k with
  | 0 => .int
  | 1 => .array (.int)
  | 2 => .object "RingingChamber$Lead"
  | 3 => .array (.int)
  | 4 => .array (.int)
  | 5 => .int
  | 6 => .array (.object "RingingChamber$Method")
  | _ => .int
def kT7 : u_T := fun k => match k with
  | 0 => ("RingingChamber$Method", "bells", "I", true)
  | 1 => ("RingingChamber$Method", "begun", "[I", true)
  | 2 => ("RingingChamber$Method", "own", "LRingingChamber$Lead;", true)
  | 3 => ("RingingChamber$Method", "callPlaces", "[I", true)
  | 4 => ("RingingChamber$Method", "callChanges", "[I", true)
  | _ => ("RingingChamber$Method", "allowedCalls", "I", false)
def kY7 : Nat → FieldType := fun k => match k with
  | 0 => .int
  | 1 => .array (.int)
  | 2 => .object "RingingChamber$Lead"
  | 3 => .array (.int)
  | 4 => .array (.int)
  | _ => .int
def kT8 : u_T := fun k => match k with
  | 0 => ("RingingChamber$Tape", "bytes", "[B", true)
  | 1 => ("RingingChamber$Tape", "length", "I", false)
  | 2 => ("RingingChamber$Tape", "told", "[I", true)
  | 3 => ("RingingChamber$Tape", "toldCount", "I", false)
  | 4 => ("RingingChamber$Tape", "firstBlock", "I", false)
  | 5 => ("RingingChamber$Tape", "state", "I", false)
  | 6 => ("RingingChamber$Tape", "lastPlace", "I", false)
  | _ => ("RingingChamber$Tape", "openChange", "I", false)
def kY8 : Nat → FieldType := fun k => match k with
  | 0 => .array (.byte)
  | 1 => .int
  | 2 => .array (.int)
  | 3 => .int
  | 4 => .int
  | 5 => .int
  | 6 => .int
  | _ => .int
def kT9 : u_T := fun k => match k with
  | 0 => ("RingingChamber$Touch", "itemMethods", "[LRingingChamber$Method;", true)
  | 1 => ("RingingChamber$Touch", "itemCalls", "[I", true)
  | 2 => ("RingingChamber$Touch", "itemCount", "I", false)
  | 3 => ("RingingChamber$Touch", "bells", "I", false)
  | 4 => ("RingingChamber$Touch", "rounds", "J", false)
  | 5 => ("RingingChamber$Touch", "rows", "LRingingChamber$Rows;", true)
  | 6 => ("RingingChamber$Touch", "current", "LRingingChamber$Lead;", true)
  | 7 => ("RingingChamber$Touch", "changesDone", "I", false)
  | 8 => ("RingingChamber$Touch", "nextItem", "I", false)
  | 9 => ("RingingChamber$Touch", "hasStopped", "Z", false)
  | 10 => ("RingingChamber$Touch", "roundAt", "I", false)
  | 11 => ("RingingChamber$Touch", "firstFalse", "I", false)
  | 12 => ("RingingChamber$Touch", "numbers", "[I", true)
  | 13 => ("RingingChamber$Touch", "numberedRows", "I", false)
  | 14 => ("RingingChamber$Touch", "proven", "[I", true)
  | _ => ("RingingChamber$Touch", "proofSize", "I", false)
def kY9 : Nat → FieldType := fun k => match k with
  | 0 => .array (.object "RingingChamber$Method")
  | 1 => .array (.int)
  | 2 => .int
  | 3 => .int
  | 4 => .long
  | 5 => .object "RingingChamber$Rows"
  | 6 => .object "RingingChamber$Lead"
  | 7 => .int
  | 8 => .int
  | 9 => .boolean
  | 10 => .int
  | 11 => .int
  | 12 => .array (.int)
  | 13 => .int
  | 14 => .array (.int)
  | _ => .int
def kT10 : u_T := fun k => match k with
  | 0 => ("RingingChamber$Method", "bells", "I", true)
  | 1 => ("RingingChamber$Method", "begun", "[I", true)
  | 2 => ("RingingChamber$Method", "own", "LRingingChamber$Lead;", true)
  | 3 => ("RingingChamber$Method", "callPlaces", "[I", true)
  | 4 => ("RingingChamber$Method", "callChanges", "[I", true)
  | _ => ("RingingChamber$Method", "allowedCalls", "I", false)
def kY10 : Nat → FieldType := fun k => match k with
  | 0 => .int
  | 1 => .array (.int)
  | 2 => .object "RingingChamber$Lead"
  | 3 => .array (.int)
  | 4 => .array (.int)
  | _ => .int
def kT11 : u_T := fun k => match k with
  | 0 => ("RingingChamber", "tape", "LRingingChamber$Tape;", true)
  | 1 => ("RingingChamber", "begun", "[I", true)
  | 2 => ("RingingChamber", "methods", "[LRingingChamber$Method;", true)
  | 3 => ("RingingChamber", "methodCount", "I", false)
  | 4 => ("RingingChamber", "bellCount", "I", false)
  | 5 => ("RingingChamber", "rungBells", "I", false)
  | 6 => ("RingingChamber", "finding", "I", false)
  | 7 => ("RingingChamber", "ringing", "LRingingChamber$Touch;", true)
  | 8 => ("RingingChamber", "seeking", "LRingingChamber$Search;", true)
  | 9 => ("RingingChamber", "looked", "LRingingChamber$Lead;", true)
  | _ => ("RingingChamber", "others", "LRingingChamber$Rows;", true)
def kY11 : Nat → FieldType := fun k => match k with
  | 0 => .object "RingingChamber$Tape"
  | 1 => .array (.int)
  | 2 => .array (.object "RingingChamber$Method")
  | 3 => .int
  | 4 => .int
  | 5 => .int
  | 6 => .int
  | 7 => .object "RingingChamber$Touch"
  | 8 => .object "RingingChamber$Search"
  | 9 => .object "RingingChamber$Lead"
  | _ => .object "RingingChamber$Rows"
def kT12 : u_T := fun k => match k with
  | 0 => ("RingingChamberModel", "tape", "[I", true)
  | 1 => ("RingingChamberModel", "taped", "I", false)
  | 2 => ("RingingChamberModel", "n", "I", false)
  | 3 => ("RingingChamberModel", "finding", "I", false)
  | 4 => ("RingingChamberModel", "trace", "[I", true)
  | 5 => ("RingingChamberModel", "methods", "I", false)
  | 6 => ("RingingChamberModel", "kind", "[I", true)
  | 7 => ("RingingChamberModel", "lengths", "[I", true)
  | 8 => ("RingingChamberModel", "leads", "[I", true)
  | 9 => ("RingingChamberModel", "callPlace", "[I", true)
  | 10 => ("RingingChamberModel", "callChange", "[I", true)
  | 11 => ("RingingChamberModel", "partMany", "[I", true)
  | 12 => ("RingingChamberModel", "parts", "[I", true)
  | 13 => ("RingingChamberModel", "out", "[I", true)
  | 14 => ("RingingChamberModel", "outMany", "I", false)
  | 15 => ("RingingChamberModel", "amiss", "I", false)
  | 16 => ("RingingChamberModel", "isCounted", "Z", false)
  | 17 => ("RingingChamberModel", "itemMethod", "[I", true)
  | 18 => ("RingingChamberModel", "itemCall", "[I", true)
  | 19 => ("RingingChamberModel", "items", "I", false)
  | 20 => ("RingingChamberModel", "rows", "[J", true)
  | 21 => ("RingingChamberModel", "rowMany", "I", false)
  | 22 => ("RingingChamberModel", "nextItem", "I", false)
  | 23 => ("RingingChamberModel", "now", "[I", true)
  | 24 => ("RingingChamberModel", "nowMany", "I", false)
  | 25 => ("RingingChamberModel", "nowAt", "I", false)
  | 26 => ("RingingChamberModel", "stops", "Z", false)
  | 27 => ("RingingChamberModel", "came", "I", false)
  | 28 => ("RingingChamberModel", "proof", "[I", true)
  | 29 => ("RingingChamberModel", "other", "[I", true)
  | 30 => ("RingingChamberModel", "proofMany", "I", false)
  | 31 => ("RingingChamberModel", "nobody", "[Z", true)
  | 32 => ("RingingChamberModel", "allowed", "[I", true)
  | 33 => ("RingingChamberModel", "isSearch", "Z", false)
  | 34 => ("RingingChamberModel", "isVoid", "Z", false)
  | 35 => ("RingingChamberModel", "result", "I", false)
  | 36 => ("RingingChamberModel", "length", "I", false)
  | 37 => ("RingingChamberModel", "wanted", "I", false)
  | 38 => ("RingingChamberModel", "pattern", "J", false)
  | 39 => ("RingingChamberModel", "steps", "I", false)
  | 40 => ("RingingChamberModel", "candidates", "[I", true)
  | 41 => ("RingingChamberModel", "candidateMany", "I", false)
  | 42 => ("RingingChamberModel", "known", "[B", true)
  | 43 => ("RingingChamberModel", "depth", "I", false)
  | 44 => ("RingingChamberModel", "isIn", "Z", false)
  | 45 => ("RingingChamberModel", "chosen", "[I", true)
  | 46 => ("RingingChamberModel", "begun", "[I", true)
  | 47 => ("RingingChamberModel", "rung", "[J", true)
  | 48 => ("RingingChamberModel", "top", "I", false)
  | 49 => ("RingingChamberModel", "going", "[I", true)
  | 50 => ("RingingChamberModel", "goingMany", "I", false)
  | 51 => ("RingingChamberModel", "goingAt", "I", false)
  | 52 => ("RingingChamberModel", "foundItems", "[I", true)
  | 53 => ("RingingChamberModel", "foundMany", "I", false)
  | 54 => ("RingingChamberModel", "read", "[I", true)
  | 55 => ("RingingChamberModel", "readMany", "I", false)
  | 56 => ("RingingChamberModel", "readAt", "I", false)
  | 57 => ("RingingChamberModel", "places", "[I", true)
  | _ => ("RingingChamberModel", "some", "[J", true)
def kY12 : Nat → FieldType := fun k => match k with
  | 0 => .array (.int)
  | 1 => .int
  | 2 => .int
  | 3 => .int
  | 4 => .array (.int)
  | 5 => .int
  | 6 => .array (.int)
  | 7 => .array (.int)
  | 8 => .array (.int)
  | 9 => .array (.int)
  | 10 => .array (.int)
  | 11 => .array (.int)
  | 12 => .array (.int)
  | 13 => .array (.int)
  | 14 => .int
  | 15 => .int
  | 16 => .boolean
  | 17 => .array (.int)
  | 18 => .array (.int)
  | 19 => .int
  | 20 => .array (.long)
  | 21 => .int
  | 22 => .int
  | 23 => .array (.int)
  | 24 => .int
  | 25 => .int
  | 26 => .boolean
  | 27 => .int
  | 28 => .array (.int)
  | 29 => .array (.int)
  | 30 => .int
  | 31 => .array (.boolean)
  | 32 => .array (.int)
  | 33 => .boolean
  | 34 => .boolean
  | 35 => .int
  | 36 => .int
  | 37 => .int
  | 38 => .long
  | 39 => .int
  | 40 => .array (.int)
  | 41 => .int
  | 42 => .array (.byte)
  | 43 => .int
  | 44 => .boolean
  | 45 => .array (.int)
  | 46 => .array (.int)
  | 47 => .array (.long)
  | 48 => .int
  | 49 => .array (.int)
  | 50 => .int
  | 51 => .int
  | 52 => .array (.int)
  | 53 => .int
  | 54 => .array (.int)
  | 55 => .int
  | 56 => .int
  | 57 => .array (.int)
  | _ => .array (.long)
abbrev kCL : List vw_C := [("RingingChamber$Lead", kT0, 3), ("RingingChamber$Little", kT1, 6), ("RingingChamber$Plain", kT2, 6), ("RingingChamber$Principle", kT3, 6), ("RingingChamber$Rows", kT4, 4), ("RingingChamber$Search", kT5, 20), ("RingingChamber$Spliced", kT6, 8), ("RingingChamber$Surprise", kT7, 6), ("RingingChamber$Tape", kT8, 8), ("RingingChamber$Touch", kT9, 16), ("RingingChamber$Treble", kT10, 6), ("RingingChamber", kT11, 11), ("RingingChamberModel", kT12, 59)]
def kFT : List (List Nat) := [[2, 0, 0], [0, 2, 2, 2, 2, 0], [0, 2, 2, 2, 2, 0], [0, 2, 2, 2, 2, 0], [2, 2, 2, 0], [2, 2, 0, 0, 0, 1, 1, 1, 2, 2, 2, 2, 2, 2, 0, 2, 0, 0, 0, 0], [0, 2, 2, 2, 2, 0, 2, 0], [0, 2, 2, 2, 2, 0], [2, 0, 2, 0, 0, 0, 0, 0], [2, 2, 0, 0, 1, 2, 2, 0, 0, 0, 0, 0, 2, 0, 2, 0], [0, 2, 2, 2, 2, 0], [2, 2, 2, 0, 0, 0, 0, 2, 2, 2, 2], [2, 0, 0, 0, 2, 0, 2, 2, 2, 2, 2, 2, 2, 2, 0, 0, 0, 2, 2, 0, 2, 0, 0, 2, 0, 0, 0, 0, 2, 2, 0, 2, 2, 0, 0, 0, 0, 0, 1, 0, 2, 0, 2, 0, 0, 2, 2, 2, 0, 2, 0, 0, 2, 0, 2, 0, 0, 2, 2]]
def fty (t k : Nat) : Nat := (kFT.getD t []).getD k 0
def nfl (t : Nat) : Nat := (kFT.getD t []).length
def kTY (t : Nat) : Nat → FieldType := match t with
  | 0 => kY0
  | 1 => kY1
  | 2 => kY2
  | 3 => kY3
  | 4 => kY4
  | 5 => kY5
  | 6 => kY6
  | 7 => kY7
  | 8 => kY8
  | 9 => kY9
  | 10 => kY10
  | 11 => kY11
  | _ => kY12
/-- a private method of the class above, called on an object of the class below -/
def gtX : Cond := .selects "RingingChamber$Surprise" ⟨"RingingChamber$Treble", "trebleIsAsOftenAtEachPlace", "(LRingingChamber$Lead;)Z"⟩ ⟨"RingingChamber$Treble", "trebleIsAsOftenAtEachPlace", "(LRingingChamber$Lead;)Z"⟩
def GT : List Cond := (gtX :: lw_tbl).filter goodWord
theorem gt_mem {w : Cond} (h : w ∈ lw_tbl) (g : goodWord w = true) : w ∈ GT := List.mem_filter.mpr ⟨List.mem_cons_of_mem _ h, g⟩
theorem gt_in {w : Cond} (h : w ∈ GT) : w = gtX ∨ w ∈ lw_tbl := List.mem_cons.mp (List.mem_filter.mp h).1
theorem gt_x : gtX ∈ GT := List.mem_filter.mpr ⟨List.mem_cons_self, by decide +kernel⟩
theorem gt_1 {w : Cond} (i : Nat) (h : tables_1_1[i]? = some w) (g : goodWord w = true) : w ∈ GT := gt_mem (List.mem_append_right _ (have h := List.mem_of_getElem? h; (List.mem_append_left _ h))) g
theorem gt_2 {w : Cond} (i : Nat) (h : tables_1_2[i]? = some w) (g : goodWord w = true) : w ∈ GT := gt_mem (List.mem_append_right _ (have h := List.mem_of_getElem? h; (List.mem_append_right _ (List.mem_append_left _ h)))) g
theorem gt_3 {w : Cond} (i : Nat) (h : tables_1_3[i]? = some w) (g : goodWord w = true) : w ∈ GT := gt_mem (List.mem_append_right _ (have h := List.mem_of_getElem? h; (List.mem_append_right _ (List.mem_append_right _ (List.mem_append_left _ h))))) g
theorem gt_4 {w : Cond} (i : Nat) (h : tables_1_4[i]? = some w) (g : goodWord w = true) : w ∈ GT := gt_mem (List.mem_append_right _ (have h := List.mem_of_getElem? h; (List.mem_append_right _ (List.mem_append_right _ (List.mem_append_right _ (List.mem_append_left _ h)))))) g
theorem gt_5 {w : Cond} (i : Nat) (h : tables_1_5[i]? = some w) (g : goodWord w = true) : w ∈ GT := gt_mem (List.mem_append_right _ (have h := List.mem_of_getElem? h; (List.mem_append_right _ (List.mem_append_right _ (List.mem_append_right _ (List.mem_append_right _ (List.mem_append_left _ h))))))) g
theorem gt_6 {w : Cond} (i : Nat) (h : tables_1_6[i]? = some w) (g : goodWord w = true) : w ∈ GT := gt_mem (List.mem_append_right _ (have h := List.mem_of_getElem? h; (List.mem_append_right _ (List.mem_append_right _ (List.mem_append_right _ (List.mem_append_right _ (List.mem_append_right _ (List.mem_append_left _ h)))))))) g
theorem gt_7 {w : Cond} (i : Nat) (h : tables_1_7[i]? = some w) (g : goodWord w = true) : w ∈ GT := gt_mem (List.mem_append_right _ (have h := List.mem_of_getElem? h; (List.mem_append_right _ (List.mem_append_right _ (List.mem_append_right _ (List.mem_append_right _ (List.mem_append_right _ (List.mem_append_right _ h)))))))) g
theorem gt_0 {w : Cond} (i : Nat) (h : (k2_sels lw_privs)[i]? = some w) (g : goodWord w = true) : w ∈ GT := gt_mem (List.mem_append_left _ (List.mem_of_getElem? h)) g
theorem gt_good {w : Cond} (h : w ∈ GT) : goodWord w = true := (List.mem_filter.mp h).2
theorem gt_ws {ws : List Cond} (h : ws.all (fun w => goodWord w && lw_tbl.contains w) = true) : ∀ w ∈ ws, w ∈ GT := fun w hw => by
  have h1 := List.all_eq_true.mp h w hw
  rw [Bool.and_eq_true] at h1
  exact gt_mem (List.contains_iff_mem.mp h1.2) h1.1
theorem kW0 : ∀ w ∈ u_ws "RingingChamber$Lead" kT0 3, w ∈ GT := gt_ws (by decide +kernel)
theorem kW1 : ∀ w ∈ u_ws "RingingChamber$Little" kT1 6, w ∈ GT := gt_ws (by decide +kernel)
theorem kW2 : ∀ w ∈ u_ws "RingingChamber$Plain" kT2 6, w ∈ GT := gt_ws (by decide +kernel)
theorem kW3 : ∀ w ∈ u_ws "RingingChamber$Principle" kT3 6, w ∈ GT := gt_ws (by decide +kernel)
theorem kW4 : ∀ w ∈ u_ws "RingingChamber$Rows" kT4 4, w ∈ GT := gt_ws (by decide +kernel)
theorem kW5 : ∀ w ∈ u_ws "RingingChamber$Search" kT5 20, w ∈ GT := gt_ws (by decide +kernel)
theorem kW6 : ∀ w ∈ u_ws "RingingChamber$Spliced" kT6 8, w ∈ GT := gt_ws (by decide +kernel)
theorem kW7 : ∀ w ∈ u_ws "RingingChamber$Surprise" kT7 6, w ∈ GT := gt_ws (by decide +kernel)
theorem kW8 : ∀ w ∈ u_ws "RingingChamber$Tape" kT8 8, w ∈ GT := gt_ws (by decide +kernel)
theorem kW9 : ∀ w ∈ u_ws "RingingChamber$Touch" kT9 16, w ∈ GT := gt_ws (by decide +kernel)
theorem kW10 : ∀ w ∈ u_ws "RingingChamber$Treble" kT10 6, w ∈ GT := gt_ws (by decide +kernel)
theorem kW11 : ∀ w ∈ u_ws "RingingChamber" kT11 11, w ∈ GT := gt_ws (by decide +kernel)
theorem kW12 : ∀ w ∈ u_ws "RingingChamberModel" kT12 59, w ∈ GT := gt_ws (by decide +kernel)
theorem k_cases {P : Nat → vw_C → Prop} (h0 : P 0 ("RingingChamber$Lead", kT0, 3)) (h1 : P 1 ("RingingChamber$Little", kT1, 6)) (h2 : P 2 ("RingingChamber$Plain", kT2, 6)) (h3 : P 3 ("RingingChamber$Principle", kT3, 6)) (h4 : P 4 ("RingingChamber$Rows", kT4, 4)) (h5 : P 5 ("RingingChamber$Search", kT5, 20)) (h6 : P 6 ("RingingChamber$Spliced", kT6, 8)) (h7 : P 7 ("RingingChamber$Surprise", kT7, 6)) (h8 : P 8 ("RingingChamber$Tape", kT8, 8)) (h9 : P 9 ("RingingChamber$Touch", kT9, 16)) (h10 : P 10 ("RingingChamber$Treble", kT10, 6)) (h11 : P 11 ("RingingChamber", kT11, 11)) (h12 : P 12 ("RingingChamberModel", kT12, 59)) : ∀ (t : Nat) (r : vw_C), kCL[t]? = some r → P t r := by
  intro t r h
  match t, h with
  | 0, h => cases h; exact h0
  | 1, h => cases h; exact h1
  | 2, h => cases h; exact h2
  | 3, h => cases h; exact h3
  | 4, h => cases h; exact h4
  | 5, h => cases h; exact h5
  | 6, h => cases h; exact h6
  | 7, h => cases h; exact h7
  | 8, h => cases h; exact h8
  | 9, h => cases h; exact h9
  | 10, h => cases h; exact h10
  | 11, h => cases h; exact h11
  | 12, h => cases h; exact h12
  | n + 13, h => simp [kCL] at h
theorem k_in : ∀ (t : Nat) (r : vw_C), kCL[t]? = some r → ∀ w ∈ u_ws r.1 r.2.1 r.2.2, w ∈ GT := k_cases kW0 kW1 kW2 kW3 kW4 kW5 kW6 kW7 kW8 kW9 kW10 kW11 kW12
theorem k_ty : ∀ (t : Nat) (r : vw_C), kCL[t]? = some r → ∀ k, k < r.2.2 → parseFieldDescriptor (r.2.1 k).2.2.1 = some (kTY t k) := k_cases (by decide +kernel) (by decide +kernel) (by decide +kernel) (by decide +kernel) (by decide +kernel) (by decide +kernel) (by decide +kernel) (by decide +kernel) (by decide +kernel) (by decide +kernel) (by decide +kernel) (by decide +kernel) (by decide +kernel)
theorem k_nm : ∀ (t : Nat) (r : vw_C), kCL[t]? = some r → ∀ a, a < r.2.2 → ∀ b, b < r.2.2 → a ≠ b → (r.2.1 a).2.1 ≠ (r.2.1 b).2.1 := k_cases (by decide +kernel) (by decide +kernel) (by decide +kernel) (by decide +kernel) (by decide +kernel) (by decide +kernel) (by decide +kernel) (by decide +kernel) (by decide +kernel) (by decide +kernel) (by decide +kernel) (by decide +kernel) (by decide +kernel)
theorem k_n : ∀ (t : Nat) (r : vw_C), kCL[t]? = some r → r.2.2 = nfl t := k_cases (by decide +kernel) (by decide +kernel) (by decide +kernel) (by decide +kernel) (by decide +kernel) (by decide +kernel) (by decide +kernel) (by decide +kernel) (by decide +kernel) (by decide +kernel) (by decide +kernel) (by decide +kernel) (by decide +kernel)
theorem k_lt : ∀ (t : Nat) (r : vw_C), kCL[t]? = some r → t < 13 := k_cases (by decide) (by decide) (by decide) (by decide) (by decide) (by decide) (by decide) (by decide) (by decide) (by decide) (by decide) (by decide) (by decide)
theorem k_inst : ∀ (t : Nat) (r : vw_C), kCL[t]? = some r → Cond.instantiable r.1 r.2.2 ∈ GT ∧ Cond.initialized r.1 ∈ GT := k_cases ⟨gt_mem (List.contains_iff_mem.mp (by decide +kernel)) (by decide +kernel), gt_mem (List.contains_iff_mem.mp (by decide +kernel)) (by decide +kernel)⟩ ⟨gt_mem (List.contains_iff_mem.mp (by decide +kernel)) (by decide +kernel), gt_mem (List.contains_iff_mem.mp (by decide +kernel)) (by decide +kernel)⟩ ⟨gt_mem (List.contains_iff_mem.mp (by decide +kernel)) (by decide +kernel), gt_mem (List.contains_iff_mem.mp (by decide +kernel)) (by decide +kernel)⟩ ⟨gt_mem (List.contains_iff_mem.mp (by decide +kernel)) (by decide +kernel), gt_mem (List.contains_iff_mem.mp (by decide +kernel)) (by decide +kernel)⟩ ⟨gt_mem (List.contains_iff_mem.mp (by decide +kernel)) (by decide +kernel), gt_mem (List.contains_iff_mem.mp (by decide +kernel)) (by decide +kernel)⟩ ⟨gt_mem (List.contains_iff_mem.mp (by decide +kernel)) (by decide +kernel), gt_mem (List.contains_iff_mem.mp (by decide +kernel)) (by decide +kernel)⟩ ⟨gt_mem (List.contains_iff_mem.mp (by decide +kernel)) (by decide +kernel), gt_mem (List.contains_iff_mem.mp (by decide +kernel)) (by decide +kernel)⟩ ⟨gt_mem (List.contains_iff_mem.mp (by decide +kernel)) (by decide +kernel), gt_mem (List.contains_iff_mem.mp (by decide +kernel)) (by decide +kernel)⟩ ⟨gt_mem (List.contains_iff_mem.mp (by decide +kernel)) (by decide +kernel), gt_mem (List.contains_iff_mem.mp (by decide +kernel)) (by decide +kernel)⟩ ⟨gt_mem (List.contains_iff_mem.mp (by decide +kernel)) (by decide +kernel), gt_mem (List.contains_iff_mem.mp (by decide +kernel)) (by decide +kernel)⟩ ⟨gt_mem (List.contains_iff_mem.mp (by decide +kernel)) (by decide +kernel), gt_mem (List.contains_iff_mem.mp (by decide +kernel)) (by decide +kernel)⟩ ⟨gt_mem (List.contains_iff_mem.mp (by decide +kernel)) (by decide +kernel), gt_mem (List.contains_iff_mem.mp (by decide +kernel)) (by decide +kernel)⟩ ⟨gt_mem (List.contains_iff_mem.mp (by decide +kernel)) (by decide +kernel), gt_mem (List.contains_iff_mem.mp (by decide +kernel)) (by decide +kernel)⟩
theorem k_at {t : Nat} (h : t < 13) : ∃ r, kCL[t]? = some r := ⟨kCL[t]'(by simpa [kCL] using h), List.getElem?_eq_getElem _⟩
end
section
/-! A pure heap: kinds (tag, length), how many cells, how many slots, ints, longs, references by address and place -/
abbrev Hp : Type := (Nat → Nat × Nat) × Nat × Nat × (Nat → Nat → Int32) × (Nat → Nat → Int64) × (Nat → Nat → Option Nat)
def hK (h : Hp) : Nat → Nat × Nat := h.1
def hz (h : Hp) : Nat := h.2.1
def hs (h : Hp) : Nat := h.2.2.1
def hI (h : Hp) : Nat → Nat → Int32 := h.2.2.2.1
def hL (h : Hp) : Nat → Nat → Int64 := h.2.2.2.2.1
def hR (h : Hp) : Nat → Nat → Option Nat := h.2.2.2.2.2
def up2 {α : Type} (f : Nat → Nat → α) (a k : Nat) (x : α) : Nat → Nat → α := va_up f a (va_up (f a) k x)
def sI (h : Hp) (a k : Nat) (x : Int32) : Hp := (hK h, hz h, hs h, up2 (hI h) a k x, hL h, hR h)
def sL (h : Hp) (a k : Nat) (x : Int64) : Hp := (hK h, hz h, hs h, hI h, up2 (hL h) a k x, hR h)
def sR (h : Hp) (a k : Nat) (x : Option Nat) : Hp := (hK h, hz h, hs h, hI h, hL h, up2 (hR h) a k x)
def sC (h : Hp) (a : Nat) (f : Nat → Int32) : Hp := (hK h, hz h, hs h, va_up (hI h) a f, hL h, hR h)
def nwO (h : Hp) (t n : Nat) : Hp := (va_up (hK h) (hz h) (t, n), hz h + 1, hs h + n, va_up (hI h) (hz h) (fun _ => 0), va_up (hL h) (hz h) (fun _ => 0), va_up (hR h) (hz h) (fun _ => none))
/-- address a is a cell of one of these kinds -/
def ok (h : Hp) (ts : List Nat) (a : Nat) : Bool := decide (a < hz h) && ts.contains (hK h a).1
theorem ok_lt {h : Hp} {ts : List Nat} {a : Nat} (e : ok h ts a = true) : a < hz h := by simp [ok] at e; exact e.1
theorem ok_tag {h : Hp} {ts : List Nat} {a : Nat} (e : ok h ts a = true) : (hK h a).1 ∈ ts := by simp [ok] at e; exact e.2
/-! the steps of a pure program; each goes on with what it read and the heap behind it -/
def gi {β : Type} (ts : List Nat) (k : Nat) (r : Option Nat) (h : Hp) (f : Int32 → Option β) : Option β := match r with
  | none => none
  | some a => if ok h ts a = true then f (hI h a k) else none
def gl {β : Type} (ts : List Nat) (k : Nat) (r : Option Nat) (h : Hp) (f : Int64 → Option β) : Option β := match r with
  | none => none
  | some a => if ok h ts a = true then f (hL h a k) else none
def gr {β : Type} (ts : List Nat) (k : Nat) (r : Option Nat) (h : Hp) (f : Option Nat → Option β) : Option β := match r with
  | none => none
  | some a => if ok h ts a = true then f (hR h a k) else none
def pi {β : Type} (ts : List Nat) (k : Nat) (r : Option Nat) (x : Int32) (h : Hp) (f : Hp → Option β) : Option β := match r with
  | none => none
  | some a => if ok h ts a = true then f (sI h a k x) else none
def pz {β : Type} (ts : List Nat) (k : Nat) (r : Option Nat) (x : Int32) (h : Hp) (f : Hp → Option β) : Option β := match r with
  | none => none
  | some a => if ok h ts a = true ∧ (x = 0 ∨ x = 1) then f (sI h a k x) else none
def pl {β : Type} (ts : List Nat) (k : Nat) (r : Option Nat) (x : Int64) (h : Hp) (f : Hp → Option β) : Option β := match r with
  | none => none
  | some a => if ok h ts a = true then f (sL h a k x) else none
def pr {β : Type} (ts : List Nat) (k : Nat) (r : Option Nat) (x : Option Nat) (h : Hp) (f : Hp → Option β) : Option β := match r with
  | none => none
  | some a => if ok h ts a = true then f (sR h a k x) else none
def li {β : Type} (t : Nat) (r : Option Nat) (i : Int32) (h : Hp) (f : Int32 → Option β) : Option β := match r with
  | none => none
  | some a => if ok h [t] a = true ∧ ¬ (i < 0 ∨ (hK h a).2 ≤ i.toNatClampNeg) then f (hI h a i.toNatClampNeg) else none
def ll {β : Type} (r : Option Nat) (i : Int32) (h : Hp) (f : Int64 → Option β) : Option β := match r with
  | none => none
  | some a => if ok h [14] a = true ∧ ¬ (i < 0 ∨ (hK h a).2 ≤ i.toNatClampNeg) then f (hL h a i.toNatClampNeg) else none
def lr {β : Type} (t : Nat) (r : Option Nat) (i : Int32) (h : Hp) (f : Option Nat → Option β) : Option β := match r with
  | none => none
  | some a => if ok h [t] a = true ∧ ¬ (i < 0 ∨ (hK h a).2 ≤ i.toNatClampNeg) then f (hR h a i.toNatClampNeg) else none
def si {β : Type} (r : Option Nat) (i : Int32) (x : Int32) (h : Hp) (f : Hp → Option β) : Option β := match r with
  | none => none
  | some a => if ok h [13] a = true ∧ ¬ (i < 0 ∨ (hK h a).2 ≤ i.toNatClampNeg) then f (sI h a i.toNatClampNeg x) else none
def sb {β : Type} (r : Option Nat) (i : Int32) (x : Int32) (h : Hp) (f : Hp → Option β) : Option β := match r with
  | none => none
  | some a => if ok h [15] a = true ∧ ¬ (i < 0 ∨ (hK h a).2 ≤ i.toNatClampNeg) then f (sI h a i.toNatClampNeg (vp_nar .byte x)) else none
def sz {β : Type} (r : Option Nat) (i : Int32) (x : Int32) (h : Hp) (f : Hp → Option β) : Option β := match r with
  | none => none
  | some a => if ok h [16] a = true ∧ ¬ (i < 0 ∨ (hK h a).2 ≤ i.toNatClampNeg) then f (sI h a i.toNatClampNeg (vp_nar .boolean x)) else none
def sl {β : Type} (r : Option Nat) (i : Int32) (x : Int64) (h : Hp) (f : Hp → Option β) : Option β := match r with
  | none => none
  | some a => if ok h [14] a = true ∧ ¬ (i < 0 ∨ (hK h a).2 ≤ i.toNatClampNeg) then f (sL h a i.toNatClampNeg x) else none
/-- a reference goes into an array of kind t; it is null, or of a kind among us -/
def sr {β : Type} (t : Nat) (us : List Nat) (r : Option Nat) (i : Int32) (x : Option Nat) (h : Hp) (f : Hp → Option β) : Option β := match r with
  | none => none
  | some a => if (ok h [t] a = true ∧ ¬ (i < 0 ∨ (hK h a).2 ≤ i.toNatClampNeg)) ∧ (∀ b, x = some b → ok h us b = true) then f (sR h a i.toNatClampNeg x) else none
def al {β : Type} (r : Option Nat) (h : Hp) (f : Int32 → Option β) : Option β := match r with
  | none => none
  | some a => if ok h [13, 14, 15, 16, 17, 18] a = true then f (Int32.ofNat (hK h a).2) else none
def nw {β : Type} (t : Nat) (h : Hp) (f : Option Nat → Hp → Option β) : Option β := f (some (hz h)) (nwO h t (nfl t))
def na {β : Type} (t : Nat) (n : Int32) (h : Hp) (f : Option Nat → Hp → Option β) : Option β := if ¬ n < 0 ∧ n.toNatClampNeg ≤ 1000000 then f (some (hz h)) (nwO h t n.toNatClampNeg) else none
def nz {β : Type} (y : Int32) (f : Option β) : Option β := if y = 0 then none else f
def nm {α β : Type} (x : α) (f : α → Option β) : Option β := f x
def cl {α β : Type} (x : Option (α × Hp)) (f : α → Hp → Option β) : Option β := match x with
  | none => none
  | some q => f q.1 q.2
/-- instanceof a class whose objects have kind t, of a reference of kind among us -/
def io {β : Type} (t : Nat) (us : List Nat) (r : Option Nat) (h : Hp) (f : Int32 → Option β) : Option β := match r with
  | none => f 0
  | some a => if ok h us a = true then f (if (hK h a).1 = t then 1 else 0) else none
/-- a cast to that class -/
def kc {β : Type} (t : Nat) (r : Option Nat) (h : Hp) (f : Option β) : Option β := match r with
  | none => f
  | some a => if ok h [t] a = true then f else none
/-- copying of ints from one array to another -/
def ac {β : Type} (r : Option Nat) (sp : Int32) (q : Option Nat) (dp n : Int32) (h : Hp) (f : Hp → Option β) : Option β := match r, q with
  | some a, some b => if (ok h [13] a = true ∧ ok h [13] b = true) ∧ (¬ sp < 0 ∧ ¬ dp < 0 ∧ ¬ n < 0) ∧ sp.toNatClampNeg + n.toNatClampNeg ≤ (hK h a).2 ∧ dp.toNatClampNeg + n.toNatClampNeg ≤ (hK h b).2 then f (sC h b (va_cpy (hI h a) (hI h b) sp.toNatClampNeg dp.toNatClampNeg n.toNatClampNeg)) else none
  | _, _ => none
/-! the pure heap as the machine's -/
def rv (B : Nat) (r : Option Nat) : Value := va_rf (r.map (fun a => B + a))
def fvl (B : Nat) (h : Hp) (a t k : Nat) : Value := if t = 0 then .int (hI h a k) else if t = 1 then .long (hL h a k) else rv B (hR h a k)
def flds (B : Nat) (h : Hp) (a t : Nat) : List Value := (List.range (nfl t)).map (fun k => fvl B h a (fty t k) k)
def cel (B : Nat) (dA : Nat → ClassId) (h : Hp) (a : Nat) : va_E :=
  if (hK h a).1 < 13 then .inr ((hK h a).1, flds B h a (hK h a).1)
  else if (hK h a).1 = 13 then .inl (dA 0, (hK h a).2, .inl (hI h a))
  else if (hK h a).1 = 14 then .inl (dA 1, (hK h a).2, .inr (.inl (hL h a)))
  else if (hK h a).1 = 15 then .inl (dA 2, (hK h a).2, .inl (hI h a))
  else if (hK h a).1 = 16 then .inl (dA 3, (hK h a).2, .inl (hI h a))
  else if (hK h a).1 = 17 then .inl (dA 4, (hK h a).2, .inr (.inr (.inr (.inr (fun j => (hR h a j).map (fun a => B + a))))))
  else .inl (dA 5, (hK h a).2, .inr (.inr (.inr (.inr (fun j => (hR h a j).map (fun a => B + a))))))
def wl (B : Nat) (dA : Nat → ClassId) (h : Hp) : va_W := (List.range (hz h)).map (fun a => (B + a, cel B dA h a))
def tyl (dA : Nat → ClassId) : List (ClassId × FieldType) := [(dA 0, .int), (dA 1, .long), (dA 2, .byte), (dA 3, .boolean), (dA 4, .object "RingingChamber$Lead"), (dA 5, .object "RingingChamber$Method")]
def Wd (D : va_G) (B : Nat) (dA : Nat → ClassId) (h : Hp) (H : Heap) : Prop := va_P D kCL (wl B dA h) H ∧ H.size = B + hz h
theorem wl_at {B : Nat} {dA : Nat → ClassId} {h : Hp} {a : Nat} (ha : a < hz h) : (wl B dA h)[a]? = some (B + a, cel B dA h a) := by
  simp [wl, ha]
theorem wl_len {B : Nat} {dA : Nat → ClassId} {h : Hp} : (wl B dA h).length = hz h := by simp [wl]
theorem wl_D (B : Nat) (dA : Nat → ClassId) (h : Hp) : va_D (fun q => B ≤ q) (wl B dA h) := by
  constructor
  · intro i j p q hi hj e
    have h1 : i < hz h := by rw [← wl_len (B := B) (dA := dA) (h := h)]; exact (List.getElem?_eq_some_iff.mp hi).1
    have h2 : j < hz h := by rw [← wl_len (B := B) (dA := dA) (h := h)]; exact (List.getElem?_eq_some_iff.mp hj).1
    rw [wl_at h1] at hi
    rw [wl_at h2] at hj
    cases hi; cases hj
    dsimp only at e
    omega
  · intro k q hk
    have h1 : k < hz h := by rw [← wl_len (B := B) (dA := dA) (h := h)]; exact (List.getElem?_eq_some_iff.mp hk).1
    rw [wl_at h1] at hk
    cases hk
    exact Nat.le_add_right B k
theorem wl_ext {B : Nat} {dA : Nat → ClassId} {h h1 : Hp} (hz1 : hz h1 = hz h) {b : Nat} {e : va_E} (he : cel B dA h1 b = e) (ho : ∀ a, a ≠ b → cel B dA h1 a = cel B dA h a) : (wl B dA h).set b (B + b, e) = wl B dA h1 := by
  apply List.ext_getElem?
  intro a
  by_cases ha : a < hz h
  · rw [wl_at (h := h1) (by rw [hz1]; exact ha)]
    by_cases hb : b = a
    · subst hb
      rw [List.getElem?_set_self (by rw [wl_len]; exact ha), he]
    · rw [List.getElem?_set_ne hb, wl_at ha, ho a (fun q => hb q.symm)]
  · rw [List.getElem?_eq_none (by rw [List.length_set, wl_len]; omega), List.getElem?_eq_none (by rw [wl_len, hz1]; omega)]
theorem cel_congr {B : Nat} {dA : Nat → ClassId} {h h1 : Hp} {a : Nat} (e0 : hK h1 a = hK h a) (e1 : hI h1 a = hI h a) (e2 : hL h1 a = hL h a) (e3 : hR h1 a = hR h a) : cel B dA h1 a = cel B dA h a := by
  unfold cel flds fvl
  rw [e0, e1, e2, e3]
theorem up2_ne {α : Type} {f : Nat → Nat → α} {a k b : Nat} {x : α} (e : b ≠ a) : up2 f a k x b = f b := by simp [up2, va_up, e]
theorem up2_self {α : Type} {f : Nat → Nat → α} {a k : Nat} {x : α} : up2 f a k x a = va_up (f a) k x := by simp [up2, va_up]
theorem sI_o {B : Nat} {dA : Nat → ClassId} {h : Hp} {a k b : Nat} {x : Int32} (e : b ≠ a) : cel B dA (sI h a k x) b = cel B dA h b := cel_congr rfl (up2_ne e) rfl rfl
theorem sL_o {B : Nat} {dA : Nat → ClassId} {h : Hp} {a k b : Nat} {x : Int64} (e : b ≠ a) : cel B dA (sL h a k x) b = cel B dA h b := cel_congr rfl rfl (up2_ne e) rfl
theorem sR_o {B : Nat} {dA : Nat → ClassId} {h : Hp} {a k b : Nat} {x : Option Nat} (e : b ≠ a) : cel B dA (sR h a k x) b = cel B dA h b := cel_congr rfl rfl rfl (up2_ne e)
theorem sC_o {B : Nat} {dA : Nat → ClassId} {h : Hp} {a b : Nat} {f : Nat → Int32} (e : b ≠ a) : cel B dA (sC h a f) b = cel B dA h b := cel_congr rfl (by simp [hI, sC, va_up, e]) rfl rfl
theorem flds_at {B : Nat} {h : Hp} {a t k : Nat} (hk : k < nfl t) : (flds B h a t)[k]? = some (fvl B h a (fty t k) k) := by simp [flds, hk]
theorem flds_len {B : Nat} {h : Hp} {a t : Nat} : (flds B h a t).length = nfl t := by simp [flds]
theorem flds_set {B : Nat} {h h1 : Hp} {a t k : Nat} {v : Value} (hk : k < nfl t) (hv : fvl B h1 a (fty t k) k = v) (ho : ∀ j, j ≠ k → fvl B h1 a (fty t j) j = fvl B h a (fty t j) j) : (flds B h a t).set k v = flds B h1 a t := by
  apply List.ext_getElem?
  intro j
  by_cases hj : j < nfl t
  · rw [flds_at (h := h1) hj]
    by_cases e : k = j
    · subst e
      rw [List.getElem?_set_self (by rw [flds_len]; exact hk), hv]
    · rw [List.getElem?_set_ne e, flds_at hj, ho j (fun q => e q.symm)]
  · rw [List.getElem?_eq_none (by rw [List.length_set, flds_len]; omega), List.getElem?_eq_none (by rw [flds_len]; omega)]
theorem cel_obj {B : Nat} {dA : Nat → ClassId} {h : Hp} {a t : Nat} (e : (hK h a).1 = t) (ht : t < 13) : cel B dA h a = .inr (t, flds B h a t) := by subst e; simp [cel, ht]
theorem cel_13 {B : Nat} {dA : Nat → ClassId} {h : Hp} {a : Nat} (e : (hK h a).1 = 13) : cel B dA h a = .inl (dA 0, (hK h a).2, .inl (hI h a)) := by simp [cel, e]
theorem cel_14 {B : Nat} {dA : Nat → ClassId} {h : Hp} {a : Nat} (e : (hK h a).1 = 14) : cel B dA h a = .inl (dA 1, (hK h a).2, .inr (.inl (hL h a))) := by simp [cel, e]
theorem cel_15 {B : Nat} {dA : Nat → ClassId} {h : Hp} {a : Nat} (e : (hK h a).1 = 15) : cel B dA h a = .inl (dA 2, (hK h a).2, .inl (hI h a)) := by simp [cel, e]
theorem cel_16 {B : Nat} {dA : Nat → ClassId} {h : Hp} {a : Nat} (e : (hK h a).1 = 16) : cel B dA h a = .inl (dA 3, (hK h a).2, .inl (hI h a)) := by simp [cel, e]
theorem cel_17 {B : Nat} {dA : Nat → ClassId} {h : Hp} {a : Nat} (e : (hK h a).1 = 17) : cel B dA h a = .inl (dA 4, (hK h a).2, .inr (.inr (.inr (.inr (fun j => (hR h a j).map (fun a => B + a)))))) := by simp [cel, e]
theorem cel_18 {B : Nat} {dA : Nat → ClassId} {h : Hp} {a : Nat} (e : (hK h a).1 = 18) : cel B dA h a = .inl (dA 5, (hK h a).2, .inr (.inr (.inr (.inr (fun j => (hR h a j).map (fun a => B + a)))))) := by simp [cel, e]
def rz (x : Int32) (h : Hp) : Option (Int32 × Hp) := if x = 0 ∨ x = 1 then some (x, h) else none
/-- the receiver's kind is looked at -/
def ck {β : Type} (ts : List Nat) (r : Option Nat) (h : Hp) (f : Option β) : Option β := match r with
  | none => none
  | some a => if ok h ts a = true then f else none
def dl {β : Type} : List (Nat × Option β) → Nat → Option β
  | [], _ => none
  | q :: r, k => if k = q.1 then q.2 else dl r k
/-- which program it is, by the receiver's kind -/
def ds {β : Type} (cs : List (Nat × Option β)) (r : Option Nat) (h : Hp) : Option β := match r with
  | none => none
  | some a => if a < hz h then dl cs (hK h a).1 else none
def kn {β : Type} (r : Option Nat) (f : Option β) : Option β := match r with
  | none => none
  | some _ => f
def sw {β : Type} (x : Int32) : List (Int32 × Option β) → Option β → Option β
  | [], d => d
  | q :: r, d => if x = q.1 then q.2 else sw x r d
def jmax (x y : Int32) : Int32 := if x < y then y else x
def jmin (x y : Int32) : Int32 := if y < x then y else x
/-- reading the law's script -/
def sld {β : Type} (xs : Nat → Int32) (L : Nat) (i : Int32) (f : Int32 → Option β) : Option β := if ¬ (i < 0 ∨ L ≤ i.toNatClampNeg) then f (xs i.toNatClampNeg) else none
end
section
def Lead_init (N : Nat) (l0 : Option Nat) (h : Hp) : Option (Unit × Hp) :=
  kn l0 <|
  na 13 100 h fun x1 h2 =>
  pr [0] 0 l0 x1 h2 fun h3 =>
  pi [0] 2 l0 1 h3 fun h4 =>
  some ((), h4)
def Lead_add (N : Nat) (l0 : Option Nat) (l1 : Int32) (h : Hp) : Option (Unit × Hp) :=
  gi [0] 1 l0 h fun x1 =>
  if 100 ≤ x1 then (some ((), h)) else (gr [0] 0 l0 h fun x2 =>
  gi [0] 1 l0 h fun x3 =>
  si x2 x3 l1 h fun h4 =>
  gi [0] 1 l0 h4 fun x5 =>
  pi [0] 1 l0 (x5 + (1 : Int32)) h4 fun h6 =>
  some ((), h6))
def Rows_changed_53 (N : Nat) (re8 : Int64 → Int32 → Int32 → Hp → Option (Int64 × Hp)) (l3 : Int64) (l5 : Int32) (l6 : Int32) (h : Hp) : Option (Int64 × Hp) :=
  nm (l5 + 4) fun x1 =>
  nm (l6 >>> ((1 : Int32) &&& 31)) fun x2 =>
  re8 l3 x1 x2 h
def Rows_changed_8 (N : Nat) : Nat → Int64 → Int32 → Int32 → Hp → Option (Int64 × Hp)
  | 0, _, _, _, _ => none
  | n + 1, l3, l5, l6, h =>
  if l6 ≤ 0 then (some (l3, h)) else (if (l6 &&& (1 : Int32)) = 0 then (Rows_changed_53 N (Rows_changed_8 N n) l3 l5 l6 h) else (nm (((UInt64.toInt64 (Int64.toUInt64 l3 >>> (Int64.toUInt64 (Int32.toInt64 l5) &&& Int64.toUInt64 63))) ^^^ (UInt64.toInt64 (Int64.toUInt64 l3 >>> (Int64.toUInt64 (Int32.toInt64 (l5 + (4 : Int32))) &&& Int64.toUInt64 63)))) &&& (15 : Int64)) fun x1 =>
  nm (l3 ^^^ ((x1 <<< (Int32.toInt64 l5 &&& 63)) ||| (x1 <<< (Int32.toInt64 (l5 + (4 : Int32)) &&& 63)))) fun x2 =>
  Rows_changed_53 N (Rows_changed_8 N n) x2 l5 l6 h))
def Rows_changed (N : Nat) (l0 : Int64) (l2 : Int32) (h : Hp) : Option (Int64 × Hp) :=
  Rows_changed_8 N N l0 0 l2 h
def Lead_rungFrom_5 (N : Nat) : Nat → Option Nat → Int64 → Int32 → Hp → Option (Int64 × Hp)
  | 0, _, _, _, _ => none
  | n + 1, l0, l3, l5, h =>
  gi [0] 1 l0 h fun x1 =>
  if x1 ≤ l5 then (some (l3, h)) else (gr [0] 0 l0 h fun x2 =>
  li 13 x2 l5 h fun x3 =>
  cl (Rows_changed N l3 x3 h) fun x5 h4 =>
  nm (l5 + 1) fun x6 =>
  Lead_rungFrom_5 N n l0 x5 x6 h4)
def Lead_rungFrom (N : Nat) (l0 : Option Nat) (l1 : Int64) (h : Hp) : Option (Int64 × Hp) :=
  Lead_rungFrom_5 N N l0 l1 0 h
def Meth_init (N : Nat) (l0 : Option Nat) (l1 : Int32) (l2 : Option Nat) (h : Hp) : Option (Unit × Hp) :=
  kn l0 <|
  nw 0 h fun x1 h2 =>
  cl (ck [0] x1 h2 (Lead_init N x1 h2)) fun _ h3 =>
  pr [1, 2, 3, 6, 7, 10] 2 l0 x1 h3 fun h4 =>
  na 13 3 h4 fun x5 h6 =>
  si x5 0 (-1) h6 fun h7 =>
  si x5 1 (-1) h7 fun h8 =>
  si x5 2 (-1) h8 fun h9 =>
  pr [1, 2, 3, 6, 7, 10] 3 l0 x5 h9 fun h10 =>
  na 13 3 h10 fun x11 h12 =>
  pr [1, 2, 3, 6, 7, 10] 4 l0 x11 h12 fun h13 =>
  pi [1, 2, 3, 6, 7, 10] 0 l0 l1 h13 fun h14 =>
  pr [1, 2, 3, 6, 7, 10] 1 l0 l2 h14 fun h15 =>
  some ((), h15)
def Plain_init (N : Nat) (l0 : Option Nat) (l1 : Int32) (l2 : Option Nat) (h : Hp) : Option (Unit × Hp) :=
  cl (ck [1, 2, 7, 10] l0 h (Meth_init N l0 l1 l2 h)) fun _ h1 =>
  some ((), h1)
def Little_init (N : Nat) (l0 : Option Nat) (l1 : Int32) (l2 : Option Nat) (h : Hp) : Option (Unit × Hp) :=
  cl (ck [1] l0 h (Plain_init N l0 l1 l2 h)) fun _ h1 =>
  some ((), h1)
def Plain_leadOf (N : Nat) (l0 : Option Nat) (l1 : Int32) (h : Hp) : Option (Option Nat × Hp) :=
  gr [1, 2, 7, 10] 1 l0 h fun x1 =>
  li 13 x1 0 h fun x2 =>
  si x1 0 (x2 + (1 : Int32)) h fun h3 =>
  gr [1, 2, 7, 10] 2 l0 h3 fun x4 =>
  some (x4, h3)
def Meth_withCall (N : Nat) (l0 : Option Nat) (l1 : Option Nat) (l2 : Int32) (l3 : Int32) (l4 : Option Nat) (h : Hp) : Option (Int32 × Hp) :=
  gi [0] 2 l1 h fun x1 =>
  if x1 = 0 then (pi [0] 2 l4 0 h fun h2 =>
  gi [0] 1 l1 h2 fun x3 =>
  pi [0] 1 l4 x3 h2 fun h4 =>
  gr [0] 0 l1 h4 fun x5 =>
  gr [0] 0 l4 h4 fun x6 =>
  gi [0] 1 l1 h4 fun x7 =>
  ac x5 0 x6 0 x7 h4 fun h8 =>
  if l2 = 0 then (some (0, h8)) else (gr [1, 2, 3, 6, 7, 10] 3 l0 h8 fun x9 =>
  li 13 x9 l2 h8 fun x10 =>
  if 0 ≤ x10 then (if l3 < 0 then (some (2, h8)) else (gi [0] 1 l4 h8 fun x11 =>
  if l3 < x11 then (gr [0] 0 l4 h8 fun x12 =>
  gr [1, 2, 3, 6, 7, 10] 4 l0 h8 fun x13 =>
  li 13 x13 l2 h8 fun x14 =>
  si x12 l3 x14 h8 fun h15 =>
  some (0, h15)) else (some (2, h8)))) else (some (1, h8)))) else (gi [0] 2 l1 h fun x16 =>
  some (x16, h))
def Plain_plainCalled (N : Nat) (l0 : Option Nat) (l1 : Int32) (l2 : Int32) (l3 : Int32) (l4 : Option Nat) (h : Hp) : Option (Int32 × Hp) :=
  gr [1, 2, 7, 10] 1 l0 h fun x1 =>
  li 13 x1 1 h fun x2 =>
  si x1 1 (x2 + (1 : Int32)) h fun h3 =>
  cl (ds [(1, Plain_leadOf N l0 l1 h3), (2, Plain_leadOf N l0 l1 h3), (7, Plain_leadOf N l0 l1 h3), (10, Plain_leadOf N l0 l1 h3)] l0 h3) fun x5 h4 =>
  cl (ds [(1, Meth_withCall N l0 x5 l2 l3 l4 h4), (2, Meth_withCall N l0 x5 l2 l3 l4 h4), (7, Meth_withCall N l0 x5 l2 l3 l4 h4), (10, Meth_withCall N l0 x5 l2 l3 l4 h4)] l0 h4) fun x7 h6 =>
  some (x7, h6)
def Little_calledOf_29 (N : Nat) (l0 : Option Nat) (l1 : Int32) (l3 : Option Nat) (u0 : Int32) (h : Hp) : Option (Int32 × Hp) :=
  gr [1] 3 l0 h fun x1 =>
  li 13 x1 u0 h fun x2 =>
  cl (ds [(1, Plain_plainCalled N l0 l1 u0 x2 l3 h)] l0 h) fun x4 h3 =>
  some (x4, h3)
def Little_calledOf_28 (N : Nat) (l0 : Option Nat) (l1 : Int32) (l2 : Int32) (l3 : Option Nat) (h : Hp) : Option (Int32 × Hp) :=
  Little_calledOf_29 N l0 l1 l3 l2 h
def Little_calledOf (N : Nat) (l0 : Option Nat) (l1 : Int32) (l2 : Int32) (l3 : Option Nat) (h : Hp) : Option (Int32 × Hp) :=
  gr [1] 1 l0 h fun x1 =>
  li 13 x1 4 h fun x2 =>
  si x1 4 (x2 + (1 : Int32)) h fun h3 =>
  if l2 = 2 then (gr [1] 3 l0 h3 fun x4 =>
  li 13 x4 2 h3 fun x5 =>
  if 0 ≤ x5 then (Little_calledOf_28 N l0 l1 l2 l3 h3) else (Little_calledOf_29 N l0 l1 l3 1 h3)) else (Little_calledOf_28 N l0 l1 l2 l3 h3)
def Meth_placeBehind (N : Nat) (l0 : Int32) (l1 : Int32) (h : Hp) : Option (Int32 × Hp) :=
  if ((l1 >>> ((l0 - (1 : Int32)) &&& 31)) &&& (1 : Int32)) = 0 then (if l0 ≤ 1 then (some (l0, h)) else (if ((l1 >>> ((l0 - (2 : Int32)) &&& 31)) &&& (1 : Int32)) = 0 then (some (l0, h)) else (some ((l0 - (1 : Int32)), h)))) else (some ((l0 + (1 : Int32)), h))
def Meth_trebleBehind_4 (N : Nat) : Nat → Option Nat → Int32 → Int32 → Hp → Option (Int32 × Hp)
  | 0, _, _, _, _ => none
  | n + 1, l1, l2, l3, h =>
  gi [0] 1 l1 h fun x1 =>
  if x1 ≤ l3 then (some (l2, h)) else (gr [0] 0 l1 h fun x2 =>
  li 13 x2 l3 h fun x3 =>
  cl (Meth_placeBehind N l2 x3 h) fun x5 h4 =>
  nm (l3 + 1) fun x6 =>
  Meth_trebleBehind_4 N n l1 x5 x6 h4)
def Meth_trebleBehind (N : Nat) (l0 : Option Nat) (l1 : Option Nat) (h : Hp) : Option (Int32 × Hp) :=
  Meth_trebleBehind_4 N N l1 1 0 h
def Plain_judged (N : Nat) (l0 : Option Nat) (h : Hp) : Option (Int32 × Hp) :=
  gr [1, 2, 7, 10] 1 l0 h fun x1 =>
  li 13 x1 2 h fun x2 =>
  si x1 2 (x2 + (1 : Int32)) h fun h3 =>
  cl (ds [(1, Plain_leadOf N l0 0 h3), (2, Plain_leadOf N l0 0 h3), (7, Plain_leadOf N l0 0 h3), (10, Plain_leadOf N l0 0 h3)] l0 h3) fun x5 h4 =>
  gi [0] 2 x5 h4 fun x6 =>
  if x6 = 0 then (cl (ds [(1, Meth_trebleBehind N l0 x5 h4), (2, Meth_trebleBehind N l0 x5 h4), (7, Meth_trebleBehind N l0 x5 h4), (10, Meth_trebleBehind N l0 x5 h4)] l0 h4) fun x8 h7 =>
  if x8 = 1 then (some (1, h7)) else (some (0, h7))) else (gi [0] 2 x5 h4 fun x9 =>
  some ((-x9), h4))
def Little_trebleKeepsOffLastPlace_4 (N : Nat) : Nat → Option Nat → Option Nat → Int32 → Int32 → Hp → Option (Int32 × Hp)
  | 0, _, _, _, _, _ => none
  | n + 1, l0, l1, l2, l3, h =>
  gi [0] 1 l1 h fun x1 =>
  if x1 ≤ l3 then (rz 1 h) else (gr [0] 0 l1 h fun x2 =>
  li 13 x2 l3 h fun x3 =>
  cl (Meth_placeBehind N l2 x3 h) fun x5 h4 =>
  gi [1] 0 l0 h4 fun x6 =>
  if x5 = x6 then (rz 0 h4) else (nm (l3 + 1) fun x7 =>
  Little_trebleKeepsOffLastPlace_4 N n l0 l1 x5 x7 h4))
def Little_trebleKeepsOffLastPlace (N : Nat) (l0 : Option Nat) (l1 : Option Nat) (h : Hp) : Option (Int32 × Hp) :=
  Little_trebleKeepsOffLastPlace_4 N N l0 l1 1 0 h
def Little_judged (N : Nat) (l0 : Option Nat) (h : Hp) : Option (Int32 × Hp) :=
  gr [1] 1 l0 h fun x1 =>
  li 13 x1 5 h fun x2 =>
  si x1 5 (x2 + (1 : Int32)) h fun h3 =>
  cl (ck [1] l0 h3 (Plain_judged N l0 h3)) fun x5 h4 =>
  if 0 ≤ x5 then (cl (ds [(1, Plain_leadOf N l0 0 h4)] l0 h4) fun x7 h6 =>
  cl (ds [(1, Little_trebleKeepsOffLastPlace N l0 x7 h6)] l0 h6) fun x9 h8 =>
  if x5 = 1 then (if x9 = 0 then (some (0, h8)) else (some (1, h8))) else (some (0, h8))) else (some (x5, h4))
def Plain_calledOf (N : Nat) (l0 : Option Nat) (l1 : Int32) (l2 : Int32) (l3 : Option Nat) (h : Hp) : Option (Int32 × Hp) :=
  gr [1, 2, 7, 10] 3 l0 h fun x1 =>
  li 13 x1 l2 h fun x2 =>
  cl (ds [(1, Plain_plainCalled N l0 l1 l2 x2 l3 h), (2, Plain_plainCalled N l0 l1 l2 x2 l3 h), (7, Plain_plainCalled N l0 l1 l2 x2 l3 h), (10, Plain_plainCalled N l0 l1 l2 x2 l3 h)] l0 h) fun x4 h3 =>
  some (x4, h3)
def Principle_init (N : Nat) (l0 : Option Nat) (l1 : Int32) (l2 : Option Nat) (h : Hp) : Option (Unit × Hp) :=
  cl (ck [3] l0 h (Meth_init N l0 l1 l2 h)) fun _ h1 =>
  some ((), h1)
def Principle_leadOf (N : Nat) (l0 : Option Nat) (l1 : Int32) (h : Hp) : Option (Option Nat × Hp) :=
  gr [3] 1 l0 h fun x1 =>
  li 13 x1 12 h fun x2 =>
  si x1 12 (x2 + (1 : Int32)) h fun h3 =>
  gr [3] 2 l0 h3 fun x4 =>
  some (x4, h3)
def Principle_calledOf (N : Nat) (l0 : Option Nat) (l1 : Int32) (l2 : Int32) (l3 : Option Nat) (h : Hp) : Option (Int32 × Hp) :=
  gr [3] 1 l0 h fun x1 =>
  li 13 x1 13 h fun x2 =>
  si x1 13 (x2 + (1 : Int32)) h fun h3 =>
  cl (ds [(3, Principle_leadOf N l0 l1 h3)] l0 h3) fun x5 h4 =>
  gi [0] 1 x5 h4 fun x6 =>
  gr [3] 3 l0 h4 fun x7 =>
  li 13 x7 l2 h4 fun x8 =>
  cl (ds [(3, Meth_withCall N l0 x5 l2 ((x6 - (1 : Int32)) - x8) l3 h4)] l0 h4) fun x10 h9 =>
  some (x10, h9)
def Principle_judged (N : Nat) (l0 : Option Nat) (h : Hp) : Option (Int32 × Hp) :=
  gr [3] 1 l0 h fun x1 =>
  li 13 x1 14 h fun x2 =>
  si x1 14 (x2 + (1 : Int32)) h fun h3 =>
  cl (ds [(3, Principle_leadOf N l0 0 h3)] l0 h3) fun x5 h4 =>
  gi [0] 2 x5 h4 fun x6 =>
  if x6 = 0 then (cl (ds [(3, Meth_trebleBehind N l0 x5 h4)] l0 h4) fun x8 h7 =>
  if x8 = 1 then (some (0, h7)) else (some (1, h7))) else (gi [0] 2 x5 h4 fun x9 =>
  some ((-x9), h4))
def Rows_init (N : Nat) (l0 : Option Nat) (l1 : Int32) (h : Hp) : Option (Unit × Hp) :=
  kn l0 <|
  na 13 512 h fun x1 h2 =>
  pr [4] 2 l0 x1 h2 fun h3 =>
  na 14 (jmax l1 (0 : Int32)) h3 fun x4 h5 =>
  pr [4] 0 l0 x4 h5 fun h6 =>
  na 13 (jmax l1 (0 : Int32)) h6 fun x7 h8 =>
  pr [4] 1 l0 x7 h8 fun h9 =>
  some ((), h9)
def Rows_slotOf (N : Nat) (l0 : Int64) (h : Hp) : Option (Int32 × Hp) :=
  some ((Int64.toInt32 (UInt64.toInt64 (Int64.toUInt64 (l0 * (-7046029254386353131 : Int64)) >>> (Int64.toUInt64 (Int32.toInt64 (55 : Int32)) &&& Int64.toUInt64 63)))), h)
def Rows_add (N : Nat) (l0 : Option Nat) (l1 : Int64) (h : Hp) : Option (Unit × Hp) :=
  gi [4] 3 l0 h fun x1 =>
  gr [4] 0 l0 h fun x2 =>
  al x2 h fun x3 =>
  if x1 < x3 then (cl (Rows_slotOf N l1 h) fun x5 h4 =>
  gr [4] 0 l0 h4 fun x6 =>
  gi [4] 3 l0 h4 fun x7 =>
  sl x6 x7 l1 h4 fun h8 =>
  gr [4] 1 l0 h8 fun x9 =>
  gi [4] 3 l0 h8 fun x10 =>
  gr [4] 2 l0 h8 fun x11 =>
  li 13 x11 x5 h8 fun x12 =>
  si x9 x10 x12 h8 fun h13 =>
  gi [4] 3 l0 h13 fun x14 =>
  pi [4] 3 l0 (x14 + (1 : Int32)) h13 fun h15 =>
  gr [4] 2 l0 h15 fun x16 =>
  gi [4] 3 l0 h15 fun x17 =>
  si x16 x5 x17 h15 fun h18 =>
  some ((), h18)) else (some ((), h))
def Rows_keepFirst_0 (N : Nat) : Nat → Option Nat → Int32 → Hp → Option (Unit × Hp)
  | 0, _, _, _ => none
  | n + 1, l0, l1, h =>
  gi [4] 3 l0 h fun x1 =>
  if x1 ≤ l1 then (some ((), h)) else (gi [4] 3 l0 h fun x2 =>
  if x2 ≤ 0 then (some ((), h)) else (gi [4] 3 l0 h fun x3 =>
  pi [4] 3 l0 (x3 - (1 : Int32)) h fun h4 =>
  gr [4] 2 l0 h4 fun x5 =>
  gr [4] 0 l0 h4 fun x6 =>
  gi [4] 3 l0 h4 fun x7 =>
  ll x6 x7 h4 fun x8 =>
  cl (Rows_slotOf N x8 h4) fun x10 h9 =>
  gr [4] 1 l0 h9 fun x11 =>
  gi [4] 3 l0 h9 fun x12 =>
  li 13 x11 x12 h9 fun x13 =>
  si x5 x10 x13 h9 fun h14 =>
  Rows_keepFirst_0 N n l0 l1 h14))
def Rows_keepFirst (N : Nat) (l0 : Option Nat) (l1 : Int32) (h : Hp) : Option (Unit × Hp) :=
  Rows_keepFirst_0 N N l0 l1 h
def Rows_indexOf_13 (N : Nat) : Nat → Option Nat → Int64 → Int32 → Int32 → Hp → Option (Int32 × Hp)
  | 0, _, _, _, _, _ => none
  | n + 1, l0, l1, l3, l4, h =>
  gi [4] 3 l0 h fun x1 =>
  if x1 ≤ l4 then (some ((-1), h)) else (if l3 ≤ 0 then (some ((-1), h)) else (gr [4] 0 l0 h fun x2 =>
  ll x2 (l3 - (1 : Int32)) h fun x3 =>
  if (lg_cmp x3 l1) = 0 then (some ((l3 - (1 : Int32)), h)) else (gr [4] 1 l0 h fun x4 =>
  li 13 x4 (l3 - (1 : Int32)) h fun x5 =>
  nm (l4 + 1) fun x6 =>
  Rows_indexOf_13 N n l0 l1 x5 x6 h)))
def Rows_indexOf (N : Nat) (l0 : Option Nat) (l1 : Int64) (h : Hp) : Option (Int32 × Hp) :=
  gr [4] 2 l0 h fun x1 =>
  cl (Rows_slotOf N l1 h) fun x3 h2 =>
  li 13 x1 x3 h2 fun x4 =>
  Rows_indexOf_13 N N l0 l1 x4 0 h2
def Rows_codeAt_12 (N : Nat)  (h : Hp) : Option (Int64 × Hp) :=
  some (0, h)
def Rows_codeAt (N : Nat) (l0 : Option Nat) (l1 : Int32) (h : Hp) : Option (Int64 × Hp) :=
  if l1 < 0 then (Rows_codeAt_12 N  h) else (gi [4] 3 l0 h fun x1 =>
  if l1 < x1 then (gr [4] 0 l0 h fun x2 =>
  ll x2 l1 h fun x3 =>
  some (x3, h)) else (Rows_codeAt_12 N  h))
def Rows_digit (N : Nat) (l0 : Int64) (l2 : Int32) (h : Hp) : Option (Int32 × Hp) :=
  some (((Int64.toInt32 (UInt64.toInt64 (Int64.toUInt64 l0 >>> (Int64.toUInt64 (Int32.toInt64 ((4 : Int32) * l2)) &&& Int64.toUInt64 63)))) &&& (15 : Int32)), h)
def Rows_toldDigits_32 (N : Nat) (re5 : Int64 → Int64 → Int32 → Hp → Option (Int64 × Hp)) (l0 : Int64) (l2 : Int64) (l4 : Int32) (h : Hp) : Option (Int64 × Hp) :=
  nm (l4 + 1) fun x1 =>
  re5 l0 l2 x1 h
def Rows_toldDigits_5 (N : Nat) : Nat → Int64 → Int64 → Int32 → Hp → Option (Int64 × Hp)
  | 0, _, _, _, _ => none
  | n + 1, l0, l2, l4, h =>
  if 12 ≤ l4 then (some (l2, h)) else (cl (Rows_digit N l0 l4 h) fun x2 h1 =>
  if x2 = 0 then (Rows_toldDigits_32 N (Rows_toldDigits_5 N n) l0 l2 l4 h1) else (nm (l2 ||| ((15 : Int64) <<< (Int32.toInt64 ((4 : Int32) * l4) &&& 63))) fun x3 =>
  Rows_toldDigits_32 N (Rows_toldDigits_5 N n) l0 x3 l4 h1))
def Rows_toldDigits (N : Nat) (l0 : Int64) (h : Hp) : Option (Int64 × Hp) :=
  Rows_toldDigits_5 N N l0 0 0 h
def Rows_countFitting_37 (N : Nat) (re11 : Option Nat → Int64 → Int64 → Int32 → Int32 → Hp → Option (Int32 × Hp)) (l0 : Option Nat) (l1 : Int64) (l3 : Int64) (l5 : Int32) (l6 : Int32) (h : Hp) : Option (Int32 × Hp) :=
  nm (l6 + 1) fun x1 =>
  re11 l0 l1 l3 l5 x1 h
def Rows_countFitting_11 (N : Nat) : Nat → Option Nat → Int64 → Int64 → Int32 → Int32 → Hp → Option (Int32 × Hp)
  | 0, _, _, _, _, _, _ => none
  | n + 1, l0, l1, l3, l5, l6, h =>
  gi [4] 3 l0 h fun x1 =>
  if x1 ≤ l6 then (some (l5, h)) else (gr [4] 0 l0 h fun x2 =>
  ll x2 l6 h fun x3 =>
  if (lg_cmp (x3 &&& l3) l1) = 0 then (nm (l5 + 1) fun x4 =>
  Rows_countFitting_37 N (Rows_countFitting_11 N n) l0 l1 l3 x4 l6 h) else (Rows_countFitting_37 N (Rows_countFitting_11 N n) l0 l1 l3 l5 l6 h))
def Rows_countFitting (N : Nat) (l0 : Option Nat) (l1 : Int64) (h : Hp) : Option (Int32 × Hp) :=
  cl (Rows_toldDigits N l1 h) fun x2 h1 =>
  Rows_countFitting_11 N N l0 l1 x2 0 1 h1
def Rows_rounds (N : Nat) (l0 : Int32) (h : Hp) : Option (Int64 × Hp) :=
  some (((223928981472033 : Int64) &&& (((1 : Int64) <<< (Int32.toInt64 ((4 : Int32) * l0) &&& 63)) - (1 : Int64))), h)
def Rows_isPattern_20 (N : Nat) : Nat → Int64 → Int32 → Int32 → Hp → Option (Int32 × Hp)
  | 0, _, _, _, _ => none
  | n + 1, l0, l2, l3, h =>
  if l2 ≤ l3 then (rz 1 h) else (cl (Rows_digit N l0 l3 h) fun x2 h1 =>
  if x2 ≤ l2 then (nm (l3 + 1) fun x3 =>
  Rows_isPattern_20 N n l0 l2 x3 h1) else (rz 0 h1))
def Rows_isPattern (N : Nat) (l0 : Int64) (l2 : Int32) (h : Hp) : Option (Int32 × Hp) :=
  if (lg_cmp l0 (0 : Int64)) < 0 then (rz 0 h) else (if (lg_cmp (UInt64.toInt64 (Int64.toUInt64 l0 >>> (Int64.toUInt64 (Int32.toInt64 ((4 : Int32) * l2)) &&& Int64.toUInt64 63))) (0 : Int64)) = 0 then (Rows_isPattern_20 N N l0 l2 0 h) else (rz 0 h))
def Rows_isRow_15 (N : Nat) : Nat → Int64 → Int32 → Int32 → Int32 → Hp → Option (Int32 × Hp)
  | 0, _, _, _, _, _ => none
  | n + 1, l0, l2, l3, l4, h =>
  if l2 ≤ l4 then (if l3 = (((1 : Int32) <<< ((l2 + (1 : Int32)) &&& 31)) - (2 : Int32)) then (rz 1 h) else (rz 0 h)) else (cl (Rows_digit N l0 l4 h) fun x2 h1 =>
  nm (l3 ||| ((1 : Int32) <<< (x2 &&& 31))) fun x3 =>
  nm (l4 + 1) fun x4 =>
  Rows_isRow_15 N n l0 l2 x3 x4 h1)
def Rows_isRow (N : Nat) (l0 : Int64) (l2 : Int32) (h : Hp) : Option (Int32 × Hp) :=
  cl (Rows_isPattern N l0 l2 h) fun x2 h1 =>
  if x2 = 0 then (rz 0 h1) else (Rows_isRow_15 N N l0 l2 0 0 h1)
def Rows_isChange (N : Nat) (l0 : Int32) (l1 : Int32) (h : Hp) : Option (Int32 × Hp) :=
  if l0 < 0 then (rz 0 h) else (if ((1 : Int32) <<< ((l1 - (1 : Int32)) &&& 31)) ≤ l0 then (rz 0 h) else (if (l0 &&& (l0 >>> ((1 : Int32) &&& 31))) = 0 then (rz 1 h) else (rz 0 h)))
def Jk_bitCount (N : Nat) (l0 : Int32) (h : Hp) : Option (Int32 × Hp) :=
  nm (l0 - ((UInt32.toInt32 (Int32.toUInt32 l0 >>> (Int32.toUInt32 (1 : Int32) &&& Int32.toUInt32 31))) &&& (1431655765 : Int32))) fun x1 =>
  nm ((x1 &&& (858993459 : Int32)) + ((UInt32.toInt32 (Int32.toUInt32 x1 >>> (Int32.toUInt32 (2 : Int32) &&& Int32.toUInt32 31))) &&& (858993459 : Int32))) fun x2 =>
  nm ((x2 + (UInt32.toInt32 (Int32.toUInt32 x2 >>> (Int32.toUInt32 (4 : Int32) &&& Int32.toUInt32 31)))) &&& (252645135 : Int32)) fun x3 =>
  nm (x3 + (UInt32.toInt32 (Int32.toUInt32 x3 >>> (Int32.toUInt32 (8 : Int32) &&& Int32.toUInt32 31)))) fun x4 =>
  nm (x4 + (UInt32.toInt32 (Int32.toUInt32 x4 >>> (Int32.toUInt32 (16 : Int32) &&& Int32.toUInt32 31)))) fun x5 =>
  some ((x5 &&& (63 : Int32)), h)
def Rows_numberOf_14 (N : Nat) : Nat → Int64 → Int32 → Int32 → Int32 → Int32 → Hp → Option (Int32 × Hp)
  | 0, _, _, _, _, _, _ => none
  | n + 1, l0, l2, l3, l4, l5, h =>
  if l2 ≤ l5 then (some (l3, h)) else (cl (Rows_digit N l0 l5 h) fun x2 h1 =>
  nm ((1 : Int32) <<< (x2 &&& 31)) fun x3 =>
  nm (l4 &&& (x3 ^^^ (-1 : Int32))) fun x4 =>
  cl (Jk_bitCount N (x4 &&& (x3 - (1 : Int32))) h1) fun x6 h5 =>
  nm ((l3 * (l2 - l5)) + x6) fun x7 =>
  nm (l5 + 1) fun x8 =>
  Rows_numberOf_14 N n l0 l2 x7 x4 x8 h5)
def Rows_numberOf (N : Nat) (l0 : Int64) (l2 : Int32) (h : Hp) : Option (Int32 × Hp) :=
  nm (((1 : Int32) <<< ((l2 + (1 : Int32)) &&& 31)) - (2 : Int32)) fun x1 =>
  Rows_numberOf_14 N N l0 l2 0 x1 0 h
def Rows_bellLeft_27 (N : Nat) (re4 : Int32 → Int32 → Int32 → Hp → Option (Int32 × Hp)) (l0 : Int32) (l2 : Int32) (l3 : Int32) (h : Hp) : Option (Int32 × Hp) :=
  nm (l3 + 1) fun x1 =>
  re4 l0 l2 x1 h
def Rows_bellLeft_4 (N : Nat) : Nat → Int32 → Int32 → Int32 → Hp → Option (Int32 × Hp)
  | 0, _, _, _, _ => none
  | n + 1, l0, l2, l3, h =>
  if 12 < l3 then (some (0, h)) else (if ((l0 >>> (l3 &&& 31)) &&& (1 : Int32)) = 0 then (Rows_bellLeft_27 N (Rows_bellLeft_4 N n) l0 l2 l3 h) else (if l2 = 0 then (some (l3, h)) else (nm (l2 + (-1)) fun x1 =>
  Rows_bellLeft_27 N (Rows_bellLeft_4 N n) l0 x1 l3 h)))
def Rows_bellLeft (N : Nat) (l0 : Int32) (l1 : Int32) (h : Hp) : Option (Int32 × Hp) :=
  Rows_bellLeft_4 N N l0 l1 1 h
def Rows_taken_14 (N : Nat) : Nat → Int64 → Int32 → Int64 → Int32 → Int32 → Hp → Option (Int64 × Hp)
  | 0, _, _, _, _, _, _ => none
  | n + 1, l0, l2, l3, l5, l6, h =>
  if l2 ≤ l6 then (some (l3, h)) else (cl (Rows_digit N l0 l6 h) fun x2 h1 =>
  cl (Rows_bellLeft N l5 x2 h1) fun x4 h3 =>
  nm (l3 ||| ((Int32.toInt64 x4) <<< (Int32.toInt64 ((4 : Int32) * l6) &&& 63))) fun x5 =>
  nm (l5 &&& (((1 : Int32) <<< (x4 &&& 31)) ^^^ (-1 : Int32))) fun x6 =>
  nm (l6 + 1) fun x7 =>
  Rows_taken_14 N n l0 l2 x5 x6 x7 h3)
def Rows_taken (N : Nat) (l0 : Int64) (l2 : Int32) (h : Hp) : Option (Int64 × Hp) :=
  nm (((1 : Int32) <<< ((l2 + (1 : Int32)) &&& 31)) - (2 : Int32)) fun x1 =>
  Rows_taken_14 N N l0 l2 0 x1 0 h
def Rows_rowOf_14 (N : Nat) : Nat → Int32 → Int64 → Int32 → Int32 → Hp → Option (Int64 × Hp)
  | 0, _, _, _, _, _ => none
  | n + 1, l1, l2, l4, l5, h =>
  if l1 < l5 then (if l4 = 0 then (cl (Rows_taken N l2 l1 h) fun x2 h1 =>
  some (x2, h1)) else (some (0, h))) else (nz l5 <|
  nm ((l2 <<< (Int32.toInt64 (4 : Int32) &&& 63)) ||| (Int32.toInt64 (l4 - l4 / l5 * l5))) fun x3 =>
  nz l5 <|
  nm (l4 / l5) fun x4 =>
  nm (l5 + 1) fun x5 =>
  Rows_rowOf_14 N n l1 x3 x4 x5 h)
def Rows_rowOf (N : Nat) (l0 : Int32) (l1 : Int32) (h : Hp) : Option (Int64 × Hp) :=
  if 0 ≤ l0 then (Rows_rowOf_14 N N l1 0 l0 1 h) else (some (0, h))
def Rows_times_6 (N : Nat) : Nat → Int64 → Int64 → Int32 → Int64 → Int32 → Hp → Option (Int64 × Hp)
  | 0, _, _, _, _, _, _ => none
  | n + 1, l0, l2, l4, l5, l7, h =>
  if l4 ≤ l7 then (some (l5, h)) else (cl (Rows_digit N l2 l7 h) fun x2 h1 =>
  cl (Rows_digit N l0 (x2 - (1 : Int32)) h1) fun x4 h3 =>
  nm (Int32.toInt64 x4) fun x5 =>
  nm (l5 ||| (x5 <<< (Int32.toInt64 ((4 : Int32) * l7) &&& 63))) fun x6 =>
  nm (l7 + 1) fun x7 =>
  Rows_times_6 N n l0 l2 l4 x6 x7 h3)
def Rows_times (N : Nat) (l0 : Int64) (l2 : Int64) (l4 : Int32) (h : Hp) : Option (Int64 × Hp) :=
  Rows_times_6 N N l0 l2 l4 0 0 h
def Rows_inverseOf_5 (N : Nat) : Nat → Int64 → Int32 → Int64 → Int32 → Hp → Option (Int64 × Hp)
  | 0, _, _, _, _, _ => none
  | n + 1, l0, l2, l3, l5, h =>
  if l2 ≤ l5 then (some (l3, h)) else (cl (Rows_digit N l0 l5 h) fun x2 h1 =>
  nm (l3 ||| (((Int32.toInt64 l5) + (1 : Int64)) <<< (Int32.toInt64 ((4 : Int32) * (x2 - (1 : Int32))) &&& 63))) fun x3 =>
  nm (l5 + 1) fun x4 =>
  Rows_inverseOf_5 N n l0 l2 x3 x4 h1)
def Rows_inverseOf (N : Nat) (l0 : Int64) (l2 : Int32) (h : Hp) : Option (Int64 × Hp) :=
  Rows_inverseOf_5 N N l0 l2 0 0 h
def Rows_orderOf_11 (N : Nat) : Nat → Int64 → Int32 → Int64 → Int64 → Int32 → Hp → Option (Int32 × Hp)
  | 0, _, _, _, _, _, _ => none
  | n + 1, l0, l2, l3, l5, l7, h =>
  if (lg_cmp l5 l3) = 0 then (some (l7, h)) else (if 60 ≤ l7 then (some (l7, h)) else (cl (Rows_times N l5 l0 l2 h) fun x2 h1 =>
  nm (l7 + 1) fun x3 =>
  Rows_orderOf_11 N n l0 l2 l3 x2 x3 h1))
def Rows_orderOf (N : Nat) (l0 : Int64) (l2 : Int32) (h : Hp) : Option (Int32 × Hp) :=
  cl (Rows_rounds N l2 h) fun x2 h1 =>
  Rows_orderOf_11 N N l0 l2 x2 l0 1 h1
def Rows_closedUp_54 (N : Nat) (re8 : Int64 → Int32 → Int64 → Int32 → Int32 → Hp → Option (Int64 × Hp)) (l0 : Int64) (l2 : Int32) (l3 : Int64) (l5 : Int32) (l6 : Int32) (h : Hp) : Option (Int64 × Hp) :=
  nm (l6 + 1) fun x1 =>
  re8 l0 l2 l3 l5 x1 h
def Rows_closedUp_8 (N : Nat) : Nat → Int64 → Int32 → Int64 → Int32 → Int32 → Hp → Option (Int64 × Hp)
  | 0, _, _, _, _, _, _ => none
  | n + 1, l0, l2, l3, l5, l6, h =>
  if 12 ≤ l6 then (some (l3, h)) else (cl (Rows_digit N l0 l6 h) fun x2 h1 =>
  nm (Int32.toInt64 x2) fun x3 =>
  if (lg_cmp x3 (0 : Int64)) ≤ 0 then (Rows_closedUp_54 N (Rows_closedUp_8 N n) l0 l2 l3 l5 l6 h1) else (if ((l2 >>> (((Int64.toInt32 x3) - (1 : Int32)) &&& 31)) &&& (1 : Int32)) = 0 then (Rows_closedUp_54 N (Rows_closedUp_8 N n) l0 l2 l3 l5 l6 h1) else (nm (l3 ||| (x3 <<< (Int32.toInt64 l5 &&& 63))) fun x4 =>
  nm (l5 + 4) fun x5 =>
  Rows_closedUp_54 N (Rows_closedUp_8 N n) l0 l2 x4 x5 l6 h1)))
def Rows_closedUp (N : Nat) (l0 : Int64) (l2 : Int32) (h : Hp) : Option (Int64 × Hp) :=
  Rows_closedUp_8 N N l0 l2 0 0 0 h
def Search_init (N : Nat) (l0 : Option Nat) (h : Hp) : Option (Unit × Hp) :=
  kn l0 <|
  na 13 90 h fun x1 h2 =>
  pr [5] 0 l0 x1 h2 fun h3 =>
  na 18 90 h3 fun x4 h5 =>
  pr [5] 1 l0 x4 h5 fun h6 =>
  na 17 1080 h6 fun x7 h8 =>
  pr [5] 8 l0 x7 h8 fun h9 =>
  na 13 1080 h9 fun x10 h11 =>
  pr [5] 9 l0 x10 h11 fun h12 =>
  nw 4 h12 fun x13 h14 =>
  cl (ck [4] x13 h14 (Rows_init N x13 1201 h14)) fun _ h15 =>
  pr [5] 10 l0 x13 h15 fun h16 =>
  na 13 1201 h16 fun x17 h18 =>
  pr [5] 11 l0 x17 h18 fun h19 =>
  na 13 12 h19 fun x20 h21 =>
  pr [5] 12 l0 x20 h21 fun h22 =>
  na 13 12 h22 fun x23 h24 =>
  pr [5] 13 l0 x23 h24 fun h25 =>
  pi [5] 17 l0 (-1) h25 fun h26 =>
  some ((), h26)
def Search_forget (N : Nat) (l0 : Option Nat) (h : Hp) : Option (Unit × Hp) :=
  pi [5] 17 l0 (-1) h fun h1 =>
  pi [5] 18 l0 0 h1 fun h2 =>
  some ((), h2)
def Jk_fill_5 (N : Nat) : Nat → Option Nat → Int32 → Int32 → Int32 → Hp → Option (Unit × Hp)
  | 0, _, _, _, _, _ => none
  | n + 1, l0, l1, l2, l3, h =>
  if l3 ≤ l2 then (some ((), h)) else (si l0 l2 l1 h fun h1 =>
  nm (l2 + 1) fun x2 =>
  Jk_fill_5 N n l0 l1 x2 l3 h1)
def Jk_fill (N : Nat) (l0 : Option Nat) (l1 : Int32) (h : Hp) : Option (Unit × Hp) :=
  al l0 h fun x1 =>
  Jk_fill_5 N N l0 l1 0 x1 h
def Search_openPlace (N : Nat) (l0 : Option Nat) (h : Hp) : Option (Unit × Hp) :=
  gr [5] 12 l0 h fun x1 =>
  gi [5] 14 l0 h fun x2 =>
  si x1 x2 (-1) h fun h3 =>
  gr [5] 13 l0 h3 fun x4 =>
  gi [5] 14 l0 h3 fun x5 =>
  gr [5] 10 l0 h3 fun x6 =>
  gi [4] 3 x6 h3 fun x7 =>
  si x4 x5 x7 h3 fun h8 =>
  pr [5] 15 l0 (none : Option Nat) h8 fun h9 =>
  some ((), h9)
def Search_begin (N : Nat) (l0 : Option Nat) (l1 : Int32) (l2 : Int32) (l3 : Int32) (l4 : Int64) (h : Hp) : Option (Unit × Hp) :=
  pi [5] 3 l0 l2 h fun h1 =>
  pi [5] 4 l0 l3 h1 fun h2 =>
  pl [5] 5 l0 l4 h2 fun h3 =>
  cl (Rows_toldDigits N l4 h3) fun x5 h4 =>
  pl [5] 6 l0 x5 h4 fun h6 =>
  cl (Rows_rounds N l1 h6) fun x8 h7 =>
  pl [5] 7 l0 x8 h7 fun h9 =>
  pi [5] 2 l0 0 h9 fun h10 =>
  gr [5] 9 l0 h10 fun x11 =>
  cl (Jk_fill N x11 0 h10) fun _ h12 =>
  gr [5] 10 l0 h12 fun x13 =>
  cl (ds [(4, Rows_keepFirst N x13 0 h12)] x13 h12) fun _ h14 =>
  gr [5] 10 l0 h14 fun x15 =>
  gl [5] 7 l0 h14 fun x16 =>
  cl (ds [(4, Rows_add N x15 x16 h14)] x15 h14) fun _ h17 =>
  pi [5] 14 l0 0 h17 fun h18 =>
  cl (ds [(5, Search_openPlace N l0 h18)] l0 h18) fun _ h19 =>
  pi [5] 17 l0 2 h19 fun h20 =>
  pi [5] 18 l0 0 h20 fun h21 =>
  pz [5] 19 l0 0 h21 fun h22 =>
  some ((), h22)
def Search_offer (N : Nat) (l0 : Option Nat) (l1 : Option Nat) (l2 : Int32) (h : Hp) : Option (Unit × Hp) :=
  gi [5] 2 l0 h fun x1 =>
  if 90 ≤ x1 then (some ((), h)) else (gr [5] 0 l0 h fun x2 =>
  gi [5] 2 l0 h fun x3 =>
  si x2 x3 l2 h fun h4 =>
  gr [5] 1 l0 h4 fun x5 =>
  gi [5] 2 l0 h4 fun x6 =>
  sr 18 [1, 2, 3, 6, 7, 10] x5 x6 l1 h4 fun h7 =>
  gi [5] 2 l0 h7 fun x8 =>
  pi [5] 2 l0 (x8 + (1 : Int32)) h7 fun h9 =>
  some ((), h9))
def Search_isThere (N : Nat) (l0 : Option Nat) (h : Hp) : Option (Int32 × Hp) :=
  gi [5] 17 l0 h fun x1 =>
  if x1 = (-1) then (rz 0 h) else (rz 1 h)
def Search_itemFound_20 (N : Nat)  (h : Hp) : Option (Int32 × Hp) :=
  some ((-1), h)
def Search_itemFound (N : Nat) (l0 : Option Nat) (l1 : Int32) (h : Hp) : Option (Int32 × Hp) :=
  gi [5] 17 l0 h fun x1 =>
  if x1 = 1 then (if l1 < 0 then (Search_itemFound_20 N  h) else (gi [5] 3 l0 h fun x2 =>
  if l1 < x2 then (gr [5] 0 l0 h fun x3 =>
  gr [5] 12 l0 h fun x4 =>
  li 13 x4 l1 h fun x5 =>
  li 13 x3 x5 h fun x6 =>
  some (x6, h)) else (Search_itemFound_20 N  h))) else (Search_itemFound_20 N  h)
def Search_leaveItem (N : Nat) (l0 : Option Nat) (h : Hp) : Option (Unit × Hp) :=
  gr [5] 10 l0 h fun x1 =>
  gr [5] 13 l0 h fun x2 =>
  gi [5] 14 l0 h fun x3 =>
  li 13 x2 x3 h fun x4 =>
  cl (ds [(4, Rows_keepFirst N x1 x4 h)] x1 h) fun _ h5 =>
  pr [5] 15 l0 (none : Option Nat) h5 fun h6 =>
  some ((), h6)
def Search_ringRow_171 (N : Nat) (l0 : Option Nat) (h : Hp) : Option (Unit × Hp) :=
  cl (ds [(5, Search_leaveItem N l0 h)] l0 h) fun _ h1 =>
  some ((), h1)
def Search_ringRow_155 (N : Nat) (l0 : Option Nat) (l2 : Int32) (l3 : Int64) (l5 : Int32) (l6 : Int32) (l7 : Int32) (h : Hp) : Option (Unit × Hp) :=
  if l7 = 0 then (gr [5] 10 l0 h fun x1 =>
  cl (ds [(4, Rows_indexOf N x1 l3 h)] x1 h) fun x3 h2 =>
  if x3 < 0 then (gr [5] 11 l0 h2 fun x4 =>
  si x4 l2 l5 h2 fun h5 =>
  gr [5] 10 l0 h5 fun x6 =>
  cl (ds [(4, Rows_add N x6 l3 h5)] x6 h5) fun _ h7 =>
  if l6 = 0 then (some ((), h7)) else (gi [5] 14 l0 h7 fun x8 =>
  pi [5] 14 l0 (x8 + (1 : Int32)) h7 fun h9 =>
  cl (ds [(5, Search_openPlace N l0 h9)] l0 h9) fun _ h10 =>
  some ((), h10))) else (Search_ringRow_171 N l0 h2)) else (Search_ringRow_171 N l0 h)
def Search_ringRow_122 (N : Nat) (l0 : Option Nat) (l2 : Int32) (l3 : Int64) (l5 : Int32) (l6 : Int32) (u0 : Int32) (h : Hp) : Option (Unit × Hp) :=
  if u0 = 0 then (Search_ringRow_155 N l0 l2 l3 l5 l6 u0 h) else (gl [5] 7 l0 h fun x1 =>
  if (lg_cmp l3 x1) = 0 then (gi [5] 4 l0 h fun x2 =>
  if l5 < x2 then (Search_ringRow_155 N l0 l2 l3 l5 l6 u0 h) else (pi [5] 17 l0 1 h fun h3 =>
  some ((), h3))) else (Search_ringRow_155 N l0 l2 l3 l5 l6 u0 h))
def Search_ringRow_121 (N : Nat) (l0 : Option Nat) (l2 : Int32) (l3 : Int64) (l5 : Int32) (l6 : Int32) (h : Hp) : Option (Unit × Hp) :=
  Search_ringRow_122 N l0 l2 l3 l5 l6 0 h
def Search_ringRow_97 (N : Nat) (l0 : Option Nat) (l2 : Int32) (l3 : Int64) (l5 : Int32) (u0 : Int32) (h : Hp) : Option (Unit × Hp) :=
  if u0 = 0 then (Search_ringRow_121 N l0 l2 l3 l5 u0 h) else (gi [5] 14 l0 h fun x1 =>
  gi [5] 3 l0 h fun x2 =>
  if x1 = (x2 - (1 : Int32)) then (Search_ringRow_122 N l0 l2 l3 l5 u0 1 h) else (Search_ringRow_121 N l0 l2 l3 l5 u0 h))
def Search_ringRow_78 (N : Nat) (l0 : Option Nat) (l1 : Option Nat) (l2 : Int32) (l3 : Int64) (u0 : Int32) (u1 : Int32) (h : Hp) : Option (Unit × Hp) :=
  nm (u0 + u1) fun x1 =>
  gi [5] 16 l0 h fun x2 =>
  gi [0] 1 l1 h fun x3 =>
  if x2 < x3 then (Search_ringRow_97 N l0 l2 l3 x1 0 h) else (Search_ringRow_97 N l0 l2 l3 x1 1 h)
def Search_ringRow (N : Nat) (l0 : Option Nat) (l1 : Option Nat) (h : Hp) : Option (Unit × Hp) :=
  gr [5] 10 l0 h fun x1 =>
  gi [4] 3 x1 h fun x2 =>
  gr [5] 10 l0 h fun x3 =>
  cl (ds [(4, Rows_codeAt N x3 (x2 - (1 : Int32)) h)] x3 h) fun x5 h4 =>
  gr [0] 0 l1 h4 fun x6 =>
  gi [5] 16 l0 h4 fun x7 =>
  li 13 x6 x7 h4 fun x8 =>
  cl (Rows_changed N x5 x8 h4) fun x10 h9 =>
  gi [5] 16 l0 h9 fun x11 =>
  pi [5] 16 l0 (x11 + (1 : Int32)) h9 fun h12 =>
  gi [5] 18 l0 h12 fun x13 =>
  pi [5] 18 l0 (x13 + (1 : Int32)) h12 fun h14 =>
  gr [5] 11 l0 h14 fun x15 =>
  li 13 x15 (x2 - (1 : Int32)) h14 fun x16 =>
  gl [5] 6 l0 h14 fun x17 =>
  gl [5] 5 l0 h14 fun x18 =>
  if (lg_cmp (x10 &&& x17) x18) = 0 then (Search_ringRow_78 N l0 l1 x2 x10 x16 1 h14) else (Search_ringRow_78 N l0 l1 x2 x10 x16 0 h14)
def Search_takesNextChoice (N : Nat) (l0 : Option Nat) (h : Hp) : Option (Int32 × Hp) :=
  gr [5] 12 l0 h fun x1 =>
  gi [5] 14 l0 h fun x2 =>
  li 13 x1 x2 h fun x3 =>
  si x1 x2 (x3 + (1 : Int32)) h fun h4 =>
  gr [5] 12 l0 h4 fun x5 =>
  gi [5] 14 l0 h4 fun x6 =>
  li 13 x5 x6 h4 fun x7 =>
  gi [5] 2 l0 h4 fun x8 =>
  if x8 ≤ x7 then (gi [5] 14 l0 h4 fun x9 =>
  if x9 ≤ 0 then (pi [5] 17 l0 0 h4 fun h10 =>
  rz 0 h10) else (gi [5] 14 l0 h4 fun x11 =>
  pi [5] 14 l0 (x11 - (1 : Int32)) h4 fun h12 =>
  cl (ds [(5, Search_leaveItem N l0 h12)] l0 h12) fun _ h13 =>
  rz 0 h13)) else (rz 1 h4)
def Spliced_partOf (N : Nat) (l0 : Option Nat) (l1 : Int32) (h : Hp) : Option (Option Nat × Hp) :=
  gi [6] 7 l0 h fun x1 =>
  if x1 = 0 then (some ((none : Option Nat), h)) else (gr [6] 6 l0 h fun x2 =>
  gi [6] 7 l0 h fun x3 =>
  nz x3 <|
  lr 18 x2 (l1 - l1 / x3 * x3) h fun x4 =>
  some (x4, h))
def Surprise_calledOf_71 (N : Nat) (l0 : Option Nat) (l1 : Int32) (l2 : Int32) (l3 : Option Nat) (l4 : Int32) (h : Hp) : Option (Int32 × Hp) :=
  cl (ds [(7, Plain_plainCalled N l0 l1 l2 l4 l3 h)] l0 h) fun x2 h1 =>
  some (x2, h1)
def Surprise_calledOf (N : Nat) (l0 : Option Nat) (l1 : Int32) (l2 : Int32) (l3 : Option Nat) (h : Hp) : Option (Int32 × Hp) :=
  gr [7] 1 l0 h fun x1 =>
  li 13 x1 10 h fun x2 =>
  si x1 10 (x2 + (1 : Int32)) h fun h3 =>
  gr [7] 3 l0 h3 fun x4 =>
  li 13 x4 l2 h3 fun x5 =>
  if l2 = 0 then (Surprise_calledOf_71 N l0 l1 l2 l3 x5 h3) else (cl (ds [(7, Plain_leadOf N l0 l1 h3)] l0 h3) fun x7 h6 =>
  gi [0] 2 x7 h6 fun x8 =>
  if x8 = 0 then (gi [0] 1 x7 h6 fun x9 =>
  if x5 < x9 then (Surprise_calledOf_71 N l0 l1 l2 l3 x5 h6) else (gi [0] 1 x7 h6 fun x10 =>
  if x10 ≤ 0 then (Surprise_calledOf_71 N l0 l1 l2 l3 x5 h6) else (gi [0] 1 x7 h6 fun x11 =>
  nm (x11 - (1 : Int32)) fun x12 =>
  Surprise_calledOf_71 N l0 l1 l2 l3 x12 h6))) else (gi [0] 2 x7 h6 fun x13 =>
  some (x13, h6)))
def Spliced_calledOf (N : Nat) (l0 : Option Nat) (l1 : Int32) (l2 : Int32) (l3 : Option Nat) (h : Hp) : Option (Int32 × Hp) :=
  gr [6] 1 l0 h fun x1 =>
  li 13 x1 16 h fun x2 =>
  si x1 16 (x2 + (1 : Int32)) h fun h3 =>
  cl (ds [(6, Spliced_partOf N l0 l1 h3)] l0 h3) fun x5 h4 =>
  if x5 = none then (some (7, h4)) else (cl (ds [(1, Little_calledOf N x5 l1 l2 l3 h4), (2, Plain_calledOf N x5 l1 l2 l3 h4), (3, Principle_calledOf N x5 l1 l2 l3 h4), (7, Surprise_calledOf N x5 l1 l2 l3 h4), (10, Plain_calledOf N x5 l1 l2 l3 h4)] x5 h4) fun x7 h6 =>
  some (x7, h6))
def Search_lookAtItem_109 (N : Nat) (l0 : Option Nat) (u0 : Option Nat) (u1 : Option Nat) (h : Hp) : Option (Unit × Hp) :=
  pr [5] 15 u0 u1 h fun h1 =>
  pi [5] 16 l0 0 h1 fun h2 =>
  some ((), h2)
def Search_lookAtItem_92 (N : Nat) (l0 : Option Nat) (l3 : Int32) (l4 : Option Nat) (h : Hp) : Option (Unit × Hp) :=
  gr [5] 9 l0 h fun x1 =>
  li 13 x1 l3 h fun x2 =>
  if x2 = 1 then (Search_lookAtItem_109 N l0 l0 l4 h) else (Search_lookAtItem_109 N l0 l0 (none : Option Nat) h)
def Search_lookAtItem_91 (N : Nat) (l0 : Option Nat) (l3 : Int32) (l4 : Option Nat) (u0 : Option Nat) (u1 : Int32) (u2 : Int32) (h : Hp) : Option (Unit × Hp) :=
  si u0 u1 u2 h fun h1 =>
  Search_lookAtItem_92 N l0 l3 l4 h1
def Search_lookAtItem_90 (N : Nat) (l0 : Option Nat) (l3 : Int32) (l4 : Option Nat) (u0 : Option Nat) (u1 : Int32) (h : Hp) : Option (Unit × Hp) :=
  Search_lookAtItem_91 N l0 l3 l4 u0 u1 2 h
def Search_lookAtItem_40 (N : Nat) (l0 : Option Nat) (l1 : Int32) (l2 : Option Nat) (l3 : Int32) (l4 : Option Nat) (h : Hp) : Option (Unit × Hp) :=
  gr [5] 9 l0 h fun x1 =>
  li 13 x1 l3 h fun x2 =>
  if x2 = 0 then (if l2 = none then (Search_lookAtItem_92 N l0 l3 l4 h) else (gi [5] 14 l0 h fun x3 =>
  nz 3 <|
  cl (ds [(1, Little_calledOf N l2 x3 (l1 - l1 / 3 * 3) l4 h), (2, Plain_calledOf N l2 x3 (l1 - l1 / 3 * 3) l4 h), (3, Principle_calledOf N l2 x3 (l1 - l1 / 3 * 3) l4 h), (6, Spliced_calledOf N l2 x3 (l1 - l1 / 3 * 3) l4 h), (7, Surprise_calledOf N l2 x3 (l1 - l1 / 3 * 3) l4 h), (10, Plain_calledOf N l2 x3 (l1 - l1 / 3 * 3) l4 h)] l2 h) fun x5 h4 =>
  gr [5] 9 l0 h4 fun x6 =>
  if x5 = 0 then (gi [0] 1 l4 h4 fun x7 =>
  if x7 ≤ 0 then (Search_lookAtItem_90 N l0 l3 l4 x6 l3 h4) else (Search_lookAtItem_91 N l0 l3 l4 x6 l3 1 h4)) else (Search_lookAtItem_90 N l0 l3 l4 x6 l3 h4))) else (Search_lookAtItem_92 N l0 l3 l4 h)
def Search_lookAtItem (N : Nat) (l0 : Option Nat) (l1 : Int32) (l2 : Option Nat) (h : Hp) : Option (Unit × Hp) :=
  gi [5] 14 l0 h fun x1 =>
  nm ((x1 * (90 : Int32)) + l1) fun x2 =>
  gr [5] 8 l0 h fun x3 =>
  lr 17 x3 x2 h fun x4 =>
  if x4 = none then (nw 0 h fun x5 h6 =>
  cl (ck [0] x5 h6 (Lead_init N x5 h6)) fun _ h7 =>
  gr [5] 8 l0 h7 fun x8 =>
  sr 17 [0] x8 x2 x5 h7 fun h9 =>
  Search_lookAtItem_40 N l0 l1 l2 x2 x5 h9) else (Search_lookAtItem_40 N l0 l1 l2 x2 x4 h)
def Search_seek_92 (N : Nat) (re4 : Option Nat → Int32 → Int32 → Hp → Option (Int32 × Hp)) (l0 : Option Nat) (l2 : Int32) (l3 : Int32) (h : Hp) : Option (Int32 × Hp) :=
  nm (l3 + 1) fun x1 =>
  re4 l0 l2 x1 h
def Search_seek_32 (N : Nat) (re4 : Option Nat → Int32 → Int32 → Hp → Option (Int32 × Hp)) (l0 : Option Nat) (l2 : Int32) (l3 : Int32) (h : Hp) : Option (Int32 × Hp) :=
  gr [5] 15 l0 h fun x1 =>
  if x1 = none then (cl (ds [(5, Search_takesNextChoice N l0 h)] l0 h) fun x3 h2 =>
  if x3 = 0 then (Search_seek_92 N re4 l0 l2 l3 h2) else (gr [5] 0 l0 h2 fun x4 =>
  gr [5] 12 l0 h2 fun x5 =>
  gi [5] 14 l0 h2 fun x6 =>
  li 13 x5 x6 h2 fun x7 =>
  li 13 x4 x7 h2 fun x8 =>
  gr [5] 1 l0 h2 fun x9 =>
  gr [5] 12 l0 h2 fun x10 =>
  gi [5] 14 l0 h2 fun x11 =>
  li 13 x10 x11 h2 fun x12 =>
  lr 18 x9 x12 h2 fun x13 =>
  cl (ds [(5, Search_lookAtItem N l0 x8 x13 h2)] l0 h2) fun _ h14 =>
  Search_seek_92 N re4 l0 l2 l3 h14)) else (nm (l2 + (-1)) fun x15 =>
  gr [5] 15 l0 h fun x16 =>
  cl (ds [(5, Search_ringRow N l0 x16 h)] l0 h) fun _ h17 =>
  Search_seek_92 N re4 l0 x15 l3 h17)
def Search_seek_98 (N : Nat) (l0 : Option Nat) (h : Hp) : Option (Int32 × Hp) :=
  gi [5] 17 l0 h fun x1 =>
  some (x1, h)
def Search_seek_4 (N : Nat) : Nat → Option Nat → Int32 → Int32 → Hp → Option (Int32 × Hp)
  | 0, _, _, _, _ => none
  | n + 1, l0, l2, l3, h =>
  if 1000000 ≤ l3 then (Search_seek_98 N l0 h) else (gi [5] 17 l0 h fun x1 =>
  if x1 = 2 then (gr [5] 15 l0 h fun x2 =>
  if x2 = none then (Search_seek_32 N (Search_seek_4 N n) l0 l2 l3 h) else (if l2 = 0 then (Search_seek_98 N l0 h) else (Search_seek_32 N (Search_seek_4 N n) l0 l2 l3 h))) else (Search_seek_98 N l0 h))
def Search_seek (N : Nat) (l0 : Option Nat) (l1 : Int32) (h : Hp) : Option (Int32 × Hp) :=
  Search_seek_4 N N l0 l1 0 h
def Spliced_init (N : Nat) (l0 : Option Nat) (l1 : Int32) (l2 : Option Nat) (h : Hp) : Option (Unit × Hp) :=
  cl (ck [6] l0 h (Meth_init N l0 l1 l2 h)) fun _ h1 =>
  na 18 6 h1 fun x2 h3 =>
  pr [6] 6 l0 x2 h3 fun h4 =>
  gr [6] 2 l0 h4 fun x5 =>
  pi [0] 2 x5 7 h4 fun h6 =>
  some ((), h6)
def Spliced_leadOf (N : Nat) (l0 : Option Nat) (l1 : Int32) (h : Hp) : Option (Option Nat × Hp) :=
  gr [6] 1 l0 h fun x1 =>
  li 13 x1 15 h fun x2 =>
  si x1 15 (x2 + (1 : Int32)) h fun h3 =>
  cl (ds [(6, Spliced_partOf N l0 l1 h3)] l0 h3) fun x5 h4 =>
  if x5 = none then (gr [6] 2 l0 h4 fun x8 =>
  some (x8, h4)) else (cl (ds [(1, Plain_leadOf N x5 l1 h4), (2, Plain_leadOf N x5 l1 h4), (3, Principle_leadOf N x5 l1 h4), (7, Plain_leadOf N x5 l1 h4), (10, Plain_leadOf N x5 l1 h4)] x5 h4) fun x7 h6 =>
  some (x7, h6))
def Treble_trebleIsAsOftenAtEachPlace_75 (N : Nat) (re47 : Option Nat → Option Nat → Int32 → Int32 → Hp → Option (Int32 × Hp)) (l0 : Option Nat) (l2 : Option Nat) (l3 : Int32) (l4 : Int32) (h : Hp) : Option (Int32 × Hp) :=
  nm (l4 + 1) fun x1 =>
  re47 l0 l2 l3 x1 h
def Treble_trebleIsAsOftenAtEachPlace_47 (N : Nat) : Nat → Option Nat → Option Nat → Int32 → Int32 → Hp → Option (Int32 × Hp)
  | 0, _, _, _, _, _ => none
  | n + 1, l0, l2, l3, l4, h =>
  gi [7, 10] 0 l0 h fun x1 =>
  if x1 < l4 then (rz 1 h) else (li 13 l2 l4 h fun x2 =>
  if x2 = 0 then (Treble_trebleIsAsOftenAtEachPlace_75 N (Treble_trebleIsAsOftenAtEachPlace_47 N n) l0 l2 l3 l4 h) else (li 13 l2 l4 h fun x3 =>
  li 13 l2 l3 h fun x4 =>
  if x3 = x4 then (Treble_trebleIsAsOftenAtEachPlace_75 N (Treble_trebleIsAsOftenAtEachPlace_47 N n) l0 l2 l3 l4 h) else (rz 0 h)))
def Treble_trebleIsAsOftenAtEachPlace_10 (N : Nat) : Nat → Option Nat → Option Nat → Option Nat → Int32 → Int32 → Hp → Option (Int32 × Hp)
  | 0, _, _, _, _, _, _ => none
  | n + 1, l0, l1, l2, l3, l4, h =>
  gi [0] 1 l1 h fun x1 =>
  if x1 ≤ l4 then (Treble_trebleIsAsOftenAtEachPlace_47 N N l0 l2 l3 1 h) else (gr [0] 0 l1 h fun x2 =>
  li 13 x2 l4 h fun x3 =>
  cl (Meth_placeBehind N l3 x3 h) fun x5 h4 =>
  li 13 l2 x5 h4 fun x6 =>
  si l2 x5 (x6 + (1 : Int32)) h4 fun h7 =>
  nm (l4 + 1) fun x8 =>
  Treble_trebleIsAsOftenAtEachPlace_10 N n l0 l1 l2 x5 x8 h7)
def Treble_trebleIsAsOftenAtEachPlace (N : Nat) (l0 : Option Nat) (l1 : Option Nat) (h : Hp) : Option (Int32 × Hp) :=
  na 13 13 h fun x1 h2 =>
  Treble_trebleIsAsOftenAtEachPlace_10 N N l0 l1 x1 1 0 h2
def Treble_judged (N : Nat) (l0 : Option Nat) (h : Hp) : Option (Int32 × Hp) :=
  gr [7, 10] 1 l0 h fun x1 =>
  li 13 x1 8 h fun x2 =>
  si x1 8 (x2 + (1 : Int32)) h fun h3 =>
  cl (ck [7, 10] l0 h3 (Plain_judged N l0 h3)) fun x5 h4 =>
  if 0 ≤ x5 then (cl (ds [(7, Plain_leadOf N l0 0 h4), (10, Plain_leadOf N l0 0 h4)] l0 h4) fun x7 h6 =>
  cl (ds [(7, Treble_trebleIsAsOftenAtEachPlace N l0 x7 h6), (10, Treble_trebleIsAsOftenAtEachPlace N l0 x7 h6)] l0 h6) fun x9 h8 =>
  if x5 = 1 then (if x9 = 0 then (some (0, h8)) else (some (1, h8))) else (some (0, h8))) else (some (x5, h4))
def Surprise_hasInnerPlace (N : Nat) (l0 : Option Nat) (l1 : Int32) (h : Hp) : Option (Int32 × Hp) :=
  nm (l1 ||| (l1 <<< ((1 : Int32) &&& 31))) fun x1 =>
  gi [7] 0 l0 h fun x2 =>
  nm (((1 : Int32) <<< ((x2 - (1 : Int32)) &&& 31)) - (2 : Int32)) fun x3 =>
  if (x3 &&& (x1 ^^^ (-1 : Int32))) = 0 then (rz 0 h) else (rz 1 h)
def Surprise_hasPlacesWhereTrebleCrosses_56 (N : Nat) (re4 : Option Nat → Option Nat → Int32 → Int32 → Hp → Option (Int32 × Hp)) (l0 : Option Nat) (l1 : Option Nat) (l3 : Int32) (l4 : Int32) (h : Hp) : Option (Int32 × Hp) :=
  nm (l3 + 1) fun x1 =>
  re4 l0 l1 l4 x1 h
def Surprise_hasPlacesWhereTrebleCrosses_4 (N : Nat) : Nat → Option Nat → Option Nat → Int32 → Int32 → Hp → Option (Int32 × Hp)
  | 0, _, _, _, _, _ => none
  | n + 1, l0, l1, l2, l3, h =>
  gi [0] 1 l1 h fun x1 =>
  if x1 ≤ l3 then (rz 1 h) else (gr [0] 0 l1 h fun x2 =>
  li 13 x2 l3 h fun x3 =>
  cl (Meth_placeBehind N l2 x3 h) fun x5 h4 =>
  if x5 = l2 then (Surprise_hasPlacesWhereTrebleCrosses_56 N (Surprise_hasPlacesWhereTrebleCrosses_4 N n) l0 l1 l3 x5 h4) else (nz 2 <|
  if ((jmin l2 x5) - (jmin l2 x5) / 2 * 2) = 0 then (gr [0] 0 l1 h4 fun x6 =>
  li 13 x6 l3 h4 fun x7 =>
  cl (ds [(7, Surprise_hasInnerPlace N l0 x7 h4)] l0 h4) fun x9 h8 =>
  if x9 = 0 then (rz 0 h8) else (Surprise_hasPlacesWhereTrebleCrosses_56 N (Surprise_hasPlacesWhereTrebleCrosses_4 N n) l0 l1 l3 x5 h8)) else (Surprise_hasPlacesWhereTrebleCrosses_56 N (Surprise_hasPlacesWhereTrebleCrosses_4 N n) l0 l1 l3 x5 h4)))
def Surprise_hasPlacesWhereTrebleCrosses (N : Nat) (l0 : Option Nat) (l1 : Option Nat) (h : Hp) : Option (Int32 × Hp) :=
  Surprise_hasPlacesWhereTrebleCrosses_4 N N l0 l1 1 0 h
def Surprise_judged (N : Nat) (l0 : Option Nat) (h : Hp) : Option (Int32 × Hp) :=
  gr [7] 1 l0 h fun x1 =>
  li 13 x1 11 h fun x2 =>
  si x1 11 (x2 + (1 : Int32)) h fun h3 =>
  cl (ck [7] l0 h3 (Treble_judged N l0 h3)) fun x5 h4 =>
  if 0 ≤ x5 then (cl (ds [(7, Plain_leadOf N l0 0 h4)] l0 h4) fun x7 h6 =>
  cl (ds [(7, Surprise_hasPlacesWhereTrebleCrosses N l0 x7 h6)] l0 h6) fun x9 h8 =>
  if x5 = 1 then (if x9 = 0 then (some (0, h8)) else (some (1, h8))) else (some (0, h8))) else (some (x5, h4))
def Spliced_judged_44 (N : Nat) (re16 : Option Nat → Int32 → Int32 → Hp → Option (Int32 × Hp)) (l0 : Option Nat) (l2 : Int32) (u0 : Int32) (h : Hp) : Option (Int32 × Hp) :=
  if u0 = 1 then (nm (l2 + 1) fun x1 =>
  re16 l0 u0 x1 h) else (some (u0, h))
def Spliced_judged_16 (N : Nat) : Nat → Option Nat → Int32 → Int32 → Hp → Option (Int32 × Hp)
  | 0, _, _, _, _ => none
  | n + 1, l0, l1, l2, h =>
  gi [6] 7 l0 h fun x1 =>
  if x1 ≤ l2 then (some (l1, h)) else (gr [6] 6 l0 h fun x2 =>
  lr 18 x2 l2 h fun x3 =>
  if x3 = none then (Spliced_judged_44 N (Spliced_judged_16 N n) l0 l2 (-4) h) else (cl (ds [(1, Little_judged N x3 h), (2, Plain_judged N x3 h), (3, Principle_judged N x3 h), (7, Surprise_judged N x3 h), (10, Treble_judged N x3 h)] x3 h) fun x5 h4 =>
  Spliced_judged_44 N (Spliced_judged_16 N n) l0 l2 x5 h4))
def Spliced_judged (N : Nat) (l0 : Option Nat) (h : Hp) : Option (Int32 × Hp) :=
  gr [6] 1 l0 h fun x1 =>
  li 13 x1 17 h fun x2 =>
  si x1 17 (x2 + (1 : Int32)) h fun h3 =>
  Spliced_judged_16 N N l0 (-7) 0 h3
def Treble_init (N : Nat) (l0 : Option Nat) (l1 : Int32) (l2 : Option Nat) (h : Hp) : Option (Unit × Hp) :=
  cl (ck [7, 10] l0 h (Plain_init N l0 l1 l2 h)) fun _ h1 =>
  some ((), h1)
def Surprise_init (N : Nat) (l0 : Option Nat) (l1 : Int32) (l2 : Option Nat) (h : Hp) : Option (Unit × Hp) :=
  cl (ck [7] l0 h (Treble_init N l0 l1 l2 h)) fun _ h1 =>
  some ((), h1)
def Tape_init (N : Nat) (l0 : Option Nat) (h : Hp) : Option (Unit × Hp) :=
  kn l0 <|
  na 15 300 h fun x1 h2 =>
  pr [8] 0 l0 x1 h2 fun h3 =>
  na 13 300 h3 fun x4 h5 =>
  pr [8] 2 l0 x4 h5 fun h6 =>
  some ((), h6)
def Tape_add_3 (N : Nat) : Nat → Option Nat → Int32 → Int32 → Hp → Option (Unit × Hp)
  | 0, _, _, _, _ => none
  | n + 1, l0, l1, l2, h =>
  if l2 < 0 then (some ((), h)) else (gi [8] 1 l0 h fun x1 =>
  if 300 ≤ x1 then (some ((), h)) else (gr [8] 0 l0 h fun x2 =>
  gi [8] 1 l0 h fun x3 =>
  sb x2 x3 (Int8.toInt32 (Int32.toInt8 (l1 >>> (l2 &&& 31)))) h fun h4 =>
  gi [8] 1 l0 h4 fun x5 =>
  pi [8] 1 l0 (x5 + (1 : Int32)) h4 fun h6 =>
  nm (l2 + (-8)) fun x7 =>
  Tape_add_3 N n l0 l1 x7 h6))
def Tape_add (N : Nat) (l0 : Option Nat) (l1 : Int32) (h : Hp) : Option (Unit × Hp) :=
  Tape_add_3 N N l0 l1 24 h
def Tape_placeTold_17 (N : Nat) (l0 : Int32) (h : Hp) : Option (Int32 × Hp) :=
  sw l0 [(48, some (10, h)), (69, some (11, h)), (84, some (12, h))] (some (0, h))
def Tape_placeTold (N : Nat) (l0 : Int32) (h : Hp) : Option (Int32 × Hp) :=
  if l0 < 49 then (Tape_placeTold_17 N l0 h) else (if 57 < l0 then (Tape_placeTold_17 N l0 h) else (some ((l0 - (48 : Int32)), h)))
def Tape_pairs_4 (N : Nat) : Nat → Int32 → Int32 → Int32 → Hp → Option (Int32 × Hp)
  | 0, _, _, _, _ => none
  | n + 1, l1, l2, l3, h =>
  if l1 ≤ l3 then (some (l2, h)) else (nm (l2 ||| ((1 : Int32) <<< ((l3 - (1 : Int32)) &&& 31))) fun x1 =>
  nm (l3 + 2) fun x2 =>
  Tape_pairs_4 N n l1 x1 x2 h)
def Tape_pairs (N : Nat) (l0 : Int32) (l1 : Int32) (h : Hp) : Option (Int32 × Hp) :=
  Tape_pairs_4 N N l1 0 l0 h
def Tape_takesPlace_89 (N : Nat) (l0 : Option Nat) (l1 : Int32) (h : Hp) : Option (Int32 × Hp) :=
  pi [8] 6 l0 l1 h fun h1 =>
  pi [8] 5 l0 2 h1 fun h2 =>
  rz 1 h2
def Tape_takesPlace_32 (N : Nat) (l0 : Option Nat) (l1 : Int32) (u0 : Option Nat) (u1 : Int32) (h : Hp) : Option (Int32 × Hp) :=
  cl (Tape_pairs N u1 (l1 - (1 : Int32)) h) fun x2 h1 =>
  pi [8] 7 u0 x2 h1 fun h3 =>
  Tape_takesPlace_89 N l0 l1 h3
def Tape_takesPlace (N : Nat) (l0 : Option Nat) (l1 : Int32) (l2 : Int32) (h : Hp) : Option (Int32 × Hp) :=
  if l1 < 1 then (rz 0 h) else (if l1 ≤ l2 then (gi [8] 5 l0 h fun x1 =>
  if x1 = 2 then (gi [8] 6 l0 h fun x2 =>
  if l1 ≤ x2 then (rz 0 h) else (gi [8] 6 l0 h fun x3 =>
  nz 2 <|
  if ((l1 - x3) - (l1 - x3) / 2 * 2) = 0 then (rz 0 h) else (gi [8] 7 l0 h fun x4 =>
  gi [8] 6 l0 h fun x5 =>
  cl (Tape_pairs N (x5 + (1 : Int32)) (l1 - (1 : Int32)) h) fun x7 h6 =>
  pi [8] 7 l0 (x4 ||| x7) h6 fun h8 =>
  Tape_takesPlace_89 N l0 l1 h8))) else (nz 2 <|
  if (l1 - l1 / 2 * 2) = 0 then (Tape_takesPlace_32 N l0 l1 l0 2 h) else (Tape_takesPlace_32 N l0 l1 l0 1 h))) else (rz 0 h))
def Tape_tell (N : Nat) (l0 : Option Nat) (l1 : Int32) (h : Hp) : Option (Unit × Hp) :=
  gi [8] 3 l0 h fun x1 =>
  if 300 ≤ x1 then (some ((), h)) else (gr [8] 2 l0 h fun x2 =>
  gi [8] 3 l0 h fun x3 =>
  si x2 x3 l1 h fun h4 =>
  gi [8] 3 l0 h4 fun x5 =>
  pi [8] 3 l0 (x5 + (1 : Int32)) h4 fun h6 =>
  some ((), h6))
def Tape_closePlaces (N : Nat) (l0 : Option Nat) (l1 : Int32) (h : Hp) : Option (Unit × Hp) :=
  gi [8] 5 l0 h fun x1 =>
  if x1 = 2 then (gi [8] 7 l0 h fun x2 =>
  gi [8] 6 l0 h fun x3 =>
  cl (Tape_pairs N (x3 + (1 : Int32)) l1 h) fun x5 h4 =>
  cl (ds [(8, Tape_tell N l0 (x2 ||| x5) h4)] l0 h4) fun _ h6 =>
  some ((), h6)) else (some ((), h))
def Tape_takesCross (N : Nat) (l0 : Option Nat) (l1 : Int32) (h : Hp) : Option (Int32 × Hp) :=
  gi [8] 5 l0 h fun x1 =>
  if x1 = 3 then (rz 0 h) else (cl (ds [(8, Tape_closePlaces N l0 l1 h)] l0 h) fun _ h2 =>
  cl (Tape_pairs N 1 l1 h2) fun x4 h3 =>
  cl (ds [(8, Tape_tell N l0 x4 h3)] l0 h3) fun _ h5 =>
  pi [8] 5 l0 1 h5 fun h6 =>
  rz 1 h6)
def Tape_takesDot (N : Nat) (l0 : Option Nat) (l1 : Int32) (h : Hp) : Option (Int32 × Hp) :=
  gi [8] 5 l0 h fun x1 =>
  if x1 = 2 then (cl (ds [(8, Tape_closePlaces N l0 l1 h)] l0 h) fun _ h2 =>
  pi [8] 5 l0 3 h2 fun h3 =>
  rz 1 h3) else (rz 0 h)
def Tape_canCloseBlock_16 (N : Nat)  (h : Hp) : Option (Int32 × Hp) :=
  rz 1 h
def Tape_canCloseBlock (N : Nat) (l0 : Option Nat) (h : Hp) : Option (Int32 × Hp) :=
  gi [8] 5 l0 h fun x1 =>
  if x1 = 1 then (Tape_canCloseBlock_16 N  h) else (gi [8] 5 l0 h fun x2 =>
  if x2 = 2 then (Tape_canCloseBlock_16 N  h) else (rz 0 h))
def Tape_takesComma (N : Nat) (l0 : Option Nat) (l1 : Int32) (h : Hp) : Option (Int32 × Hp) :=
  gi [8] 4 l0 h fun x1 =>
  if x1 = 0 then (cl (ds [(8, Tape_canCloseBlock N l0 h)] l0 h) fun x3 h2 =>
  if x3 = 0 then (rz 0 h2) else (cl (ds [(8, Tape_closePlaces N l0 l1 h2)] l0 h2) fun _ h4 =>
  gi [8] 3 l0 h4 fun x5 =>
  pi [8] 4 l0 x5 h4 fun h6 =>
  pi [8] 5 l0 0 h6 fun h7 =>
  rz 1 h7)) else (rz 0 h)
def Tape_takes (N : Nat) (l0 : Option Nat) (l1 : Int32) (l2 : Int32) (h : Hp) : Option (Int32 × Hp) :=
  sw l1 [(44, cl (ds [(8, Tape_takesComma N l0 l2 h)] l0 h) fun x2 h1 =>
  rz x2 h1), (46, cl (ds [(8, Tape_takesDot N l0 l2 h)] l0 h) fun x4 h3 =>
  rz x4 h3), (120, cl (ds [(8, Tape_takesCross N l0 l2 h)] l0 h) fun x6 h5 =>
  rz x6 h5)] (cl (Tape_placeTold N l1 h) fun x8 h7 =>
  cl (ds [(8, Tape_takesPlace N l0 x8 l2 h7)] l0 h7) fun x10 h9 =>
  rz x10 h9)
def Tape_write_99 (N : Nat) : Nat → Option Nat → Option Nat → Int32 → Hp → Option (Unit × Hp)
  | 0, _, _, _, _ => none
  | n + 1, l0, l1, l2, h =>
  gi [8] 4 l0 h fun x1 =>
  if x1 ≤ 0 then (some ((), h)) else (gi [8] 4 l0 h fun x2 =>
  if l2 < x2 then (some ((), h)) else (gr [8] 2 l0 h fun x3 =>
  li 13 x3 l2 h fun x4 =>
  cl (ds [(0, Lead_add N l1 x4 h)] l1 h) fun _ h5 =>
  nm (l2 + (-1)) fun x6 =>
  Tape_write_99 N n l0 l1 x6 h5))
def Tape_write_68 (N : Nat) : Nat → Option Nat → Option Nat → Int32 → Hp → Option (Unit × Hp)
  | 0, _, _, _, _ => none
  | n + 1, l0, l1, l2, h =>
  gi [8] 3 l0 h fun x1 =>
  if x1 ≤ l2 then (gi [8] 3 l0 h fun x2 =>
  nm (x2 - (2 : Int32)) fun x3 =>
  Tape_write_99 N N l0 l1 x3 h) else (gr [8] 2 l0 h fun x4 =>
  li 13 x4 l2 h fun x5 =>
  cl (ds [(0, Lead_add N l1 x5 h)] l1 h) fun _ h6 =>
  nm (l2 + 1) fun x7 =>
  Tape_write_68 N n l0 l1 x7 h6)
def Tape_write_43 (N : Nat) : Nat → Option Nat → Option Nat → Int32 → Hp → Option (Unit × Hp)
  | 0, _, _, _, _ => none
  | n + 1, l0, l1, l2, h =>
  if l2 < 0 then (gi [8] 4 l0 h fun x1 =>
  Tape_write_68 N N l0 l1 x1 h) else (gr [8] 2 l0 h fun x2 =>
  li 13 x2 l2 h fun x3 =>
  cl (ds [(0, Lead_add N l1 x3 h)] l1 h) fun _ h4 =>
  nm (l2 + (-1)) fun x5 =>
  Tape_write_43 N n l0 l1 x5 h4)
def Tape_write_12 (N : Nat) : Nat → Option Nat → Option Nat → Int32 → Hp → Option (Unit × Hp)
  | 0, _, _, _, _ => none
  | n + 1, l0, l1, l2, h =>
  gi [8] 4 l0 h fun x1 =>
  if x1 ≤ l2 then (gi [8] 4 l0 h fun x2 =>
  nm (x2 - (2 : Int32)) fun x3 =>
  Tape_write_43 N N l0 l1 x3 h) else (gr [8] 2 l0 h fun x4 =>
  li 13 x4 l2 h fun x5 =>
  cl (ds [(0, Lead_add N l1 x5 h)] l1 h) fun _ h6 =>
  nm (l2 + 1) fun x7 =>
  Tape_write_12 N n l0 l1 x7 h6)
def Tape_write (N : Nat) (l0 : Option Nat) (l1 : Option Nat) (h : Hp) : Option (Unit × Hp) :=
  pi [0] 2 l1 0 h fun h1 =>
  pi [0] 1 l1 0 h1 fun h2 =>
  Tape_write_12 N N l0 l1 0 h2
def Tape_readLead_90 (N : Nat) (l0 : Option Nat) (l2 : Option Nat) (u0 : Int32) (h : Hp) : Option (Int32 × Hp) :=
  if u0 ≤ 100 then (cl (ds [(8, Tape_write N l0 l2 h)] l0 h) fun _ h1 =>
  some (u0, h1)) else (some ((-1000), h))
def Tape_readLead_17 (N : Nat) : Nat → Option Nat → Int32 → Option Nat → Int32 → Hp → Option (Int32 × Hp)
  | 0, _, _, _, _, _ => none
  | n + 1, l0, l1, l2, l3, h =>
  gi [8] 1 l0 h fun x1 =>
  if x1 ≤ l3 then (cl (ds [(8, Tape_canCloseBlock N l0 h)] l0 h) fun x3 h2 =>
  if x3 = 0 then (gi [8] 1 l0 h2 fun x8 =>
  some (((-1 : Int32) - x8), h2)) else (cl (ds [(8, Tape_closePlaces N l0 l1 h2)] l0 h2) fun _ h4 =>
  gi [8] 4 l0 h4 fun x5 =>
  if x5 = 0 then (gi [8] 3 l0 h4 fun x7 =>
  Tape_readLead_90 N l0 l2 x7 h4) else (gi [8] 3 l0 h4 fun x6 =>
  Tape_readLead_90 N l0 l2 (((2 : Int32) * x6) - (2 : Int32)) h4))) else (gr [8] 0 l0 h fun x9 =>
  li 15 x9 l3 h fun x10 =>
  cl (ds [(8, Tape_takes N l0 x10 l1 h)] l0 h) fun x12 h11 =>
  if x12 = 0 then (some (((-1 : Int32) - l3), h11)) else (nm (l3 + 1) fun x13 =>
  Tape_readLead_17 N n l0 l1 l2 x13 h11))
def Tape_readLead (N : Nat) (l0 : Option Nat) (l1 : Int32) (l2 : Option Nat) (h : Hp) : Option (Int32 × Hp) :=
  pi [8] 3 l0 0 h fun h1 =>
  pi [8] 4 l0 0 h1 fun h2 =>
  pi [8] 5 l0 0 h2 fun h3 =>
  Tape_readLead_17 N N l0 l1 l2 0 h3
def Touch_init (N : Nat) (l0 : Option Nat) (h : Hp) : Option (Unit × Hp) :=
  kn l0 <|
  na 18 100 h fun x1 h2 =>
  pr [9] 0 l0 x1 h2 fun h3 =>
  na 13 100 h3 fun x4 h5 =>
  pr [9] 1 l0 x4 h5 fun h6 =>
  nw 4 h6 fun x7 h8 =>
  cl (ck [4] x7 h8 (Rows_init N x7 2001 h8)) fun _ h9 =>
  pr [9] 5 l0 x7 h9 fun h10 =>
  nw 0 h10 fun x11 h12 =>
  cl (ck [0] x11 h12 (Lead_init N x11 h12)) fun _ h13 =>
  pr [9] 6 l0 x11 h13 fun h14 =>
  na 13 2001 h14 fun x15 h16 =>
  pr [9] 12 l0 x15 h16 fun h17 =>
  na 13 2001 h17 fun x18 h19 =>
  pr [9] 14 l0 x18 h19 fun h20 =>
  some ((), h20)
def Touch_beginAnew (N : Nat) (l0 : Option Nat) (h : Hp) : Option (Unit × Hp) :=
  gr [9] 5 l0 h fun x1 =>
  cl (ds [(4, Rows_keepFirst N x1 0 h)] x1 h) fun _ h2 =>
  gr [9] 5 l0 h2 fun x3 =>
  gl [9] 4 l0 h2 fun x4 =>
  cl (ds [(4, Rows_add N x3 x4 h2)] x3 h2) fun _ h5 =>
  gr [9] 6 l0 h5 fun x6 =>
  pi [0] 1 x6 0 h5 fun h7 =>
  pi [9] 7 l0 0 h7 fun h8 =>
  pi [9] 8 l0 0 h8 fun h9 =>
  pz [9] 9 l0 0 h9 fun h10 =>
  pi [9] 10 l0 (-1) h10 fun h11 =>
  pi [9] 11 l0 (-1) h11 fun h12 =>
  pi [9] 13 l0 0 h12 fun h13 =>
  some ((), h13)
def Touch_forget (N : Nat) (l0 : Option Nat) (l1 : Int32) (h : Hp) : Option (Unit × Hp) :=
  pi [9] 3 l0 l1 h fun h1 =>
  cl (Rows_rounds N l1 h1) fun x3 h2 =>
  pl [9] 4 l0 x3 h2 fun h4 =>
  pi [9] 2 l0 0 h4 fun h5 =>
  pi [9] 15 l0 0 h5 fun h6 =>
  cl (ds [(9, Touch_beginAnew N l0 h6)] l0 h6) fun _ h7 =>
  some ((), h7)
def Touch_addItem (N : Nat) (l0 : Option Nat) (l1 : Option Nat) (l2 : Int32) (h : Hp) : Option (Unit × Hp) :=
  gi [9] 2 l0 h fun x1 =>
  if 100 ≤ x1 then (some ((), h)) else (gr [9] 0 l0 h fun x2 =>
  gi [9] 2 l0 h fun x3 =>
  sr 18 [1, 2, 3, 6, 7, 10] x2 x3 l1 h fun h4 =>
  gr [9] 1 l0 h4 fun x5 =>
  gi [9] 2 l0 h4 fun x6 =>
  si x5 x6 l2 h4 fun h7 =>
  gi [9] 2 l0 h7 fun x8 =>
  pi [9] 2 l0 (x8 + (1 : Int32)) h7 fun h9 =>
  some ((), h9))
def Touch_ringRow_129 (N : Nat) (u0 : Option Nat) (u1 : Int32) (h : Hp) : Option (Unit × Hp) :=
  pz [9] 9 u0 u1 h fun h1 =>
  some ((), h1)
def Touch_ringRow_124 (N : Nat) (u0 : Option Nat) (h : Hp) : Option (Unit × Hp) :=
  Touch_ringRow_129 N u0 1 h
def Touch_ringRow_99 (N : Nat) (l0 : Option Nat) (l1 : Int32) (l2 : Int64) (h : Hp) : Option (Unit × Hp) :=
  gr [9] 5 l0 h fun x1 =>
  cl (ds [(4, Rows_add N x1 l2 h)] x1 h) fun _ h2 =>
  gl [9] 4 l0 h2 fun x3 =>
  if (lg_cmp l2 x3) = 0 then (Touch_ringRow_124 N l0 h2) else (if l1 < 2000 then (Touch_ringRow_129 N l0 0 h2) else (Touch_ringRow_124 N l0 h2))
def Touch_ringRow_96 (N : Nat) (l0 : Option Nat) (l1 : Int32) (l2 : Int64) (u0 : Option Nat) (u1 : Int32) (h : Hp) : Option (Unit × Hp) :=
  pi [9] 11 u0 u1 h fun h1 =>
  Touch_ringRow_99 N l0 l1 l2 h1
def Touch_ringRow (N : Nat) (l0 : Option Nat) (h : Hp) : Option (Unit × Hp) :=
  gr [9] 5 l0 h fun x1 =>
  gi [4] 3 x1 h fun x2 =>
  gr [9] 5 l0 h fun x3 =>
  cl (ds [(4, Rows_codeAt N x3 (x2 - (1 : Int32)) h)] x3 h) fun x5 h4 =>
  gr [9] 6 l0 h4 fun x6 =>
  gr [0] 0 x6 h4 fun x7 =>
  gi [9] 7 l0 h4 fun x8 =>
  li 13 x7 x8 h4 fun x9 =>
  cl (Rows_changed N x5 x9 h4) fun x11 h10 =>
  gi [9] 7 l0 h10 fun x12 =>
  pi [9] 7 l0 (x12 + (1 : Int32)) h10 fun h13 =>
  gl [9] 4 l0 h13 fun x14 =>
  if (lg_cmp x11 x14) = 0 then (pi [9] 10 l0 x2 h13 fun h19 =>
  Touch_ringRow_99 N l0 x2 x11 h19) else (gi [9] 11 l0 h13 fun x15 =>
  if 0 ≤ x15 then (Touch_ringRow_99 N l0 x2 x11 h13) else (gr [9] 5 l0 h13 fun x16 =>
  cl (ds [(4, Rows_indexOf N x16 x11 h13)] x16 h13) fun x18 h17 =>
  if 0 ≤ x18 then (Touch_ringRow_96 N l0 x2 x11 l0 ((x2 * (10000 : Int32)) + x18) h17) else (Touch_ringRow_96 N l0 x2 x11 l0 (-1) h17)))
def Touch_beginItem_65 (N : Nat) (l2 : Int32) (u0 : Option Nat) (u1 : Int32) (h : Hp) : Option (Int32 × Hp) :=
  pz [9] 9 u0 u1 h fun h1 =>
  some (l2, h1)
def Touch_beginItem_39 (N : Nat) (l0 : Option Nat) (u0 : Int32) (h : Hp) : Option (Int32 × Hp) :=
  pi [9] 7 l0 0 h fun h1 =>
  gi [9] 8 l0 h1 fun x2 =>
  pi [9] 8 l0 (x2 + (1 : Int32)) h1 fun h3 =>
  if u0 = 0 then (Touch_beginItem_65 N u0 l0 0 h3) else (Touch_beginItem_65 N u0 l0 1 h3)
def Touch_beginItem (N : Nat) (l0 : Option Nat) (h : Hp) : Option (Int32 × Hp) :=
  gr [9] 0 l0 h fun x1 =>
  gi [9] 8 l0 h fun x2 =>
  lr 18 x1 x2 h fun x3 =>
  if x3 = none then (Touch_beginItem_39 N l0 4 h) else (gi [9] 8 l0 h fun x4 =>
  gr [9] 1 l0 h fun x5 =>
  gi [9] 8 l0 h fun x6 =>
  li 13 x5 x6 h fun x7 =>
  gr [9] 6 l0 h fun x8 =>
  cl (ds [(1, Little_calledOf N x3 x4 x7 x8 h), (2, Plain_calledOf N x3 x4 x7 x8 h), (3, Principle_calledOf N x3 x4 x7 x8 h), (6, Spliced_calledOf N x3 x4 x7 x8 h), (7, Surprise_calledOf N x3 x4 x7 x8 h), (10, Plain_calledOf N x3 x4 x7 x8 h)] x3 h) fun x10 h9 =>
  Touch_beginItem_39 N l0 x10 h9)
def Touch_ringOn_67 (N : Nat) (re7 : Option Nat → Int32 → Int32 → Int32 → Int32 → Hp → Option (Int32 × Hp)) (l0 : Option Nat) (l1 : Int32) (l2 : Int32) (l3 : Int32) (l4 : Int32) (h : Hp) : Option (Int32 × Hp) :=
  nm (l4 + 1) fun x1 =>
  re7 l0 l1 l2 l3 x1 h
def Touch_ringOn_7 (N : Nat) : Nat → Option Nat → Int32 → Int32 → Int32 → Int32 → Hp → Option (Int32 × Hp)
  | 0, _, _, _, _, _, _ => none
  | n + 1, l0, l1, l2, l3, l4, h =>
  if (l1 + (100 : Int32)) ≤ l4 then (some (l2, h)) else (if l3 ≤ 0 then (some (l2, h)) else (gi [9] 9 l0 h fun x1 =>
  if x1 = 0 then (gi [9] 7 l0 h fun x2 =>
  gr [9] 6 l0 h fun x3 =>
  gi [0] 1 x3 h fun x4 =>
  if x4 ≤ x2 then (gi [9] 8 l0 h fun x5 =>
  gi [9] 2 l0 h fun x6 =>
  if x6 ≤ x5 then (some (l2, h)) else (cl (ds [(9, Touch_beginItem N l0 h)] l0 h) fun x8 h7 =>
  Touch_ringOn_67 N (Touch_ringOn_7 N n) l0 l1 x8 l3 l4 h7)) else (cl (ds [(9, Touch_ringRow N l0 h)] l0 h) fun _ h9 =>
  nm (l3 + (-1)) fun x10 =>
  Touch_ringOn_67 N (Touch_ringOn_7 N n) l0 l1 l2 x10 l4 h9)) else (some (l2, h))))
def Touch_ringOn (N : Nat) (l0 : Option Nat) (l1 : Int32) (h : Hp) : Option (Int32 × Hp) :=
  Touch_ringOn_7 N N l0 l1 0 l1 0 h
def Touch_provableRows (N : Nat) (l0 : Option Nat) (h : Hp) : Option (Int32 × Hp) :=
  gi [9] 10 l0 h fun x1 =>
  if 0 ≤ x1 then (gr [9] 5 l0 h fun x2 =>
  gi [4] 3 x2 h fun x3 =>
  some ((x3 - (1 : Int32)), h)) else (gr [9] 5 l0 h fun x4 =>
  gi [4] 3 x4 h fun x5 =>
  some (x5, h))
def Touch_sink_97 (N : Nat) (l0 : Option Nat) (l3 : Int32) (l4 : Int32) (h : Hp) : Option (Unit × Hp) :=
  gr [9] 12 l0 h fun x1 =>
  si x1 l4 l3 h fun h2 =>
  some ((), h2)
def Touch_sink_54 (N : Nat) (re18 : Option Nat → Int32 → Int32 → Int32 → Int32 → Hp → Option (Unit × Hp)) (l0 : Option Nat) (l2 : Int32) (l3 : Int32) (l4 : Int32) (l5 : Int32) (h : Hp) : Option (Unit × Hp) :=
  gr [9] 12 l0 h fun x1 =>
  li 13 x1 l5 h fun x2 =>
  if l3 < x2 then (gr [9] 12 l0 h fun x3 =>
  gr [9] 12 l0 h fun x4 =>
  li 13 x4 l5 h fun x5 =>
  si x3 l4 x5 h fun h6 =>
  nm (((2 : Int32) * l5) + (1 : Int32)) fun x7 =>
  re18 l0 l2 l3 l5 x7 h6) else (Touch_sink_97 N l0 l3 l4 h)
def Touch_sink_18 (N : Nat) : Nat → Option Nat → Int32 → Int32 → Int32 → Int32 → Hp → Option (Unit × Hp)
  | 0, _, _, _, _, _, _ => none
  | n + 1, l0, l2, l3, l4, l5, h =>
  if l2 ≤ l5 then (Touch_sink_97 N l0 l3 l4 h) else (if l2 ≤ (l5 + (1 : Int32)) then (Touch_sink_54 N (Touch_sink_18 N n) l0 l2 l3 l4 l5 h) else (gr [9] 12 l0 h fun x1 =>
  li 13 x1 (l5 + (1 : Int32)) h fun x2 =>
  gr [9] 12 l0 h fun x3 =>
  li 13 x3 l5 h fun x4 =>
  if x2 ≤ x4 then (Touch_sink_54 N (Touch_sink_18 N n) l0 l2 l3 l4 l5 h) else (nm (l5 + 1) fun x5 =>
  Touch_sink_54 N (Touch_sink_18 N n) l0 l2 l3 l4 x5 h)))
def Touch_sink (N : Nat) (l0 : Option Nat) (l1 : Int32) (l2 : Int32) (h : Hp) : Option (Unit × Hp) :=
  gr [9] 12 l0 h fun x1 =>
  li 13 x1 l1 h fun x2 =>
  nm (((2 : Int32) * l1) + (1 : Int32)) fun x3 =>
  Touch_sink_18 N N l0 l2 x2 l1 x3 h
def Touch_heapSort_26 (N : Nat) : Nat → Option Nat → Int32 → Hp → Option (Unit × Hp)
  | 0, _, _, _ => none
  | n + 1, l0, l2, h =>
  if l2 ≤ 0 then (some ((), h)) else (gr [9] 12 l0 h fun x1 =>
  li 13 x1 0 h fun x2 =>
  gr [9] 12 l0 h fun x3 =>
  gr [9] 12 l0 h fun x4 =>
  li 13 x4 l2 h fun x5 =>
  si x3 0 x5 h fun h6 =>
  gr [9] 12 l0 h6 fun x7 =>
  si x7 l2 x2 h6 fun h8 =>
  cl (ds [(9, Touch_sink N l0 0 l2 h8)] l0 h8) fun _ h9 =>
  nm (l2 + (-1)) fun x10 =>
  Touch_heapSort_26 N n l0 x10 h9)
def Touch_heapSort_6 (N : Nat) : Nat → Option Nat → Int32 → Int32 → Hp → Option (Unit × Hp)
  | 0, _, _, _, _ => none
  | n + 1, l0, l1, l2, h =>
  if l2 < 0 then (nm (l1 - (1 : Int32)) fun x1 =>
  Touch_heapSort_26 N N l0 x1 h) else (cl (ds [(9, Touch_sink N l0 l2 l1 h)] l0 h) fun _ h2 =>
  nm (l2 + (-1)) fun x3 =>
  Touch_heapSort_6 N n l0 l1 x3 h2)
def Touch_heapSort (N : Nat) (l0 : Option Nat) (l1 : Int32) (h : Hp) : Option (Unit × Hp) :=
  nz 2 <|
  nm ((l1 / 2) - (1 : Int32)) fun x1 =>
  Touch_heapSort_6 N N l0 l1 x1 h
def Touch_orderNumbers_21 (N : Nat) : Nat → Option Nat → Int32 → Int32 → Hp → Option (Int32 × Hp)
  | 0, _, _, _, _ => none
  | n + 1, l0, l1, l2, h =>
  if l1 ≤ l2 then (cl (ds [(9, Touch_heapSort N l0 l1 h)] l0 h) fun _ h1 =>
  gr [9] 5 l0 h1 fun x2 =>
  gi [4] 3 x2 h1 fun x3 =>
  pi [9] 13 l0 x3 h1 fun h4 =>
  some (l1, h4)) else (gr [9] 12 l0 h fun x5 =>
  gr [9] 5 l0 h fun x6 =>
  cl (ds [(4, Rows_codeAt N x6 l2 h)] x6 h) fun x8 h7 =>
  gi [9] 3 l0 h7 fun x9 =>
  cl (Rows_numberOf N x8 x9 h7) fun x11 h10 =>
  si x5 l2 x11 h10 fun h12 =>
  nm (l2 + 1) fun x13 =>
  Touch_orderNumbers_21 N n l0 l1 x13 h12)
def Touch_orderNumbers (N : Nat) (l0 : Option Nat) (h : Hp) : Option (Int32 × Hp) :=
  cl (ds [(9, Touch_provableRows N l0 h)] l0 h) fun x2 h1 =>
  gi [9] 13 l0 h1 fun x3 =>
  gr [9] 5 l0 h1 fun x4 =>
  gi [4] 3 x4 h1 fun x5 =>
  if x3 = x5 then (some (x2, h1)) else (Touch_orderNumbers_21 N N l0 x2 0 h1)
def Touch_makeProof (N : Nat) (l0 : Option Nat) (h : Hp) : Option (Int32 × Hp) :=
  gi [9] 11 l0 h fun x1 =>
  if x1 < 0 then (cl (ds [(9, Touch_orderNumbers N l0 h)] l0 h) fun x3 h2 =>
  pi [9] 15 l0 x3 h2 fun h4 =>
  gr [9] 12 l0 h4 fun x5 =>
  gr [9] 14 l0 h4 fun x6 =>
  gi [9] 15 l0 h4 fun x7 =>
  ac x5 0 x6 0 x7 h4 fun h8 =>
  gi [9] 15 l0 h8 fun x9 =>
  some (x9, h8)) else (some ((-1), h))
def Touch_isProven_27 (N : Nat) : Nat → Option Nat → Int32 → Hp → Option (Int32 × Hp)
  | 0, _, _, _ => none
  | n + 1, l0, l1, h =>
  gi [9] 15 l0 h fun x1 =>
  if x1 ≤ l1 then (rz 1 h) else (gr [9] 14 l0 h fun x2 =>
  li 13 x2 l1 h fun x3 =>
  gr [9] 12 l0 h fun x4 =>
  li 13 x4 l1 h fun x5 =>
  if x3 = x5 then (nm (l1 + 1) fun x6 =>
  Touch_isProven_27 N n l0 x6 h) else (rz 0 h))
def Touch_isProven (N : Nat) (l0 : Option Nat) (h : Hp) : Option (Int32 × Hp) :=
  gi [9] 11 l0 h fun x1 =>
  if 0 ≤ x1 then (rz 0 h) else (gi [9] 15 l0 h fun x2 =>
  cl (ds [(9, Touch_provableRows N l0 h)] l0 h) fun x4 h3 =>
  if x2 = x4 then (cl (ds [(9, Touch_orderNumbers N l0 h3)] l0 h3) fun x6 h5 =>
  Touch_isProven_27 N N l0 0 h5) else (rz 0 h3))
def C_init (N : Nat) (l0 : Option Nat) (h : Hp) : Option (Unit × Hp) :=
  kn l0 <|
  nw 8 h fun x1 h2 =>
  cl (ck [8] x1 h2 (Tape_init N x1 h2)) fun _ h3 =>
  pr [11] 0 l0 x1 h3 fun h4 =>
  na 13 18 h4 fun x5 h6 =>
  pr [11] 1 l0 x5 h6 fun h7 =>
  na 18 30 h7 fun x8 h9 =>
  pr [11] 2 l0 x8 h9 fun h10 =>
  pi [11] 4 l0 6 h10 fun h11 =>
  pi [11] 5 l0 63 h11 fun h12 =>
  nw 9 h12 fun x13 h14 =>
  cl (ck [9] x13 h14 (Touch_init N x13 h14)) fun _ h15 =>
  pr [11] 7 l0 x13 h15 fun h16 =>
  nw 5 h16 fun x17 h18 =>
  cl (ck [5] x17 h18 (Search_init N x17 h18)) fun _ h19 =>
  pr [11] 8 l0 x17 h19 fun h20 =>
  nw 0 h20 fun x21 h22 =>
  cl (ck [0] x21 h22 (Lead_init N x21 h22)) fun _ h23 =>
  pr [11] 9 l0 x21 h23 fun h24 =>
  nw 4 h24 fun x25 h26 =>
  cl (ck [4] x25 h26 (Rows_init N x25 100 h26)) fun _ h27 =>
  pr [11] 10 l0 x25 h27 fun h28 =>
  gr [11] 7 l0 h28 fun x29 =>
  cl (ds [(9, Touch_forget N x29 6 h28)] x29 h28) fun _ h30 =>
  some ((), h30)
def C_feed (N : Nat) (l0 : Option Nat) (l1 : Int32) (l2 : Int32) (l3 : Int32) (l4 : Int32) (l5 : Int32) (h : Hp) : Option (Int32 × Hp) :=
  gr [11] 0 l0 h fun x1 =>
  gi [8] 1 x1 h fun x2 =>
  if (x2 + (20 : Int32)) ≤ 300 then (gr [11] 0 l0 h fun x3 =>
  cl (ds [(8, Tape_add N x3 l1 h)] x3 h) fun _ h4 =>
  gr [11] 0 l0 h4 fun x5 =>
  cl (ds [(8, Tape_add N x5 l2 h4)] x5 h4) fun _ h6 =>
  gr [11] 0 l0 h6 fun x7 =>
  cl (ds [(8, Tape_add N x7 l3 h6)] x7 h6) fun _ h8 =>
  gr [11] 0 l0 h8 fun x9 =>
  cl (ds [(8, Tape_add N x9 l4 h8)] x9 h8) fun _ h10 =>
  gr [11] 0 l0 h10 fun x11 =>
  cl (ds [(8, Tape_add N x11 l5 h10)] x11 h10) fun _ h12 =>
  gr [11] 0 l0 h12 fun x13 =>
  gi [8] 1 x13 h12 fun x14 =>
  some (x14, h12)) else (some ((-1), h))
def C_end (N : Nat) (l0 : Option Nat) (l1 : Int32) (h : Hp) : Option (Int32 × Hp) :=
  if l1 < 0 then (some ((-1), h)) else (gr [11] 0 l0 h fun x1 =>
  gi [8] 1 x1 h fun x2 =>
  if l1 ≤ x2 then (gr [11] 0 l0 h fun x3 =>
  pi [8] 1 x3 l1 h fun h4 =>
  some (l1, h4)) else (some ((-1), h)))
def C_bells (N : Nat) (l0 : Option Nat) (l1 : Int32) (h : Hp) : Option (Int32 × Hp) :=
  if l1 < 4 then (some ((-1), h)) else (if l1 ≤ 12 then (pi [11] 4 l0 l1 h fun h1 =>
  pi [11] 5 l0 (((1 : Int32) <<< (l1 &&& 31)) - (1 : Int32)) h1 fun h2 =>
  pi [11] 3 l0 0 h2 fun h3 =>
  gr [11] 7 l0 h3 fun x4 =>
  cl (ds [(9, Touch_forget N x4 l1 h3)] x4 h3) fun _ h5 =>
  gr [11] 8 l0 h5 fun x6 =>
  cl (ds [(5, Search_forget N x6 h5)] x6 h5) fun _ h7 =>
  some (1, h7)) else (some ((-1), h)))
def C_newMethod (N : Nat) (l0 : Option Nat) (l1 : Int32) (h : Hp) : Option (Option Nat × Hp) :=
  sw l1 [(0, nw 2 h fun x1 h2 =>
  gi [11] 4 l0 h2 fun x3 =>
  gr [11] 1 l0 h2 fun x4 =>
  cl (ck [1, 2, 7, 10] x1 h2 (Plain_init N x1 x3 x4 h2)) fun _ h5 =>
  some (x1, h5)), (1, nw 1 h fun x6 h7 =>
  gi [11] 4 l0 h7 fun x8 =>
  gr [11] 1 l0 h7 fun x9 =>
  cl (ck [1] x6 h7 (Little_init N x6 x8 x9 h7)) fun _ h10 =>
  some (x6, h10)), (2, nw 10 h fun x11 h12 =>
  gi [11] 4 l0 h12 fun x13 =>
  gr [11] 1 l0 h12 fun x14 =>
  cl (ck [7, 10] x11 h12 (Treble_init N x11 x13 x14 h12)) fun _ h15 =>
  some (x11, h15)), (3, nw 7 h fun x16 h17 =>
  gi [11] 4 l0 h17 fun x18 =>
  gr [11] 1 l0 h17 fun x19 =>
  cl (ck [7] x16 h17 (Surprise_init N x16 x18 x19 h17)) fun _ h20 =>
  some (x16, h20)), (4, nw 3 h fun x21 h22 =>
  gi [11] 4 l0 h22 fun x23 =>
  gr [11] 1 l0 h22 fun x24 =>
  cl (ck [3] x21 h22 (Principle_init N x21 x23 x24 h22)) fun _ h25 =>
  some (x21, h25))] (nw 6 h fun x26 h27 =>
  gi [11] 4 l0 h27 fun x28 =>
  gr [11] 1 l0 h27 fun x29 =>
  cl (ck [6] x26 h27 (Spliced_init N x26 x28 x29 h27)) fun _ h30 =>
  some (x26, h30))
def C_method (N : Nat) (l0 : Option Nat) (l1 : Int32) (h : Hp) : Option (Int32 × Hp) :=
  if l1 < 0 then (some ((-1), h)) else (if l1 < 6 then (gi [11] 3 l0 h fun x1 =>
  if x1 < 30 then (gr [11] 2 l0 h fun x2 =>
  gi [11] 3 l0 h fun x3 =>
  cl (ds [(11, C_newMethod N l0 l1 h)] l0 h) fun x5 h4 =>
  sr 18 [1, 2, 3, 6, 7, 10] x2 x3 x5 h4 fun h6 =>
  gi [11] 3 l0 h6 fun x7 =>
  pi [11] 3 l0 (x7 + (1 : Int32)) h6 fun h8 =>
  gr [11] 8 l0 h8 fun x9 =>
  pz [5] 19 x9 1 h8 fun h10 =>
  gi [11] 3 l0 h10 fun x11 =>
  some ((x11 - (1 : Int32)), h10)) else (some ((-2), h))) else (some ((-1), h)))
def C_methodAt_12 (N : Nat)  (h : Hp) : Option (Option Nat × Hp) :=
  some ((none : Option Nat), h)
def C_methodAt (N : Nat) (l0 : Option Nat) (l1 : Int32) (h : Hp) : Option (Option Nat × Hp) :=
  if l1 < 0 then (C_methodAt_12 N  h) else (gi [11] 3 l0 h fun x1 =>
  if l1 < x1 then (gr [11] 2 l0 h fun x2 =>
  lr 18 x2 l1 h fun x3 =>
  some (x3, h)) else (C_methodAt_12 N  h))
def C_finds (N : Nat) (l0 : Option Nat) (l1 : Int32) (l2 : Int32) (h : Hp) : Option (Int32 × Hp) :=
  pi [11] 6 l0 l1 h fun h1 =>
  some (l2, h1)
def C_notation_67 (N : Nat) (l0 : Option Nat) (l3 : Int32) (h : Hp) : Option (Int32 × Hp) :=
  cl (ds [(11, C_finds N l0 0 l3 h)] l0 h) fun x2 h1 =>
  some (x2, h1)
def C_notation (N : Nat) (l0 : Option Nat) (l1 : Int32) (h : Hp) : Option (Int32 × Hp) :=
  cl (ds [(11, C_methodAt N l0 l1 h)] l0 h) fun x2 h1 =>
  if x2 = none then (cl (ds [(11, C_finds N l0 4 0 h1)] l0 h1) fun x16 h15 =>
  some (x16, h15)) else (io 6 [1, 2, 3, 6, 7, 10] x2 h1 fun x3 =>
  if x3 = 0 then (gr [11] 0 l0 h1 fun x4 =>
  gi [11] 4 l0 h1 fun x5 =>
  gr [1, 2, 3, 6, 7, 10] 2 x2 h1 fun x6 =>
  cl (ds [(8, Tape_readLead N x4 x5 x6 h1)] x4 h1) fun x8 h7 =>
  gr [11] 0 l0 h7 fun x9 =>
  pi [8] 1 x9 0 h7 fun h10 =>
  if x8 < 0 then (C_notation_67 N l0 x8 h10) else (gr [11] 8 l0 h10 fun x11 =>
  pz [5] 19 x11 1 h10 fun h12 =>
  C_notation_67 N l0 x8 h12)) else (cl (ds [(11, C_finds N l0 3 0 h1)] l0 h1) fun x14 h13 =>
  some (x14, h13)))
def C_cut (N : Nat) (l0 : Option Nat) (l1 : Int32) (l2 : Int32) (h : Hp) : Option (Int32 × Hp) :=
  cl (ds [(11, C_methodAt N l0 l1 h)] l0 h) fun x2 h1 =>
  if x2 = none then (cl (ds [(11, C_finds N l0 4 0 h1)] l0 h1) fun x25 h24 =>
  some (x25, h24)) else (io 6 [1, 2, 3, 6, 7, 10] x2 h1 fun x3 =>
  if x3 = 0 then (gr [1, 2, 3, 6, 7, 10] 2 x2 h1 fun x4 =>
  gi [0] 2 x4 h1 fun x5 =>
  if x5 = 0 then (if 0 ≤ l2 then (gr [1, 2, 3, 6, 7, 10] 2 x2 h1 fun x6 =>
  gi [0] 1 x6 h1 fun x7 =>
  if l2 ≤ x7 then (gr [1, 2, 3, 6, 7, 10] 2 x2 h1 fun x8 =>
  pi [0] 1 x8 l2 h1 fun h9 =>
  gr [11] 8 l0 h9 fun x10 =>
  pz [5] 19 x10 1 h9 fun h11 =>
  cl (ds [(11, C_finds N l0 0 l2 h11)] l0 h11) fun x13 h12 =>
  some (x13, h12)) else (cl (ds [(11, C_finds N l0 5 0 h1)] l0 h1) fun x15 h14 =>
  some (x15, h14))) else (cl (ds [(11, C_finds N l0 6 0 h1)] l0 h1) fun x17 h16 =>
  some (x17, h16))) else (gr [1, 2, 3, 6, 7, 10] 2 x2 h1 fun x18 =>
  gi [0] 2 x18 h1 fun x19 =>
  cl (ds [(11, C_finds N l0 x19 0 h1)] l0 h1) fun x21 h20 =>
  some (x21, h20))) else (cl (ds [(11, C_finds N l0 3 0 h1)] l0 h1) fun x23 h22 =>
  some (x23, h22)))
def C_called_49 (N : Nat) (l0 : Option Nat) (h : Hp) : Option (Int32 × Hp) :=
  cl (ds [(11, C_finds N l0 2 0 h)] l0 h) fun x2 h1 =>
  some (x2, h1)
def C_called_45 (N : Nat) (l0 : Option Nat) (l2 : Int32) (l3 : Int32) (l4 : Int32) (l5 : Option Nat) (h : Hp) : Option (Int32 × Hp) :=
  if 0 ≤ l3 then (gi [11] 4 l0 h fun x1 =>
  cl (Rows_isChange N l4 x1 h) fun x3 h2 =>
  if x3 = 0 then (cl (ds [(11, C_finds N l0 8 0 h2)] l0 h2) fun x13 h12 =>
  some (x13, h12)) else (gr [1, 2, 3, 6, 7, 10] 3 l5 h2 fun x4 =>
  si x4 l2 l3 h2 fun h5 =>
  gr [1, 2, 3, 6, 7, 10] 4 l5 h5 fun x6 =>
  si x6 l2 l4 h5 fun h7 =>
  gr [11] 8 l0 h7 fun x8 =>
  pz [5] 19 x8 1 h7 fun h9 =>
  cl (ds [(11, C_finds N l0 0 1 h9)] l0 h9) fun x11 h10 =>
  some (x11, h10))) else (C_called_49 N l0 h)
def C_called (N : Nat) (l0 : Option Nat) (l1 : Int32) (l2 : Int32) (l3 : Int32) (l4 : Int32) (h : Hp) : Option (Int32 × Hp) :=
  cl (ds [(11, C_methodAt N l0 l1 h)] l0 h) fun x2 h1 =>
  if x2 = none then (cl (ds [(11, C_finds N l0 4 0 h1)] l0 h1) fun x7 h6 =>
  some (x7, h6)) else (io 6 [1, 2, 3, 6, 7, 10] x2 h1 fun x3 =>
  if x3 = 0 then (if l2 = 1 then (C_called_45 N l0 l2 l3 l4 x2 h1) else (if l2 = 2 then (C_called_45 N l0 l2 l3 l4 x2 h1) else (C_called_49 N l0 h1))) else (cl (ds [(11, C_finds N l0 9 0 h1)] l0 h1) fun x5 h4 =>
  some (x5, h4)))
def C_part_22 (N : Nat) (l0 : Option Nat) (h : Hp) : Option (Int32 × Hp) :=
  cl (ds [(11, C_finds N l0 4 0 h)] l0 h) fun x2 h1 =>
  some (x2, h1)
def C_part_50 (N : Nat) (l0 : Option Nat) (h : Hp) : Option (Int32 × Hp) :=
  cl (ds [(11, C_finds N l0 3 0 h)] l0 h) fun x2 h1 =>
  some (x2, h1)
def C_part_72 (N : Nat) (l0 : Option Nat) (h : Hp) : Option (Int32 × Hp) :=
  cl (ds [(11, C_finds N l0 2 0 h)] l0 h) fun x2 h1 =>
  some (x2, h1)
def C_part (N : Nat) (l0 : Option Nat) (l1 : Int32) (l2 : Int32) (h : Hp) : Option (Int32 × Hp) :=
  cl (ds [(11, C_methodAt N l0 l1 h)] l0 h) fun x2 h1 =>
  cl (ds [(11, C_methodAt N l0 l2 h1)] l0 h1) fun x4 h3 =>
  if x2 = none then (C_part_22 N l0 h3) else (if x4 = none then (C_part_22 N l0 h3) else (io 6 [1, 2, 3, 6, 7, 10] x2 h3 fun x5 =>
  if x5 = 0 then (C_part_50 N l0 h3) else (kc 6 x2 h3 <|
  io 6 [1, 2, 3, 6, 7, 10] x4 h3 fun x6 =>
  if x6 = 0 then (if l1 ≤ l2 then (C_part_72 N l0 h3) else (gi [6] 7 x2 h3 fun x7 =>
  if x7 < 6 then (gr [6] 6 x2 h3 fun x8 =>
  gi [6] 7 x2 h3 fun x9 =>
  sr 18 [1, 2, 3, 6, 7, 10] x8 x9 x4 h3 fun h10 =>
  gi [6] 7 x2 h10 fun x11 =>
  pi [6] 7 x2 (x11 + (1 : Int32)) h10 fun h12 =>
  gr [11] 8 l0 h12 fun x13 =>
  pz [5] 19 x13 1 h12 fun h14 =>
  gi [6] 7 x2 h14 fun x15 =>
  cl (ds [(11, C_finds N l0 0 x15 h14)] l0 h14) fun x17 h16 =>
  some (x17, h16)) else (C_part_72 N l0 h3))) else (C_part_50 N l0 h3))))
def C_isCall (N : Nat) (l0 : Int32) (h : Hp) : Option (Int32 × Hp) :=
  if l0 < 0 then (rz 0 h) else (if 3 ≤ l0 then (rz 0 h) else (rz 1 h))
def C_lead_30 (N : Nat) (l0 : Option Nat) (h : Hp) : Option (Int32 × Hp) :=
  cl (ds [(11, C_finds N l0 2 (-1) h)] l0 h) fun x2 h1 =>
  some (x2, h1)
def C_lead_80 (N : Nat) (l0 : Option Nat) (h : Hp) : Option (Int32 × Hp) :=
  cl (ds [(11, C_finds N l0 2 (-1) h)] l0 h) fun x2 h1 =>
  some (x2, h1)
def C_lead (N : Nat) (l0 : Option Nat) (l1 : Int32) (l2 : Int32) (l3 : Int32) (l4 : Int32) (h : Hp) : Option (Int32 × Hp) :=
  cl (ds [(11, C_methodAt N l0 l1 h)] l0 h) fun x2 h1 =>
  if x2 = none then (cl (ds [(11, C_finds N l0 4 (-1) h1)] l0 h1) fun x18 h17 =>
  some (x18, h17)) else (if l2 < 0 then (C_lead_30 N l0 h1) else (cl (C_isCall N l3 h1) fun x4 h3 =>
  if x4 = 0 then (C_lead_30 N l0 h3) else (gr [11] 9 l0 h3 fun x5 =>
  cl (ds [(1, Little_calledOf N x2 l2 l3 x5 h3), (2, Plain_calledOf N x2 l2 l3 x5 h3), (3, Principle_calledOf N x2 l2 l3 x5 h3), (6, Spliced_calledOf N x2 l2 l3 x5 h3), (7, Surprise_calledOf N x2 l2 l3 x5 h3), (10, Plain_calledOf N x2 l2 l3 x5 h3)] x2 h3) fun x7 h6 =>
  if x7 = 0 then (if l4 < 0 then (C_lead_80 N l0 h6) else (gr [11] 9 l0 h6 fun x8 =>
  gi [0] 1 x8 h6 fun x9 =>
  if l4 < x9 then (gr [11] 9 l0 h6 fun x10 =>
  gr [0] 0 x10 h6 fun x11 =>
  li 13 x11 l4 h6 fun x12 =>
  cl (ds [(11, C_finds N l0 0 x12 h6)] l0 h6) fun x14 h13 =>
  some (x14, h13)) else (C_lead_80 N l0 h6))) else (cl (ds [(11, C_finds N l0 x7 (-1) h6)] l0 h6) fun x16 h15 =>
  some (x16, h15)))))
def C_judge (N : Nat) (l0 : Option Nat) (l1 : Int32) (h : Hp) : Option (Int32 × Hp) :=
  cl (ds [(11, C_methodAt N l0 l1 h)] l0 h) fun x2 h1 =>
  if x2 = none then (cl (ds [(11, C_finds N l0 4 0 h1)] l0 h1) fun x10 h9 =>
  some (x10, h9)) else (cl (ds [(1, Little_judged N x2 h1), (2, Plain_judged N x2 h1), (3, Principle_judged N x2 h1), (6, Spliced_judged N x2 h1), (7, Surprise_judged N x2 h1), (10, Treble_judged N x2 h1)] x2 h1) fun x4 h3 =>
  if 0 ≤ x4 then (cl (ds [(11, C_finds N l0 0 x4 h3)] l0 h3) fun x6 h5 =>
  some (x6, h5)) else (cl (ds [(11, C_finds N l0 (-x4) 0 h3)] l0 h3) fun x8 h7 =>
  some (x8, h7)))
def C_findsRow (N : Nat) (l0 : Option Nat) (l1 : Int64) (h : Hp) : Option (Int64 × Hp) :=
  pi [11] 6 l0 0 h fun h1 =>
  some (l1, h1)
def C_leadHead (N : Nat) (l0 : Option Nat) (l1 : Int32) (l2 : Int32) (h : Hp) : Option (Int64 × Hp) :=
  cl (ds [(11, C_methodAt N l0 l1 h)] l0 h) fun x2 h1 =>
  if x2 = none then (cl (ds [(11, C_finds N l0 4 0 h1)] l0 h1) fun x21 h20 =>
  some ((Int32.toInt64 x21), h20)) else (cl (C_isCall N l2 h1) fun x4 h3 =>
  if x4 = 0 then (cl (ds [(11, C_finds N l0 2 0 h3)] l0 h3) fun x19 h18 =>
  some ((Int32.toInt64 x19), h18)) else (gr [11] 9 l0 h3 fun x5 =>
  cl (ds [(1, Little_calledOf N x2 0 l2 x5 h3), (2, Plain_calledOf N x2 0 l2 x5 h3), (3, Principle_calledOf N x2 0 l2 x5 h3), (6, Spliced_calledOf N x2 0 l2 x5 h3), (7, Surprise_calledOf N x2 0 l2 x5 h3), (10, Plain_calledOf N x2 0 l2 x5 h3)] x2 h3) fun x7 h6 =>
  if x7 = 0 then (gr [11] 9 l0 h6 fun x8 =>
  gi [11] 4 l0 h6 fun x9 =>
  cl (Rows_rounds N x9 h6) fun x11 h10 =>
  cl (ds [(0, Lead_rungFrom N x8 x11 h10)] x8 h10) fun x13 h12 =>
  cl (ds [(11, C_findsRow N l0 x13 h12)] l0 h12) fun x15 h14 =>
  some (x15, h14)) else (cl (ds [(11, C_finds N l0 x7 0 h6)] l0 h6) fun x17 h16 =>
  some ((Int32.toInt64 x17), h16))))
def C_course (N : Nat) (l0 : Option Nat) (l1 : Int32) (h : Hp) : Option (Int32 × Hp) :=
  cl (ds [(11, C_methodAt N l0 l1 h)] l0 h) fun x2 h1 =>
  if x2 = none then (cl (ds [(11, C_finds N l0 4 0 h1)] l0 h1) fun x20 h19 =>
  some (x20, h19)) else (cl (ds [(1, Plain_leadOf N x2 0 h1), (2, Plain_leadOf N x2 0 h1), (3, Principle_leadOf N x2 0 h1), (6, Spliced_leadOf N x2 0 h1), (7, Plain_leadOf N x2 0 h1), (10, Plain_leadOf N x2 0 h1)] x2 h1) fun x4 h3 =>
  gi [0] 2 x4 h3 fun x5 =>
  if x5 = 0 then (gi [11] 4 l0 h3 fun x6 =>
  cl (Rows_rounds N x6 h3) fun x8 h7 =>
  cl (ds [(0, Lead_rungFrom N x4 x8 h7)] x4 h7) fun x10 h9 =>
  gi [11] 4 l0 h9 fun x11 =>
  cl (Rows_orderOf N x10 x11 h9) fun x13 h12 =>
  cl (ds [(11, C_finds N l0 0 x13 h12)] l0 h12) fun x15 h14 =>
  some (x15, h14)) else (gi [0] 2 x4 h3 fun x16 =>
  cl (ds [(11, C_finds N l0 x16 0 h3)] l0 h3) fun x18 h17 =>
  some (x18, h17)))
def C_sharedRows_91 (N : Nat) (re67 : Option Nat → Option Nat → Int64 → Int32 → Int32 → Hp → Option (Int32 × Hp)) (l0 : Option Nat) (l1 : Option Nat) (l4 : Int64) (l6 : Int32) (l7 : Int32) (h : Hp) : Option (Int32 × Hp) :=
  gr [0] 0 l1 h fun x1 =>
  li 13 x1 l7 h fun x2 =>
  cl (Rows_changed N l4 x2 h) fun x4 h3 =>
  nm (l7 + 1) fun x5 =>
  re67 l0 l1 x4 l6 x5 h3
def C_sharedRows_67 (N : Nat) : Nat → Option Nat → Option Nat → Int64 → Int32 → Int32 → Hp → Option (Int32 × Hp)
  | 0, _, _, _, _, _, _ => none
  | n + 1, l0, l1, l4, l6, l7, h =>
  gi [0] 1 l1 h fun x1 =>
  if x1 ≤ l7 then (some (l6, h)) else (gr [11] 10 l0 h fun x2 =>
  cl (ds [(4, Rows_indexOf N x2 l4 h)] x2 h) fun x4 h3 =>
  if x4 < 0 then (C_sharedRows_91 N (C_sharedRows_67 N n) l0 l1 l4 l6 l7 h3) else (nm (l6 + 1) fun x5 =>
  C_sharedRows_91 N (C_sharedRows_67 N n) l0 l1 l4 x5 l7 h3))
def C_sharedRows_14 (N : Nat) : Nat → Option Nat → Option Nat → Int64 → Int32 → Hp → Option (Int32 × Hp)
  | 0, _, _, _, _, _ => none
  | n + 1, l0, l1, l4, l6, h =>
  gi [0] 1 l1 h fun x1 =>
  if x1 ≤ l6 then (gi [11] 4 l0 h fun x2 =>
  cl (Rows_rounds N x2 h) fun x4 h3 =>
  C_sharedRows_67 N N l0 l1 x4 0 0 h3) else (gr [11] 10 l0 h fun x5 =>
  cl (ds [(4, Rows_add N x5 l4 h)] x5 h) fun _ h6 =>
  gr [0] 0 l1 h6 fun x7 =>
  li 13 x7 l6 h6 fun x8 =>
  cl (Rows_changed N l4 x8 h6) fun x10 h9 =>
  nm (l6 + 1) fun x11 =>
  C_sharedRows_14 N n l0 l1 x10 x11 h9)
def C_sharedRows (N : Nat) (l0 : Option Nat) (l1 : Option Nat) (l2 : Int64) (h : Hp) : Option (Int32 × Hp) :=
  gr [11] 10 l0 h fun x1 =>
  cl (ds [(4, Rows_keepFirst N x1 0 h)] x1 h) fun _ h2 =>
  C_sharedRows_14 N N l0 l1 l2 0 h2
def C_falseness (N : Nat) (l0 : Option Nat) (l1 : Int32) (l2 : Int64) (h : Hp) : Option (Int32 × Hp) :=
  cl (ds [(11, C_methodAt N l0 l1 h)] l0 h) fun x2 h1 =>
  if x2 = none then (cl (ds [(11, C_finds N l0 4 0 h1)] l0 h1) fun x19 h18 =>
  some (x19, h18)) else (gi [11] 4 l0 h1 fun x3 =>
  cl (Rows_isRow N l2 x3 h1) fun x5 h4 =>
  if x5 = 0 then (cl (ds [(11, C_finds N l0 8 0 h4)] l0 h4) fun x17 h16 =>
  some (x17, h16)) else (cl (ds [(1, Plain_leadOf N x2 0 h4), (2, Plain_leadOf N x2 0 h4), (3, Principle_leadOf N x2 0 h4), (6, Spliced_leadOf N x2 0 h4), (7, Plain_leadOf N x2 0 h4), (10, Plain_leadOf N x2 0 h4)] x2 h4) fun x7 h6 =>
  gi [0] 2 x7 h6 fun x8 =>
  if x8 = 0 then (cl (ds [(11, C_sharedRows N l0 x7 l2 h6)] l0 h6) fun x10 h9 =>
  cl (ds [(11, C_finds N l0 0 x10 h9)] l0 h9) fun x12 h11 =>
  some (x12, h11)) else (gi [0] 2 x7 h6 fun x13 =>
  cl (ds [(11, C_finds N l0 x13 0 h6)] l0 h6) fun x15 h14 =>
  some (x15, h14))))
def C_hasOwnBody_27 (N : Nat) (l0 : Int32) (l1 : Int32) (u0 : Int32) (h : Hp) : Option (Int32 × Hp) :=
  if l1 = 0 then (if u0 = 0 then (rz 1 h) else (rz 0 h)) else (if l0 = 2 then (rz 0 h) else (rz 1 h))
def C_hasOwnBody_22 (N : Nat) (l0 : Int32) (l1 : Int32) (h : Hp) : Option (Int32 × Hp) :=
  C_hasOwnBody_27 N l0 l1 1 h
def C_hasOwnBody (N : Nat) (l0 : Int32) (l1 : Int32) (h : Hp) : Option (Int32 × Hp) :=
  if l1 = 2 then (rz 1 h) else (if l0 = 1 then (C_hasOwnBody_22 N l0 l1 h) else (if l0 = 2 then (C_hasOwnBody_22 N l0 l1 h) else (if l0 = 3 then (C_hasOwnBody_22 N l0 l1 h) else (C_hasOwnBody_27 N l0 l1 0 h))))
def C_trace (N : Nat) (l0 : Option Nat) (l1 : Int32) (l2 : Int32) (h : Hp) : Option (Int32 × Hp) :=
  if l1 < 0 then (some ((-1), h)) else (if 6 ≤ l1 then (some ((-1), h)) else (if l2 < 0 then (some ((-1), h)) else (if 3 ≤ l2 then (some ((-1), h)) else (cl (C_hasOwnBody N l1 l2 h) fun x2 h1 =>
  if x2 = 0 then (some ((-1), h1)) else (gr [11] 1 l0 h1 fun x3 =>
  li 13 x3 ((l1 * (3 : Int32)) + l2) h1 fun x4 =>
  some (x4, h1))))))
def C_change_22 (N : Nat) (l0 : Option Nat) (h : Hp) : Option (Int64 × Hp) :=
  cl (ds [(11, C_finds N l0 8 0 h)] l0 h) fun x2 h1 =>
  some ((Int32.toInt64 x2), h1)
def C_change (N : Nat) (l0 : Option Nat) (l1 : Int64) (l3 : Int32) (h : Hp) : Option (Int64 × Hp) :=
  gi [11] 4 l0 h fun x1 =>
  cl (Rows_isRow N l1 x1 h) fun x3 h2 =>
  if x3 = 0 then (C_change_22 N l0 h2) else (gi [11] 4 l0 h2 fun x4 =>
  cl (Rows_isChange N l3 x4 h2) fun x6 h5 =>
  if x6 = 0 then (C_change_22 N l0 h5) else (cl (Rows_changed N l1 l3 h5) fun x8 h7 =>
  cl (ds [(11, C_findsRow N l0 x8 h7)] l0 h7) fun x10 h9 =>
  some (x10, h9)))
def C_number (N : Nat) (l0 : Option Nat) (l1 : Int64) (h : Hp) : Option (Int32 × Hp) :=
  gi [11] 4 l0 h fun x1 =>
  cl (Rows_isRow N l1 x1 h) fun x3 h2 =>
  if x3 = 0 then (cl (ds [(11, C_finds N l0 8 (-1) h2)] l0 h2) fun x10 h9 =>
  some (x10, h9)) else (gi [11] 4 l0 h2 fun x4 =>
  cl (Rows_numberOf N l1 x4 h2) fun x6 h5 =>
  cl (ds [(11, C_finds N l0 0 x6 h5)] l0 h5) fun x8 h7 =>
  some (x8, h7))
def C_ofNumber (N : Nat) (l0 : Option Nat) (l1 : Int32) (h : Hp) : Option (Int64 × Hp) :=
  gi [11] 4 l0 h fun x1 =>
  cl (Rows_rowOf N l1 x1 h) fun x3 h2 =>
  if (lg_cmp x3 (0 : Int64)) = 0 then (cl (ds [(11, C_finds N l0 2 0 h2)] l0 h2) fun x7 h6 =>
  some ((Int32.toInt64 x7), h6)) else (cl (ds [(11, C_findsRow N l0 x3 h2)] l0 h2) fun x5 h4 =>
  some (x5, h4))
def C_product_22 (N : Nat) (l0 : Option Nat) (h : Hp) : Option (Int64 × Hp) :=
  cl (ds [(11, C_finds N l0 8 0 h)] l0 h) fun x2 h1 =>
  some ((Int32.toInt64 x2), h1)
def C_product (N : Nat) (l0 : Option Nat) (l1 : Int64) (l3 : Int64) (h : Hp) : Option (Int64 × Hp) :=
  gi [11] 4 l0 h fun x1 =>
  cl (Rows_isRow N l1 x1 h) fun x3 h2 =>
  if x3 = 0 then (C_product_22 N l0 h2) else (gi [11] 4 l0 h2 fun x4 =>
  cl (Rows_isRow N l3 x4 h2) fun x6 h5 =>
  if x6 = 0 then (C_product_22 N l0 h5) else (gi [11] 4 l0 h5 fun x7 =>
  cl (Rows_times N l1 l3 x7 h5) fun x9 h8 =>
  cl (ds [(11, C_findsRow N l0 x9 h8)] l0 h8) fun x11 h10 =>
  some (x11, h10)))
def C_inverse (N : Nat) (l0 : Option Nat) (l1 : Int64) (h : Hp) : Option (Int64 × Hp) :=
  gi [11] 4 l0 h fun x1 =>
  cl (Rows_isRow N l1 x1 h) fun x3 h2 =>
  if x3 = 0 then (cl (ds [(11, C_finds N l0 8 0 h2)] l0 h2) fun x10 h9 =>
  some ((Int32.toInt64 x10), h9)) else (gi [11] 4 l0 h2 fun x4 =>
  cl (Rows_inverseOf N l1 x4 h2) fun x6 h5 =>
  cl (ds [(11, C_findsRow N l0 x6 h5)] l0 h5) fun x8 h7 =>
  some (x8, h7))
def C_order (N : Nat) (l0 : Option Nat) (l1 : Int64) (h : Hp) : Option (Int32 × Hp) :=
  gi [11] 4 l0 h fun x1 =>
  cl (Rows_isRow N l1 x1 h) fun x3 h2 =>
  if x3 = 0 then (cl (ds [(11, C_finds N l0 8 0 h2)] l0 h2) fun x10 h9 =>
  some (x10, h9)) else (gi [11] 4 l0 h2 fun x4 =>
  cl (Rows_orderOf N l1 x4 h2) fun x6 h5 =>
  cl (ds [(11, C_finds N l0 0 x6 h5)] l0 h5) fun x8 h7 =>
  some (x8, h7))
def C_touch_36 (N : Nat) (l0 : Option Nat) (h : Hp) : Option (Int32 × Hp) :=
  cl (ds [(11, C_finds N l0 2 0 h)] l0 h) fun x2 h1 =>
  some (x2, h1)
def C_touch (N : Nat) (l0 : Option Nat) (l1 : Int32) (l2 : Int32) (h : Hp) : Option (Int32 × Hp) :=
  cl (ds [(11, C_methodAt N l0 l1 h)] l0 h) fun x2 h1 =>
  if x2 = none then (cl (ds [(11, C_finds N l0 4 0 h1)] l0 h1) fun x14 h13 =>
  some (x14, h13)) else (cl (C_isCall N l2 h1) fun x4 h3 =>
  if x4 = 0 then (C_touch_36 N l0 h3) else (gr [11] 7 l0 h3 fun x5 =>
  gi [9] 2 x5 h3 fun x6 =>
  if x6 < 100 then (gr [11] 7 l0 h3 fun x7 =>
  cl (ds [(9, Touch_addItem N x7 x2 l2 h3)] x7 h3) fun _ h8 =>
  gr [11] 7 l0 h8 fun x9 =>
  gi [9] 2 x9 h8 fun x10 =>
  cl (ds [(11, C_finds N l0 0 x10 h8)] l0 h8) fun x12 h11 =>
  some (x12, h11)) else (C_touch_36 N l0 h3)))
def C_clear (N : Nat) (l0 : Option Nat) (h : Hp) : Option (Int32 × Hp) :=
  gr [11] 7 l0 h fun x1 =>
  pi [9] 2 x1 0 h fun h2 =>
  gr [11] 7 l0 h2 fun x3 =>
  cl (ds [(9, Touch_beginAnew N x3 h2)] x3 h2) fun _ h4 =>
  some (1, h4)
def C_ring (N : Nat) (l0 : Option Nat) (h : Hp) : Option (Int32 × Hp) :=
  gr [11] 7 l0 h fun x1 =>
  cl (ds [(9, Touch_beginAnew N x1 h)] x1 h) fun _ h2 =>
  some (1, h2)
def C_on_11 (N : Nat) (l0 : Option Nat) (h : Hp) : Option (Int32 × Hp) :=
  gr [11] 7 l0 h fun x1 =>
  gr [9] 5 x1 h fun x2 =>
  gi [4] 3 x2 h fun x3 =>
  cl (ds [(11, C_finds N l0 2 (x3 - (1 : Int32)) h)] l0 h) fun x5 h4 =>
  some (x5, h4)
def C_on (N : Nat) (l0 : Option Nat) (l1 : Int32) (h : Hp) : Option (Int32 × Hp) :=
  if l1 < 0 then (C_on_11 N l0 h) else (if l1 ≤ 1000 then (gr [11] 7 l0 h fun x1 =>
  cl (ds [(9, Touch_ringOn N x1 l1 h)] x1 h) fun x3 h2 =>
  gr [11] 7 l0 h2 fun x4 =>
  gr [9] 5 x4 h2 fun x5 =>
  gi [4] 3 x5 h2 fun x6 =>
  cl (ds [(11, C_finds N l0 x3 (x6 - (1 : Int32)) h2)] l0 h2) fun x8 h7 =>
  some (x8, h7)) else (C_on_11 N l0 h))
def C_at (N : Nat) (l0 : Option Nat) (l1 : Int32) (h : Hp) : Option (Int64 × Hp) :=
  gr [11] 7 l0 h fun x1 =>
  gr [9] 5 x1 h fun x2 =>
  cl (ds [(4, Rows_codeAt N x2 l1 h)] x2 h) fun x4 h3 =>
  some (x4, h3)
def C_round (N : Nat) (l0 : Option Nat) (h : Hp) : Option (Int32 × Hp) :=
  gr [11] 7 l0 h fun x1 =>
  gi [9] 10 x1 h fun x2 =>
  some (x2, h)
def C_falseAt (N : Nat) (l0 : Option Nat) (h : Hp) : Option (Int32 × Hp) :=
  gr [11] 7 l0 h fun x1 =>
  gi [9] 11 x1 h fun x2 =>
  some (x2, h)
def C_proof (N : Nat) (l0 : Option Nat) (h : Hp) : Option (Int32 × Hp) :=
  gr [11] 7 l0 h fun x1 =>
  cl (ds [(9, Touch_makeProof N x1 h)] x1 h) fun x3 h2 =>
  some (x3, h2)
def C_proofAt (N : Nat) (l0 : Option Nat) (l1 : Int32) (h : Hp) : Option (Int32 × Hp) :=
  if l1 < 0 then (some ((-1), h)) else (gr [11] 7 l0 h fun x1 =>
  gi [9] 15 x1 h fun x2 =>
  if l1 < x2 then (gr [11] 7 l0 h fun x3 =>
  gr [9] 14 x3 h fun x4 =>
  li 13 x4 l1 h fun x5 =>
  some (x5, h)) else (some ((-1), h)))
def C_forge (N : Nat) (l0 : Option Nat) (l1 : Int32) (l2 : Int32) (h : Hp) : Option (Int32 × Hp) :=
  if l1 < 0 then (some ((-1), h)) else (gr [11] 7 l0 h fun x1 =>
  gi [9] 15 x1 h fun x2 =>
  if l1 < x2 then (gr [11] 7 l0 h fun x3 =>
  gr [9] 14 x3 h fun x4 =>
  li 13 x4 l1 h fun x5 =>
  gr [11] 7 l0 h fun x6 =>
  gr [9] 14 x6 h fun x7 =>
  si x7 l1 l2 h fun h8 =>
  some (x5, h8)) else (some ((-1), h)))
def C_check (N : Nat) (l0 : Option Nat) (h : Hp) : Option (Int32 × Hp) :=
  gr [11] 7 l0 h fun x1 =>
  cl (ds [(9, Touch_isProven N x1 h)] x1 h) fun x3 h2 =>
  rz x3 h2
def C_ringer_43 (N : Nat) (l0 : Option Nat) (u0 : Option Nat) (u1 : Int32) (h : Hp) : Option (Int32 × Hp) :=
  pi [11] 5 u0 u1 h fun h1 =>
  gi [11] 5 l0 h1 fun x2 =>
  cl (Jk_bitCount N x2 h1) fun x4 h3 =>
  some (x4, h3)
def C_ringer (N : Nat) (l0 : Option Nat) (l1 : Int32) (l2 : Int32) (h : Hp) : Option (Int32 × Hp) :=
  if l1 < 1 then (some ((-1), h)) else (gi [11] 4 l0 h fun x1 =>
  if l1 ≤ x1 then (nm ((1 : Int32) <<< ((l1 - (1 : Int32)) &&& 31)) fun x2 =>
  if l2 = 0 then (gi [11] 5 l0 h fun x3 =>
  C_ringer_43 N l0 l0 (x3 &&& (x2 ^^^ (-1 : Int32))) h) else (gi [11] 5 l0 h fun x4 =>
  C_ringer_43 N l0 l0 (x4 ||| x2) h)) else (some ((-1), h)))
def C_heard (N : Nat) (l0 : Option Nat) (l1 : Int32) (h : Hp) : Option (Int64 × Hp) :=
  gr [11] 7 l0 h fun x1 =>
  gr [9] 5 x1 h fun x2 =>
  cl (ds [(4, Rows_codeAt N x2 l1 h)] x2 h) fun x4 h3 =>
  gi [11] 5 l0 h3 fun x5 =>
  cl (Rows_closedUp N x4 x5 h3) fun x7 h6 =>
  some (x7, h6)
def C_fits (N : Nat) (l0 : Option Nat) (l1 : Int64) (l3 : Int64) (h : Hp) : Option (Int32 × Hp) :=
  gi [11] 4 l0 h fun x1 =>
  cl (Rows_isRow N l1 x1 h) fun x3 h2 =>
  if x3 = 0 then (rz 0 h2) else (gi [11] 4 l0 h2 fun x4 =>
  cl (Rows_isPattern N l3 x4 h2) fun x6 h5 =>
  if x6 = 0 then (rz 0 h5) else (cl (Rows_toldDigits N l3 h5) fun x8 h7 =>
  if (lg_cmp (l1 &&& x8) l3) = 0 then (rz 1 h7) else (rz 0 h7)))
def C_music (N : Nat) (l0 : Option Nat) (l1 : Int64) (h : Hp) : Option (Int32 × Hp) :=
  gi [11] 4 l0 h fun x1 =>
  cl (Rows_isPattern N l1 x1 h) fun x3 h2 =>
  if x3 = 0 then (some ((-1), h2)) else (gr [11] 7 l0 h2 fun x4 =>
  gr [9] 5 x4 h2 fun x5 =>
  cl (ds [(4, Rows_countFitting N x5 l1 h2)] x5 h2) fun x7 h6 =>
  some (x7, h6))
def C_allow_78 (N : Nat) (re41 : Option Nat → Int32 → Int32 → Hp → Option (Int32 × Hp)) (l0 : Option Nat) (l5 : Int32) (u0 : Int32) (u1 : Int32) (h : Hp) : Option (Int32 × Hp) :=
  nm (u0 + u1) fun x1 =>
  nm (l5 + 1) fun x2 =>
  re41 l0 x1 x2 h
def C_allow_41 (N : Nat) : Nat → Option Nat → Int32 → Int32 → Hp → Option (Int32 × Hp)
  | 0, _, _, _, _ => none
  | n + 1, l0, l4, l5, h =>
  gi [11] 3 l0 h fun x1 =>
  if x1 ≤ l5 then (some (l4, h)) else (gr [11] 2 l0 h fun x2 =>
  lr 18 x2 l5 h fun x3 =>
  if x3 = none then (C_allow_78 N (C_allow_41 N n) l0 l5 l4 0 h) else (gi [1, 2, 3, 6, 7, 10] 5 x3 h fun x4 =>
  cl (Jk_bitCount N x4 h) fun x6 h5 =>
  C_allow_78 N (C_allow_41 N n) l0 l5 l4 x6 h5))
def C_allow (N : Nat) (l0 : Option Nat) (l1 : Int32) (l2 : Int32) (h : Hp) : Option (Int32 × Hp) :=
  cl (ds [(11, C_methodAt N l0 l1 h)] l0 h) fun x2 h1 =>
  if x2 = none then (some ((-1), h1)) else (if l2 < 0 then (some ((-1), h1)) else (if l2 < 8 then (pi [1, 2, 3, 6, 7, 10] 5 x2 l2 h1 fun h3 =>
  gr [11] 8 l0 h3 fun x4 =>
  pz [5] 19 x4 1 h3 fun h5 =>
  C_allow_41 N N l0 0 0 h5) else (some ((-1), h1))))
def C_search_112 (N : Nat) (re60 : Option Nat → Int32 → Int32 → Hp → Option (Int32 × Hp)) (l0 : Option Nat) (l5 : Int32) (l6 : Int32) (h : Hp) : Option (Int32 × Hp) :=
  nm (l6 + 1) fun x1 =>
  re60 l0 l5 x1 h
def C_search_60 (N : Nat) : Nat → Option Nat → Int32 → Int32 → Hp → Option (Int32 × Hp)
  | 0, _, _, _, _ => none
  | n + 1, l0, l5, l6, h =>
  gi [11] 3 l0 h fun x1 =>
  if (x1 * (3 : Int32)) ≤ l6 then (gr [11] 8 l0 h fun x2 =>
  cl (ds [(5, Search_seek N x2 l5 h)] x2 h) fun x4 h3 =>
  some (x4, h3)) else (nz 3 <|
  cl (ds [(11, C_methodAt N l0 (l6 / 3) h)] l0 h) fun x6 h5 =>
  if x6 = none then (C_search_112 N (C_search_60 N n) l0 l5 l6 h5) else (gi [1, 2, 3, 6, 7, 10] 5 x6 h5 fun x7 =>
  nz 3 <|
  if ((x7 >>> ((l6 - l6 / 3 * 3) &&& 31)) &&& (1 : Int32)) = 0 then (C_search_112 N (C_search_60 N n) l0 l5 l6 h5) else (gr [11] 8 l0 h5 fun x8 =>
  cl (ds [(5, Search_offer N x8 x6 l6 h5)] x8 h5) fun _ h9 =>
  C_search_112 N (C_search_60 N n) l0 l5 l6 h9)))
def C_search (N : Nat) (l0 : Option Nat) (l1 : Int32) (l2 : Int32) (l3 : Int64) (l5 : Int32) (h : Hp) : Option (Int32 × Hp) :=
  if l1 < 1 then (some ((-1), h)) else (if 12 < l1 then (some ((-1), h)) else (if 0 ≤ l2 then (gi [11] 4 l0 h fun x1 =>
  cl (Rows_isPattern N l3 x1 h) fun x3 h2 =>
  if x3 = 0 then (some ((-1), h2)) else (if l5 < 0 then (some ((-1), h2)) else (if l5 ≤ 1000 then (gr [11] 8 l0 h2 fun x4 =>
  gi [11] 4 l0 h2 fun x5 =>
  cl (ds [(5, Search_begin N x4 x5 l1 l2 l3 h2)] x4 h2) fun _ h6 =>
  C_search_60 N N l0 l5 0 h6) else (some ((-1), h2))))) else (some ((-1), h))))
def C_goOn (N : Nat) (l0 : Option Nat) (l1 : Int32) (h : Hp) : Option (Int32 × Hp) :=
  gr [11] 8 l0 h fun x1 =>
  cl (ds [(5, Search_isThere N x1 h)] x1 h) fun x3 h2 =>
  if x3 = 0 then (some ((-1), h2)) else (if l1 < 0 then (some ((-1), h2)) else (if l1 ≤ 1000 then (gr [11] 8 l0 h2 fun x4 =>
  gi [5] 19 x4 h2 fun x5 =>
  if x5 = 0 then (gr [11] 8 l0 h2 fun x6 =>
  cl (ds [(5, Search_seek N x6 l1 h2)] x6 h2) fun x8 h7 =>
  some (x8, h7)) else (some ((-2), h2))) else (some ((-1), h2))))
def C_found (N : Nat) (l0 : Option Nat) (l1 : Int32) (h : Hp) : Option (Int32 × Hp) :=
  gr [11] 8 l0 h fun x1 =>
  cl (ds [(5, Search_itemFound N x1 l1 h)] x1 h) fun x3 h2 =>
  some (x3, h2)
def C_count (N : Nat) (l0 : Option Nat) (l1 : Int32) (h : Hp) : Option (Int32 × Hp) :=
  sw l1 [(0, gi [11] 4 l0 h fun x1 =>
  some (x1, h)), (1, gi [11] 3 l0 h fun x2 =>
  some (x2, h)), (2, gr [11] 7 l0 h fun x3 =>
  gi [9] 2 x3 h fun x4 =>
  some (x4, h)), (3, gr [11] 0 l0 h fun x5 =>
  gi [8] 1 x5 h fun x6 =>
  some (x6, h)), (4, gr [11] 7 l0 h fun x7 =>
  gi [9] 15 x7 h fun x8 =>
  some (x8, h)), (5, gr [11] 8 l0 h fun x9 =>
  gi [5] 18 x9 h fun x10 =>
  some (x10, h)), (6, gi [11] 6 l0 h fun x11 =>
  some (x11, h))] (some ((-1), h))
def M_rounds_7 (N : Nat) : Nat → Int64 → Int32 → Hp → Option (Int64 × Hp)
  | 0, _, _, _ => none
  | n + 1, l1, l3, h =>
  if l3 < 1 then (some (l1, h)) else (nm (((16 : Int64) * l1) + (Int32.toInt64 l3)) fun x1 =>
  nm (l3 + (-1)) fun x2 =>
  M_rounds_7 N n x1 x2 h)
def M_rounds (N : Nat) (l0 : Option Nat) (h : Hp) : Option (Int64 × Hp) :=
  gi [12] 2 l0 h fun x1 =>
  M_rounds_7 N N 0 x1 h
def M_anew (N : Nat) (l0 : Option Nat) (h : Hp) : Option (Unit × Hp) :=
  gr [12] 20 l0 h fun x1 =>
  cl (ds [(12, M_rounds N l0 h)] l0 h) fun x3 h2 =>
  sl x1 0 x3 h2 fun h4 =>
  pi [12] 21 l0 1 h4 fun h5 =>
  pi [12] 22 l0 0 h5 fun h6 =>
  pi [12] 24 l0 0 h6 fun h7 =>
  pi [12] 25 l0 0 h7 fun h8 =>
  pz [12] 26 l0 0 h8 fun h9 =>
  pi [12] 27 l0 (-1) h9 fun h10 =>
  some ((), h10)
def M_begin_22 (N : Nat) : Nat → Option Nat → Int32 → Hp → Option (Unit × Hp)
  | 0, _, _, _ => none
  | n + 1, l0, l2, h =>
  if 13 ≤ l2 then (pz [12] 33 l0 0 h fun h1 =>
  pz [12] 34 l0 0 h1 fun h2 =>
  pi [12] 39 l0 0 h2 fun h3 =>
  pi [12] 53 l0 0 h3 fun h4 =>
  cl (ds [(12, M_anew N l0 h4)] l0 h4) fun _ h5 =>
  some ((), h5)) else (gr [12] 31 l0 h fun x6 =>
  sz x6 l2 0 h fun h7 =>
  nm (l2 + 1) fun x8 =>
  M_begin_22 N n l0 x8 h7)
def M_begin (N : Nat) (l0 : Option Nat) (l1 : Int32) (h : Hp) : Option (Unit × Hp) :=
  pi [12] 2 l0 l1 h fun h1 =>
  pi [12] 5 l0 0 h1 fun h2 =>
  pi [12] 19 l0 0 h2 fun h3 =>
  pi [12] 30 l0 (-1) h3 fun h4 =>
  M_begin_22 N N l0 0 h4
def M_init (N : Nat) (l0 : Option Nat) (h : Hp) : Option (Unit × Hp) :=
  kn l0 <|
  na 13 300 h fun x1 h2 =>
  pr [12] 0 l0 x1 h2 fun h3 =>
  na 13 18 h3 fun x4 h5 =>
  pr [12] 4 l0 x4 h5 fun h6 =>
  na 13 30 h6 fun x7 h8 =>
  pr [12] 6 l0 x7 h8 fun h9 =>
  na 13 30 h9 fun x10 h11 =>
  pr [12] 7 l0 x10 h11 fun h12 =>
  na 13 3000 h12 fun x13 h14 =>
  pr [12] 8 l0 x13 h14 fun h15 =>
  na 13 90 h15 fun x16 h17 =>
  pr [12] 9 l0 x16 h17 fun h18 =>
  na 13 90 h18 fun x19 h20 =>
  pr [12] 10 l0 x19 h20 fun h21 =>
  na 13 30 h21 fun x22 h23 =>
  pr [12] 11 l0 x22 h23 fun h24 =>
  na 13 180 h24 fun x25 h26 =>
  pr [12] 12 l0 x25 h26 fun h27 =>
  na 13 100 h27 fun x28 h29 =>
  pr [12] 13 l0 x28 h29 fun h30 =>
  pz [12] 16 l0 1 h30 fun h31 =>
  na 13 100 h31 fun x32 h33 =>
  pr [12] 17 l0 x32 h33 fun h34 =>
  na 13 100 h34 fun x35 h36 =>
  pr [12] 18 l0 x35 h36 fun h37 =>
  na 14 2001 h37 fun x38 h39 =>
  pr [12] 20 l0 x38 h39 fun h40 =>
  na 13 100 h40 fun x41 h42 =>
  pr [12] 23 l0 x41 h42 fun h43 =>
  na 13 2001 h43 fun x44 h45 =>
  pr [12] 28 l0 x44 h45 fun h46 =>
  na 13 2001 h46 fun x47 h48 =>
  pr [12] 29 l0 x47 h48 fun h49 =>
  na 16 13 h49 fun x50 h51 =>
  pr [12] 31 l0 x50 h51 fun h52 =>
  na 13 30 h52 fun x53 h54 =>
  pr [12] 32 l0 x53 h54 fun h55 =>
  na 13 90 h55 fun x56 h57 =>
  pr [12] 40 l0 x56 h57 fun h58 =>
  na 15 1080 h58 fun x59 h60 =>
  pr [12] 42 l0 x59 h60 fun h61 =>
  na 13 12 h61 fun x62 h63 =>
  pr [12] 45 l0 x62 h63 fun h64 =>
  na 13 12 h64 fun x65 h66 =>
  pr [12] 46 l0 x65 h66 fun h67 =>
  na 14 1201 h67 fun x68 h69 =>
  pr [12] 47 l0 x68 h69 fun h70 =>
  na 13 100 h70 fun x71 h72 =>
  pr [12] 49 l0 x71 h72 fun h73 =>
  na 13 12 h73 fun x74 h75 =>
  pr [12] 52 l0 x74 h75 fun h76 =>
  na 13 600 h76 fun x77 h78 =>
  pr [12] 54 l0 x77 h78 fun h79 =>
  na 13 13 h79 fun x80 h81 =>
  pr [12] 57 l0 x80 h81 fun h82 =>
  na 14 100 h82 fun x83 h84 =>
  pr [12] 58 l0 x83 h84 fun h85 =>
  cl (ds [(12, M_begin N l0 6 h85)] l0 h85) fun _ h86 =>
  some ((), h86)
def M_bell (N : Nat) (l0 : Int64) (l2 : Int32) (h : Hp) : Option (Int32 × Hp) :=
  some (((Int64.toInt32 (l0 >>> (Int32.toInt64 ((4 : Int32) * (l2 - (1 : Int32))) &&& 63))) &&& (15 : Int32)), h)
def M_isRow_26 (N : Nat) : Nat → Option Nat → Int64 → Int32 → Int32 → Hp → Option (Int32 × Hp)
  | 0, _, _, _, _, _ => none
  | n + 1, l0, l1, l3, l4, h =>
  gi [12] 2 l0 h fun x1 =>
  if x1 < l4 then (rz 1 h) else (cl (M_bell N l1 l4 h) fun x3 h2 =>
  if x3 < 1 then (rz 0 h2) else (gi [12] 2 l0 h2 fun x4 =>
  if x4 < x3 then (rz 0 h2) else (if ((l3 >>> (x3 &&& 31)) &&& (1 : Int32)) = 1 then (rz 0 h2) else (nm (l3 ||| ((1 : Int32) <<< (x3 &&& 31))) fun x5 =>
  nm (l4 + 1) fun x6 =>
  M_isRow_26 N n l0 l1 x5 x6 h2))))
def M_isRow (N : Nat) (l0 : Option Nat) (l1 : Int64) (h : Hp) : Option (Int32 × Hp) :=
  if (lg_cmp l1 (0 : Int64)) < 0 then (rz 0 h) else (gi [12] 2 l0 h fun x1 =>
  if (lg_cmp (l1 >>> (Int32.toInt64 ((4 : Int32) * x1) &&& 63)) (0 : Int64)) = 0 then (M_isRow_26 N N l0 l1 0 1 h) else (rz 0 h))
def M_isChange (N : Nat) (l0 : Option Nat) (l1 : Int32) (h : Hp) : Option (Int32 × Hp) :=
  if l1 < 0 then (rz 0 h) else (gi [12] 2 l0 h fun x1 =>
  if (l1 >>> ((x1 - (1 : Int32)) &&& 31)) = 0 then (if (l1 &&& (l1 <<< ((1 : Int32) &&& 31))) = 0 then (rz 1 h) else (rz 0 h)) else (rz 0 h))
def M_done_76 (N : Nat) (re5 : Int32 → Int64 → Int32 → Hp → Option (Int64 × Hp)) (l2 : Int32) (l3 : Int64) (l5 : Int32) (h : Hp) : Option (Int64 × Hp) :=
  nm (l5 + 1) fun x1 =>
  re5 l2 l3 x1 h
def M_done_5 (N : Nat) : Nat → Int32 → Int64 → Int32 → Hp → Option (Int64 × Hp)
  | 0, _, _, _, _ => none
  | n + 1, l2, l3, l5, h =>
  if (l2 >>> ((l5 - (1 : Int32)) &&& 31)) = 0 then (some (l3, h)) else (if ((l2 >>> ((l5 - (1 : Int32)) &&& 31)) &&& (1 : Int32)) = 1 then (cl (M_bell N l3 l5 h) fun x2 h1 =>
  nm (Int32.toInt64 x2) fun x3 =>
  cl (M_bell N l3 (l5 + (1 : Int32)) h1) fun x5 h4 =>
  nm (Int32.toInt64 x5) fun x6 =>
  nm (l3 + (((x6 - x3) * ((1 : Int64) <<< (Int32.toInt64 ((4 : Int32) * (l5 - (1 : Int32))) &&& 63))) + ((x3 - x6) * ((1 : Int64) <<< (Int32.toInt64 ((4 : Int32) * l5) &&& 63))))) fun x7 =>
  M_done_76 N (M_done_5 N n) l2 x7 l5 h4) else (M_done_76 N (M_done_5 N n) l2 l3 l5 h))
def M_done (N : Nat) (l0 : Int64) (l2 : Int32) (h : Hp) : Option (Int64 × Hp) :=
  M_done_5 N N l2 l0 1 h
def M_numberOf_54 (N : Nat) (re5 : Option Nat → Int64 → Int32 → Int32 → Hp → Option (Int32 × Hp)) (re23 : Option Nat → Int64 → Int32 → Int32 → Int32 → Int32 → Hp → Option (Int32 × Hp)) (l0 : Option Nat) (l1 : Int64) (l3 : Int32) (l4 : Int32) (l6 : Int32) (u0 : Int32) (u1 : Int32) (h : Hp) : Option (Int32 × Hp) :=
  nm (u0 + u1) fun x1 =>
  nm (l6 + 1) fun x2 =>
  re23 l0 l1 l3 l4 x1 x2 h
def M_numberOf_23 (N : Nat) (re5 : Option Nat → Int64 → Int32 → Int32 → Hp → Option (Int32 × Hp)) : Nat → Option Nat → Int64 → Int32 → Int32 → Int32 → Int32 → Hp → Option (Int32 × Hp)
  | 0, _, _, _, _, _, _, _ => none
  | n + 1, l0, l1, l3, l4, l5, l6, h =>
  gi [12] 2 l0 h fun x1 =>
  if x1 < l6 then (gi [12] 2 l0 h fun x2 =>
  nm ((l3 * ((x2 - l4) + (1 : Int32))) + l5) fun x3 =>
  nm (l4 + 1) fun x4 =>
  re5 l0 l1 x3 x4 h) else (cl (M_bell N l1 l6 h) fun x6 h5 =>
  cl (M_bell N l1 l4 h5) fun x8 h7 =>
  if x8 ≤ x6 then (M_numberOf_54 N re5 (M_numberOf_23 N re5 n) l0 l1 l3 l4 l6 l5 0 h7) else (M_numberOf_54 N re5 (M_numberOf_23 N re5 n) l0 l1 l3 l4 l6 l5 1 h7))
def M_numberOf_5 (N : Nat) : Nat → Option Nat → Int64 → Int32 → Int32 → Hp → Option (Int32 × Hp)
  | 0, _, _, _, _, _ => none
  | n + 1, l0, l1, l3, l4, h =>
  gi [12] 2 l0 h fun x1 =>
  if x1 < l4 then (some (l3, h)) else (nm (l4 + (1 : Int32)) fun x2 =>
  M_numberOf_23 N (M_numberOf_5 N n) N l0 l1 l3 l4 0 x2 h)
def M_numberOf (N : Nat) (l0 : Option Nat) (l1 : Int64) (h : Hp) : Option (Int32 × Hp) :=
  M_numberOf_5 N N l0 l1 0 1 h
def M_all_4 (N : Nat) : Nat → Option Nat → Int32 → Int32 → Hp → Option (Int32 × Hp)
  | 0, _, _, _, _ => none
  | n + 1, l0, l1, l2, h =>
  gi [12] 2 l0 h fun x1 =>
  if x1 < l2 then (some (l1, h)) else (nm (l1 * l2) fun x2 =>
  nm (l2 + 1) fun x3 =>
  M_all_4 N n l0 x2 x3 h)
def M_all (N : Nat) (l0 : Option Nat) (h : Hp) : Option (Int32 × Hp) :=
  M_all_4 N N l0 1 2 h
def M_rowOf_91 (N : Nat) (re17 : Option Nat → Int64 → Int32 → Int32 → Int32 → Int32 → Hp → Option (Int64 × Hp)) (re57 : Option Nat → Int64 → Int32 → Int32 → Int32 → Int32 → Int32 → Int32 → Hp → Option (Int64 × Hp)) (l0 : Option Nat) (l2 : Int64) (l4 : Int32) (l5 : Int32) (l6 : Int32) (l7 : Int32) (l9 : Int32) (u0 : Int32) (u1 : Int32) (h : Hp) : Option (Int64 × Hp) :=
  nm (u0 - u1) fun x1 =>
  nm (l9 + 1) fun x2 =>
  re57 l0 l2 l4 l5 l6 l7 x1 x2 h
def M_rowOf_73 (N : Nat) (re17 : Option Nat → Int64 → Int32 → Int32 → Int32 → Int32 → Hp → Option (Int64 × Hp)) (re57 : Option Nat → Int64 → Int32 → Int32 → Int32 → Int32 → Int32 → Int32 → Hp → Option (Int64 × Hp)) (l0 : Option Nat) (l2 : Int64) (l4 : Int32) (l5 : Int32) (l6 : Int32) (l7 : Int32) (l8 : Int32) (l9 : Int32) (h : Hp) : Option (Int64 × Hp) :=
  if ((l6 >>> (l9 &&& 31)) &&& (1 : Int32)) = 1 then (M_rowOf_91 N re17 re57 l0 l2 l4 l5 l6 l7 l9 l8 0 h) else (M_rowOf_91 N re17 re57 l0 l2 l4 l5 l6 l7 l9 l8 1 h)
def M_rowOf_57 (N : Nat) (re17 : Option Nat → Int64 → Int32 → Int32 → Int32 → Int32 → Hp → Option (Int64 × Hp)) : Nat → Option Nat → Int64 → Int32 → Int32 → Int32 → Int32 → Int32 → Int32 → Hp → Option (Int64 × Hp)
  | 0, _, _, _, _, _, _, _, _, _ => none
  | n + 1, l0, l2, l4, l5, l6, l7, l8, l9, h =>
  if ((l6 >>> (l9 &&& 31)) &&& (1 : Int32)) = 1 then (M_rowOf_73 N re17 (M_rowOf_57 N re17 n) l0 l2 l4 l5 l6 l7 l8 l9 h) else (if l8 ≤ 0 then (nm (l6 ||| ((1 : Int32) <<< (l9 &&& 31))) fun x1 =>
  nm (l2 + ((Int32.toInt64 l9) <<< (Int32.toInt64 ((4 : Int32) * (l7 - (1 : Int32))) &&& 63))) fun x2 =>
  nm (l7 + 1) fun x3 =>
  re17 l0 x2 l4 l5 x1 x3 h) else (M_rowOf_73 N re17 (M_rowOf_57 N re17 n) l0 l2 l4 l5 l6 l7 l8 l9 h))
def M_rowOf_17 (N : Nat) : Nat → Option Nat → Int64 → Int32 → Int32 → Int32 → Int32 → Hp → Option (Int64 × Hp)
  | 0, _, _, _, _, _, _, _ => none
  | n + 1, l0, l2, l4, l5, l6, l7, h =>
  gi [12] 2 l0 h fun x1 =>
  if x1 < l7 then (some (l2, h)) else (gi [12] 2 l0 h fun x2 =>
  nz ((x2 - l7) + (1 : Int32)) <|
  nm (l5 / ((x2 - l7) + (1 : Int32))) fun x3 =>
  nz x3 <|
  nm (l4 / x3) fun x4 =>
  nz x3 <|
  nm (l4 - l4 / x3 * x3) fun x5 =>
  M_rowOf_57 N (M_rowOf_17 N n) N l0 l2 x5 x3 l6 l7 x4 1 h)
def M_rowOf (N : Nat) (l0 : Option Nat) (l1 : Int32) (h : Hp) : Option (Int64 × Hp) :=
  cl (ds [(12, M_all N l0 h)] l0 h) fun x2 h1 =>
  M_rowOf_17 N N l0 0 l1 x2 0 1 h1
def M_times_6 (N : Nat) : Nat → Option Nat → Int64 → Int64 → Int64 → Int32 → Hp → Option (Int64 × Hp)
  | 0, _, _, _, _, _, _ => none
  | n + 1, l0, l1, l3, l5, l7, h =>
  gi [12] 2 l0 h fun x1 =>
  if x1 < l7 then (some (l5, h)) else (cl (M_bell N l3 l7 h) fun x3 h2 =>
  cl (M_bell N l1 x3 h2) fun x5 h4 =>
  nm (l5 + ((Int32.toInt64 x5) <<< (Int32.toInt64 ((4 : Int32) * (l7 - (1 : Int32))) &&& 63))) fun x6 =>
  nm (l7 + 1) fun x7 =>
  M_times_6 N n l0 l1 l3 x6 x7 h4)
def M_times (N : Nat) (l0 : Option Nat) (l1 : Int64) (l3 : Int64) (h : Hp) : Option (Int64 × Hp) :=
  M_times_6 N N l0 l1 l3 0 1 h
def M_isPattern_23 (N : Nat) : Nat → Option Nat → Int64 → Int32 → Hp → Option (Int32 × Hp)
  | 0, _, _, _, _ => none
  | n + 1, l0, l1, l3, h =>
  gi [12] 2 l0 h fun x1 =>
  if x1 < l3 then (rz 1 h) else (cl (M_bell N l1 l3 h) fun x3 h2 =>
  gi [12] 2 l0 h2 fun x4 =>
  if x3 ≤ x4 then (nm (l3 + 1) fun x5 =>
  M_isPattern_23 N n l0 l1 x5 h2) else (rz 0 h2))
def M_isPattern (N : Nat) (l0 : Option Nat) (l1 : Int64) (h : Hp) : Option (Int32 × Hp) :=
  if (lg_cmp l1 (0 : Int64)) < 0 then (rz 0 h) else (gi [12] 2 l0 h fun x1 =>
  if (lg_cmp (l1 >>> (Int32.toInt64 ((4 : Int32) * x1) &&& 63)) (0 : Int64)) = 0 then (M_isPattern_23 N N l0 l1 1 h) else (rz 0 h))
def M_isFitting_38 (N : Nat) (re3 : Option Nat → Int64 → Int64 → Int32 → Hp → Option (Int32 × Hp)) (l0 : Option Nat) (l1 : Int64) (l3 : Int64) (l5 : Int32) (h : Hp) : Option (Int32 × Hp) :=
  nm (l5 + 1) fun x1 =>
  re3 l0 l1 l3 x1 h
def M_isFitting_3 (N : Nat) : Nat → Option Nat → Int64 → Int64 → Int32 → Hp → Option (Int32 × Hp)
  | 0, _, _, _, _, _ => none
  | n + 1, l0, l1, l3, l5, h =>
  gi [12] 2 l0 h fun x1 =>
  if x1 < l5 then (rz 1 h) else (cl (M_bell N l3 l5 h) fun x3 h2 =>
  if x3 = 0 then (M_isFitting_38 N (M_isFitting_3 N n) l0 l1 l3 l5 h2) else (cl (M_bell N l3 l5 h2) fun x5 h4 =>
  cl (M_bell N l1 l5 h4) fun x7 h6 =>
  if x5 = x7 then (M_isFitting_38 N (M_isFitting_3 N n) l0 l1 l3 l5 h6) else (rz 0 h6)))
def M_isFitting (N : Nat) (l0 : Option Nat) (l1 : Int64) (l3 : Int64) (h : Hp) : Option (Int32 × Hp) :=
  M_isFitting_3 N N l0 l1 l3 1 h
def M_finds (N : Nat) (l0 : Option Nat) (l1 : Int32) (h : Hp) : Option (Int32 × Hp) :=
  pi [12] 3 l0 l1 h fun h1 =>
  if l1 = 0 then (rz 0 h1) else (rz 1 h1)
def M_isMethod (N : Nat) (l0 : Option Nat) (l1 : Int32) (h : Hp) : Option (Int32 × Hp) :=
  if l1 < 0 then (rz 0 h) else (gi [12] 5 l0 h fun x1 =>
  if x1 ≤ l1 then (rz 0 h) else (rz 1 h))
def M_feed_71 (N : Nat) (re18 : Option Nat → Int32 → Int32 → Int32 → Int32 → Int32 → Int32 → Hp → Option (Int32 × Hp)) (l0 : Option Nat) (l1 : Int32) (l2 : Int32) (l3 : Int32) (l4 : Int32) (l5 : Int32) (l6 : Int32) (u0 : Int32) (h : Hp) : Option (Int32 × Hp) :=
  gr [12] 0 l0 h fun x1 =>
  gi [12] 1 l0 h fun x2 =>
  nz 4 <|
  si x1 (x2 + l6) ((u0 >>> (((24 : Int32) - ((8 : Int32) * (l6 - l6 / 4 * 4))) &&& 31)) &&& (255 : Int32)) h fun h3 =>
  nm (l6 + 1) fun x4 =>
  re18 l0 l1 l2 l3 l4 l5 x4 h3
def M_feed_18 (N : Nat) : Nat → Option Nat → Int32 → Int32 → Int32 → Int32 → Int32 → Int32 → Hp → Option (Int32 × Hp)
  | 0, _, _, _, _, _, _, _, _ => none
  | n + 1, l0, l1, l2, l3, l4, l5, l6, h =>
  if 20 ≤ l6 then (gi [12] 1 l0 h fun x1 =>
  pi [12] 1 l0 (x1 + (20 : Int32)) h fun h2 =>
  gi [12] 1 l0 h2 fun x3 =>
  some (x3, h2)) else (if 4 ≤ l6 then (if 8 ≤ l6 then (if 12 ≤ l6 then (if 16 ≤ l6 then (M_feed_71 N (M_feed_18 N n) l0 l1 l2 l3 l4 l5 l6 l5 h) else (M_feed_71 N (M_feed_18 N n) l0 l1 l2 l3 l4 l5 l6 l4 h)) else (M_feed_71 N (M_feed_18 N n) l0 l1 l2 l3 l4 l5 l6 l3 h)) else (M_feed_71 N (M_feed_18 N n) l0 l1 l2 l3 l4 l5 l6 l2 h)) else (M_feed_71 N (M_feed_18 N n) l0 l1 l2 l3 l4 l5 l6 l1 h))
def M_feed (N : Nat) (l0 : Option Nat) (l1 : Int32) (l2 : Int32) (l3 : Int32) (l4 : Int32) (l5 : Int32) (h : Hp) : Option (Int32 × Hp) :=
  gi [12] 1 l0 h fun x1 =>
  if (x1 + (20 : Int32)) ≤ 300 then (M_feed_18 N N l0 l1 l2 l3 l4 l5 0 h) else (some ((-1), h))
def M_end (N : Nat) (l0 : Option Nat) (l1 : Int32) (h : Hp) : Option (Int32 × Hp) :=
  if l1 < 0 then (some ((-1), h)) else (gi [12] 1 l0 h fun x1 =>
  if l1 ≤ x1 then (pi [12] 1 l0 l1 h fun h2 =>
  gi [12] 1 l0 h2 fun x3 =>
  some (x3, h2)) else (some ((-1), h)))
def M_bells (N : Nat) (l0 : Option Nat) (l1 : Int32) (h : Hp) : Option (Int32 × Hp) :=
  if l1 < 4 then (some ((-1), h)) else (if l1 ≤ 12 then (cl (ds [(12, M_begin N l0 l1 h)] l0 h) fun _ h1 =>
  some (1, h1)) else (some ((-1), h)))
def M_method (N : Nat) (l0 : Option Nat) (l1 : Int32) (h : Hp) : Option (Int32 × Hp) :=
  if l1 < 0 then (some ((-1), h)) else (if l1 < 6 then (gi [12] 5 l0 h fun x1 =>
  if x1 = 30 then (some ((-2), h)) else (gi [12] 5 l0 h fun x2 =>
  gr [12] 6 l0 h fun x3 =>
  si x3 x2 l1 h fun h4 =>
  gr [12] 7 l0 h4 fun x5 =>
  si x5 x2 (-1) h4 fun h6 =>
  gr [12] 9 l0 h6 fun x7 =>
  si x7 (((3 : Int32) * x2) + (1 : Int32)) (-1) h6 fun h8 =>
  gr [12] 9 l0 h8 fun x9 =>
  si x9 (((3 : Int32) * x2) + (2 : Int32)) (-1) h8 fun h10 =>
  gr [12] 11 l0 h10 fun x11 =>
  si x11 x2 0 h10 fun h12 =>
  gr [12] 32 l0 h12 fun x13 =>
  si x13 x2 0 h12 fun h14 =>
  gi [12] 5 l0 h14 fun x15 =>
  pi [12] 5 l0 (x15 + (1 : Int32)) h14 fun h16 =>
  pz [12] 34 l0 1 h16 fun h17 =>
  some (x2, h17))) else (some ((-1), h)))
def M_placeOf_19 (N : Nat) (l0 : Int32) (h : Hp) : Option (Int32 × Hp) :=
  if l0 = 48 then (some (10, h)) else (if l0 = 69 then (some (11, h)) else (if l0 = 84 then (some (12, h)) else (some (0, h))))
def M_placeOf (N : Nat) (l0 : Int32) (h : Hp) : Option (Int32 × Hp) :=
  if l0 < 49 then (M_placeOf_19 N l0 h) else (if 57 < l0 then (M_placeOf_19 N l0 h) else (some ((l0 - (48 : Int32)), h)))
def M_cross_4 (N : Nat) : Nat → Option Nat → Int32 → Int32 → Hp → Option (Int32 × Hp)
  | 0, _, _, _, _ => none
  | n + 1, l0, l1, l2, h =>
  gi [12] 2 l0 h fun x1 =>
  if x1 < (l2 + (1 : Int32)) then (some (l1, h)) else (nm (l1 ||| ((1 : Int32) <<< ((l2 - (1 : Int32)) &&& 31))) fun x2 =>
  nm (l2 + 2) fun x3 =>
  M_cross_4 N n l0 x2 x3 h)
def M_cross (N : Nat) (l0 : Option Nat) (h : Hp) : Option (Int32 × Hp) :=
  M_cross_4 N N l0 0 1 h
def M_places_92 (N : Nat) (re4 : Option Nat → Int32 → Int32 → Hp → Option (Int32 × Hp)) : Nat → Option Nat → Int32 → Int32 → Int32 → Hp → Option (Int32 × Hp)
  | 0, _, _, _, _, _ => none
  | n + 1, l0, l1, l3, l4, h =>
  if l3 ≤ (l4 + (1 : Int32)) then (gi [12] 56 l0 h fun x1 =>
  pi [12] 56 l0 (x1 + (1 : Int32)) h fun h2 =>
  re4 l0 l1 l3 h2) else (nm (l1 ||| ((1 : Int32) <<< ((l4 - (1 : Int32)) &&& 31))) fun x3 =>
  nm (l4 + 2) fun x4 =>
  M_places_92 N re4 n l0 x3 l3 x4 h)
def M_places_90 (N : Nat) (re4 : Option Nat → Int32 → Int32 → Hp → Option (Int32 × Hp)) (l0 : Option Nat) (l1 : Int32) (l3 : Int32) (u0 : Int32) (h : Hp) : Option (Int32 × Hp) :=
  M_places_92 N re4 N l0 l1 l3 u0 h
def M_places_73 (N : Nat) (re4 : Option Nat → Int32 → Int32 → Hp → Option (Int32 × Hp)) (l0 : Option Nat) (l1 : Int32) (l2 : Int32) (l3 : Int32) (h : Hp) : Option (Int32 × Hp) :=
  if l2 = 0 then (nz 2 <|
  M_places_90 N re4 l0 l1 l3 ((1 : Int32) + ((l3 - (1 : Int32)) - (l3 - (1 : Int32)) / 2 * 2)) h) else (M_places_90 N re4 l0 l1 l3 (l2 + (1 : Int32)) h)
def M_places_134 (N : Nat) : Nat → Option Nat → Int32 → Int32 → Hp → Option (Int32 × Hp)
  | 0, _, _, _, _ => none
  | n + 1, l0, l1, l3, h =>
  gi [12] 2 l0 h fun x1 =>
  if x1 < (l3 + (1 : Int32)) then (gr [12] 54 l0 h fun x2 =>
  gi [12] 55 l0 h fun x3 =>
  si x2 x3 l1 h fun h4 =>
  gi [12] 55 l0 h4 fun x5 =>
  pi [12] 55 l0 (x5 + (1 : Int32)) h4 fun h6 =>
  rz 1 h6) else (nm (l1 ||| ((1 : Int32) <<< ((l3 - (1 : Int32)) &&& 31))) fun x7 =>
  nm (l3 + 2) fun x8 =>
  M_places_134 N n l0 x7 x8 h)
def M_places_130 (N : Nat) (l0 : Option Nat) (l1 : Int32) (l2 : Int32) (h : Hp) : Option (Int32 × Hp) :=
  nm (l2 + (1 : Int32)) fun x1 =>
  M_places_134 N N l0 l1 x1 h
def M_places_4 (N : Nat) : Nat → Option Nat → Int32 → Int32 → Hp → Option (Int32 × Hp)
  | 0, _, _, _, _ => none
  | n + 1, l0, l1, l2, h =>
  gi [12] 56 l0 h fun x1 =>
  gi [12] 1 l0 h fun x2 =>
  if x2 ≤ x1 then (M_places_130 N l0 l1 l2 h) else (gr [12] 0 l0 h fun x3 =>
  gi [12] 56 l0 h fun x4 =>
  li 13 x3 x4 h fun x5 =>
  cl (M_placeOf N x5 h) fun x7 h6 =>
  if x7 ≤ 0 then (M_places_130 N l0 l1 l2 h6) else (gr [12] 0 l0 h6 fun x8 =>
  gi [12] 56 l0 h6 fun x9 =>
  li 13 x8 x9 h6 fun x10 =>
  cl (M_placeOf N x10 h6) fun x12 h11 =>
  if x12 ≤ l2 then (rz 0 h11) else (gi [12] 2 l0 h11 fun x13 =>
  if x13 < x12 then (rz 0 h11) else (if l2 ≤ 0 then (M_places_73 N (M_places_4 N n) l0 l1 l2 x12 h11) else (nz 2 <|
  if (((x12 - l2) - (1 : Int32)) - ((x12 - l2) - (1 : Int32)) / 2 * 2) = 1 then (rz 0 h11) else (M_places_73 N (M_places_4 N n) l0 l1 l2 x12 h11))))))
def M_places (N : Nat) (l0 : Option Nat) (h : Hp) : Option (Int32 × Hp) :=
  M_places_4 N N l0 0 0 h
def M_block_184 (N : Nat) (re9 : Option Nat → Int32 → Int32 → Hp → Option (Int32 × Hp)) (l0 : Option Nat) (l2 : Int32) (h : Hp) : Option (Int32 × Hp) :=
  re9 l0 l2 1 h
def M_block_115 (N : Nat) (re9 : Option Nat → Int32 → Int32 → Hp → Option (Int32 × Hp)) (l0 : Option Nat) (l4 : Int32) (h : Hp) : Option (Int32 × Hp) :=
  if l4 = 120 then (gr [12] 54 l0 h fun x5 =>
  gi [12] 55 l0 h fun x6 =>
  cl (ds [(12, M_cross N l0 h)] l0 h) fun x8 h7 =>
  si x5 x6 x8 h7 fun h9 =>
  gi [12] 55 l0 h9 fun x10 =>
  pi [12] 55 l0 (x10 + (1 : Int32)) h9 fun h11 =>
  gi [12] 56 l0 h11 fun x12 =>
  pi [12] 56 l0 (x12 + (1 : Int32)) h11 fun h13 =>
  M_block_184 N re9 l0 0 h13) else (cl (M_placeOf N l4 h) fun x2 h1 =>
  if x2 ≤ 0 then (rz 0 h1) else (cl (ds [(12, M_places N l0 h1)] l0 h1) fun x4 h3 =>
  if x4 = 0 then (rz 0 h3) else (M_block_184 N re9 l0 1 h3)))
def M_block_103 (N : Nat) (re9 : Option Nat → Int32 → Int32 → Hp → Option (Int32 × Hp)) (l0 : Option Nat) (u0 : Int32) (h : Hp) : Option (Int32 × Hp) :=
  cl (M_placeOf N u0 h) fun x2 h1 =>
  if x2 = 0 then (rz 0 h1) else (M_block_115 N re9 l0 u0 h1)
def M_block_54 (N : Nat) (re9 : Option Nat → Int32 → Int32 → Hp → Option (Int32 × Hp)) (l0 : Option Nat) (l2 : Int32) (l3 : Int32) (l4 : Int32) (h : Hp) : Option (Int32 × Hp) :=
  if l3 = 0 then (M_block_115 N re9 l0 l4 h) else (if l2 = 0 then (M_block_115 N re9 l0 l4 h) else (if l4 = 46 then (gi [12] 56 l0 h fun x1 =>
  pi [12] 56 l0 (x1 + (1 : Int32)) h fun h2 =>
  gi [12] 56 l0 h2 fun x3 =>
  gi [12] 1 l0 h2 fun x4 =>
  if x4 ≤ x3 then (M_block_103 N re9 l0 (-1) h2) else (gr [12] 0 l0 h2 fun x5 =>
  gi [12] 56 l0 h2 fun x6 =>
  li 13 x5 x6 h2 fun x7 =>
  M_block_103 N re9 l0 x7 h2)) else (M_block_115 N re9 l0 l4 h)))
def M_block_33 (N : Nat) (re9 : Option Nat → Int32 → Int32 → Hp → Option (Int32 × Hp)) (l0 : Option Nat) (l2 : Int32) (l3 : Int32) (u0 : Int32) (h : Hp) : Option (Int32 × Hp) :=
  if l3 = 0 then (M_block_54 N re9 l0 l2 l3 u0 h) else (if u0 = (-1) then (rz 1 h) else (if u0 = 44 then (rz 1 h) else (M_block_54 N re9 l0 l2 l3 u0 h)))
def M_block_9 (N : Nat) : Nat → Option Nat → Int32 → Int32 → Hp → Option (Int32 × Hp)
  | 0, _, _, _, _ => none
  | n + 1, l0, l2, l3, h =>
  gi [12] 56 l0 h fun x1 =>
  gi [12] 1 l0 h fun x2 =>
  if x2 ≤ x1 then (M_block_33 N (M_block_9 N n) l0 l2 l3 (-1) h) else (gr [12] 0 l0 h fun x3 =>
  gi [12] 56 l0 h fun x4 =>
  li 13 x3 x4 h fun x5 =>
  M_block_33 N (M_block_9 N n) l0 l2 l3 x5 h)
def M_block (N : Nat) (l0 : Option Nat) (l1 : Int32) (h : Hp) : Option (Int32 × Hp) :=
  pi [12] 56 l0 l1 h fun h1 =>
  M_block_9 N N l0 0 0 h1
def M_turned_11 (N : Nat) : Nat → Option Nat → Int32 → Int32 → Hp → Option (Unit × Hp)
  | 0, _, _, _, _ => none
  | n + 1, l0, l1, l3, h =>
  if l3 < 0 then (some ((), h)) else (gr [12] 54 l0 h fun x1 =>
  gi [12] 55 l0 h fun x2 =>
  gr [12] 54 l0 h fun x3 =>
  li 13 x3 (l1 + l3) h fun x4 =>
  si x1 x2 x4 h fun h5 =>
  gi [12] 55 l0 h5 fun x6 =>
  pi [12] 55 l0 (x6 + (1 : Int32)) h5 fun h7 =>
  nm (l3 + (-1)) fun x8 =>
  M_turned_11 N n l0 l1 x8 h7)
def M_turned (N : Nat) (l0 : Option Nat) (l1 : Int32) (h : Hp) : Option (Unit × Hp) :=
  gi [12] 55 l0 h fun x1 =>
  nm (x1 - l1) fun x2 =>
  nm (x2 - (2 : Int32)) fun x3 =>
  M_turned_11 N N l0 l1 x3 h
def M_notation_140 (N : Nat) : Nat → Option Nat → Int32 → Int32 → Hp → Option (Int32 × Hp)
  | 0, _, _, _, _ => none
  | n + 1, l0, l1, l3, h =>
  gi [12] 55 l0 h fun x1 =>
  if x1 ≤ l3 then (gr [12] 7 l0 h fun x2 =>
  gi [12] 55 l0 h fun x3 =>
  si x2 l1 x3 h fun h4 =>
  pz [12] 34 l0 1 h4 fun h5 =>
  gi [12] 55 l0 h5 fun x6 =>
  some (x6, h5)) else (gr [12] 8 l0 h fun x7 =>
  gr [12] 54 l0 h fun x8 =>
  li 13 x8 l3 h fun x9 =>
  si x7 (((100 : Int32) * l1) + l3) x9 h fun h10 =>
  nm (l3 + 1) fun x11 =>
  M_notation_140 N n l0 l1 x11 h10)
def M_notation_109 (N : Nat) (l0 : Option Nat) (l1 : Int32) (l2 : Int32) (h : Hp) : Option (Int32 × Hp) :=
  pi [12] 1 l0 0 h fun h1 =>
  if l2 = 0 then (gi [12] 56 l0 h1 fun x3 =>
  some (((-1 : Int32) - x3), h1)) else (gi [12] 55 l0 h1 fun x2 =>
  if x2 ≤ 100 then (M_notation_140 N N l0 l1 0 h1) else (some ((-1000), h1)))
def M_notation_108 (N : Nat) (l0 : Option Nat) (l1 : Int32) (u0 : Int32) (h : Hp) : Option (Int32 × Hp) :=
  M_notation_109 N l0 l1 u0 h
def M_notation_28 (N : Nat) (l0 : Option Nat) (l1 : Int32) (u0 : Option Nat) (u1 : Int32) (h : Hp) : Option (Int32 × Hp) :=
  cl (ds [(12, M_finds N u0 u1 h)] u0 h) fun x2 h1 =>
  if x2 = 0 then (pi [12] 55 l0 0 h1 fun h3 =>
  cl (ds [(12, M_block N l0 0 h3)] l0 h3) fun x5 h4 =>
  if x5 = 0 then (M_notation_109 N l0 l1 x5 h4) else (gi [12] 56 l0 h4 fun x6 =>
  gi [12] 1 l0 h4 fun x7 =>
  if x7 ≤ x6 then (M_notation_109 N l0 l1 x5 h4) else (cl (ds [(12, M_turned N l0 0 h4)] l0 h4) fun _ h8 =>
  gi [12] 55 l0 h8 fun x9 =>
  gi [12] 56 l0 h8 fun x10 =>
  cl (ds [(12, M_block N l0 (x10 + (1 : Int32)) h8)] l0 h8) fun x12 h11 =>
  if x12 = 0 then (M_notation_109 N l0 l1 x12 h11) else (cl (ds [(12, M_turned N l0 x9 h11)] l0 h11) fun _ h13 =>
  gi [12] 56 l0 h13 fun x14 =>
  gi [12] 1 l0 h13 fun x15 =>
  if x14 = x15 then (M_notation_108 N l0 l1 1 h13) else (M_notation_108 N l0 l1 0 h13))))) else (some (0, h1))
def M_notation (N : Nat) (l0 : Option Nat) (l1 : Int32) (h : Hp) : Option (Int32 × Hp) :=
  cl (ds [(12, M_isMethod N l0 l1 h)] l0 h) fun x2 h1 =>
  if x2 = 0 then (M_notation_28 N l0 l1 l0 4 h1) else (gr [12] 6 l0 h1 fun x3 =>
  li 13 x3 l1 h1 fun x4 =>
  if x4 = 5 then (M_notation_28 N l0 l1 l0 3 h1) else (M_notation_28 N l0 l1 l0 0 h1))
def M_cut_64 (N : Nat) (l0 : Option Nat) (l1 : Int32) (l2 : Int32) (u0 : Option Nat) (u1 : Int32) (h : Hp) : Option (Int32 × Hp) :=
  cl (ds [(12, M_finds N u0 u1 h)] u0 h) fun x2 h1 =>
  if x2 = 0 then (gr [12] 7 l0 h1 fun x3 =>
  si x3 l1 l2 h1 fun h4 =>
  pz [12] 34 l0 1 h4 fun h5 =>
  some (l2, h5)) else (some (0, h1))
def M_cut (N : Nat) (l0 : Option Nat) (l1 : Int32) (l2 : Int32) (h : Hp) : Option (Int32 × Hp) :=
  cl (ds [(12, M_isMethod N l0 l1 h)] l0 h) fun x2 h1 =>
  if x2 = 0 then (M_cut_64 N l0 l1 l2 l0 4 h1) else (gr [12] 6 l0 h1 fun x3 =>
  li 13 x3 l1 h1 fun x4 =>
  if x4 = 5 then (M_cut_64 N l0 l1 l2 l0 3 h1) else (gr [12] 7 l0 h1 fun x5 =>
  li 13 x5 l1 h1 fun x6 =>
  if 0 ≤ x6 then (if 0 ≤ l2 then (gr [12] 7 l0 h1 fun x7 =>
  li 13 x7 l1 h1 fun x8 =>
  if l2 ≤ x8 then (M_cut_64 N l0 l1 l2 l0 0 h1) else (M_cut_64 N l0 l1 l2 l0 5 h1)) else (M_cut_64 N l0 l1 l2 l0 6 h1)) else (M_cut_64 N l0 l1 l2 l0 1 h1)))
def M_called_61 (N : Nat) (l0 : Option Nat) (l1 : Int32) (l2 : Int32) (l3 : Int32) (l4 : Int32) (u0 : Option Nat) (u1 : Int32) (h : Hp) : Option (Int32 × Hp) :=
  cl (ds [(12, M_finds N u0 u1 h)] u0 h) fun x2 h1 =>
  if x2 = 0 then (gr [12] 9 l0 h1 fun x3 =>
  si x3 (((3 : Int32) * l1) + l2) l3 h1 fun h4 =>
  gr [12] 10 l0 h4 fun x5 =>
  si x5 (((3 : Int32) * l1) + l2) l4 h4 fun h6 =>
  pz [12] 34 l0 1 h6 fun h7 =>
  some (1, h7)) else (some (0, h1))
def M_called_42 (N : Nat) (l0 : Option Nat) (l1 : Int32) (l2 : Int32) (l3 : Int32) (l4 : Int32) (u0 : Option Nat) (h : Hp) : Option (Int32 × Hp) :=
  M_called_61 N l0 l1 l2 l3 l4 u0 2 h
def M_called (N : Nat) (l0 : Option Nat) (l1 : Int32) (l2 : Int32) (l3 : Int32) (l4 : Int32) (h : Hp) : Option (Int32 × Hp) :=
  cl (ds [(12, M_isMethod N l0 l1 h)] l0 h) fun x2 h1 =>
  if x2 = 0 then (M_called_61 N l0 l1 l2 l3 l4 l0 4 h1) else (gr [12] 6 l0 h1 fun x3 =>
  li 13 x3 l1 h1 fun x4 =>
  if x4 = 5 then (M_called_61 N l0 l1 l2 l3 l4 l0 9 h1) else (if l2 < 1 then (M_called_42 N l0 l1 l2 l3 l4 l0 h1) else (if 2 < l2 then (M_called_42 N l0 l1 l2 l3 l4 l0 h1) else (if 0 ≤ l3 then (cl (ds [(12, M_isChange N l0 l4 h1)] l0 h1) fun x6 h5 =>
  if x6 = 0 then (M_called_61 N l0 l1 l2 l3 l4 l0 8 h5) else (M_called_61 N l0 l1 l2 l3 l4 l0 0 h5)) else (M_called_42 N l0 l1 l2 l3 l4 l0 h1)))))
def M_part_66 (N : Nat) (l0 : Option Nat) (l1 : Int32) (l2 : Int32) (u0 : Option Nat) (u1 : Int32) (h : Hp) : Option (Int32 × Hp) :=
  cl (ds [(12, M_finds N u0 u1 h)] u0 h) fun x2 h1 =>
  if x2 = 0 then (gr [12] 12 l0 h1 fun x3 =>
  gr [12] 11 l0 h1 fun x4 =>
  li 13 x4 l1 h1 fun x5 =>
  si x3 (((6 : Int32) * l1) + x5) l2 h1 fun h6 =>
  gr [12] 11 l0 h6 fun x7 =>
  li 13 x7 l1 h6 fun x8 =>
  si x7 l1 (x8 + (1 : Int32)) h6 fun h9 =>
  pz [12] 34 l0 1 h9 fun h10 =>
  gr [12] 11 l0 h10 fun x11 =>
  li 13 x11 l1 h10 fun x12 =>
  some (x12, h10)) else (some (0, h1))
def M_part_17 (N : Nat) (l0 : Option Nat) (l1 : Int32) (l2 : Int32) (u0 : Option Nat) (h : Hp) : Option (Int32 × Hp) :=
  M_part_66 N l0 l1 l2 u0 4 h
def M_part_41 (N : Nat) (l0 : Option Nat) (l1 : Int32) (l2 : Int32) (u0 : Option Nat) (h : Hp) : Option (Int32 × Hp) :=
  M_part_66 N l0 l1 l2 u0 3 h
def M_part_61 (N : Nat) (l0 : Option Nat) (l1 : Int32) (l2 : Int32) (u0 : Option Nat) (h : Hp) : Option (Int32 × Hp) :=
  M_part_66 N l0 l1 l2 u0 2 h
def M_part (N : Nat) (l0 : Option Nat) (l1 : Int32) (l2 : Int32) (h : Hp) : Option (Int32 × Hp) :=
  cl (ds [(12, M_isMethod N l0 l1 h)] l0 h) fun x2 h1 =>
  if x2 = 0 then (M_part_17 N l0 l1 l2 l0 h1) else (cl (ds [(12, M_isMethod N l0 l2 h1)] l0 h1) fun x4 h3 =>
  if x4 = 0 then (M_part_17 N l0 l1 l2 l0 h3) else (gr [12] 6 l0 h3 fun x5 =>
  li 13 x5 l1 h3 fun x6 =>
  if x6 = 5 then (gr [12] 6 l0 h3 fun x7 =>
  li 13 x7 l2 h3 fun x8 =>
  if x8 = 5 then (M_part_41 N l0 l1 l2 l0 h3) else (if l1 ≤ l2 then (M_part_61 N l0 l1 l2 l0 h3) else (gr [12] 11 l0 h3 fun x9 =>
  li 13 x9 l1 h3 fun x10 =>
  if x10 = 6 then (M_part_61 N l0 l1 l2 l0 h3) else (M_part_66 N l0 l1 l2 l0 0 h3)))) else (M_part_41 N l0 l1 l2 l0 h3)))
def M_count (N : Nat) (l0 : Option Nat) (l1 : Int32) (l2 : Int32) (h : Hp) : Option (Unit × Hp) :=
  gi [12] 16 l0 h fun x1 =>
  if x1 = 0 then (some ((), h)) else (gr [12] 4 l0 h fun x2 =>
  nm (((3 : Int32) * l1) + l2) fun x3 =>
  li 13 x2 x3 h fun x4 =>
  si x2 x3 (x4 + (1 : Int32)) h fun h5 =>
  some ((), h5))
def M_isAmiss (N : Nat) (l0 : Option Nat) (l1 : Int32) (h : Hp) : Option (Int32 × Hp) :=
  pi [12] 15 l0 l1 h fun h1 =>
  rz 0 h1
def M_partOf (N : Nat) (l0 : Option Nat) (l1 : Int32) (l2 : Int32) (h : Hp) : Option (Int32 × Hp) :=
  gr [12] 12 l0 h fun x1 =>
  gr [12] 11 l0 h fun x2 =>
  li 13 x2 l1 h fun x3 =>
  nz x3 <|
  li 13 x1 (((6 : Int32) * l1) + (l2 - l2 / x3 * x3)) h fun x4 =>
  some (x4, h)
def M_leadOf_89 (N : Nat) : Nat → Option Nat → Int32 → Int32 → Hp → Option (Int32 × Hp)
  | 0, _, _, _, _ => none
  | n + 1, l0, l3, l4, h =>
  gi [12] 14 l0 h fun x1 =>
  if x1 ≤ l4 then (rz 1 h) else (gr [12] 13 l0 h fun x2 =>
  gr [12] 8 l0 h fun x3 =>
  li 13 x3 (((100 : Int32) * l3) + l4) h fun x4 =>
  si x2 l4 x4 h fun h5 =>
  nm (l4 + 1) fun x6 =>
  M_leadOf_89 N n l0 l3 x6 h5)
def M_leadOf_57 (N : Nat) (l0 : Option Nat) (l3 : Int32) (u0 : Option Nat) (u1 : Int32) (h : Hp) : Option (Int32 × Hp) :=
  cl (ds [(12, M_count N u0 u1 0 h)] u0 h) fun _ h1 =>
  gr [12] 7 l0 h1 fun x2 =>
  li 13 x2 l3 h1 fun x3 =>
  if 0 ≤ x3 then (gr [12] 7 l0 h1 fun x4 =>
  li 13 x4 l3 h1 fun x5 =>
  pi [12] 14 l0 x5 h1 fun h6 =>
  M_leadOf_89 N N l0 l3 0 h6) else (cl (ds [(12, M_isAmiss N l0 1 h1)] l0 h1) fun x8 h7 =>
  rz x8 h7)
def M_leadOf_41 (N : Nat) (l0 : Option Nat) (l3 : Int32) (h : Hp) : Option (Int32 × Hp) :=
  gr [12] 6 l0 h fun x1 =>
  li 13 x1 l3 h fun x2 =>
  if x2 = 4 then (M_leadOf_57 N l0 l3 l0 4 h) else (M_leadOf_57 N l0 l3 l0 0 h)
def M_leadOf (N : Nat) (l0 : Option Nat) (l1 : Int32) (l2 : Int32) (h : Hp) : Option (Int32 × Hp) :=
  gr [12] 6 l0 h fun x1 =>
  li 13 x1 l1 h fun x2 =>
  if x2 = 5 then (cl (ds [(12, M_count N l0 5 0 h)] l0 h) fun _ h3 =>
  gr [12] 11 l0 h3 fun x4 =>
  li 13 x4 l1 h3 fun x5 =>
  if x5 = 0 then (cl (ds [(12, M_isAmiss N l0 7 h3)] l0 h3) fun x9 h8 =>
  rz x9 h8) else (cl (ds [(12, M_partOf N l0 l1 l2 h3)] l0 h3) fun x7 h6 =>
  M_leadOf_41 N l0 x7 h6)) else (M_leadOf_41 N l0 l1 h)
def M_calledOf_269 (N : Nat) (l0 : Option Nat) (l4 : Int32) (l5 : Int32) (u0 : Option Nat) (u1 : Int32) (h : Hp) : Option (Int32 × Hp) :=
  gr [12] 10 l0 h fun x1 =>
  li 13 x1 (((3 : Int32) * l4) + l5) h fun x2 =>
  si u0 u1 x2 h fun h3 =>
  rz 1 h3
def M_calledOf_191 (N : Nat) (l0 : Option Nat) (l2 : Int32) (l4 : Int32) (l5 : Int32) (l6 : Int32) (u0 : Option Nat) (u1 : Int32) (h : Hp) : Option (Int32 × Hp) :=
  cl (ds [(12, M_count N u0 u1 1 h)] u0 h) fun _ h1 =>
  cl (ds [(12, M_leadOf N l0 l4 l2 h1)] l0 h1) fun x3 h2 =>
  if x3 = 0 then (rz 0 h2) else (if l5 = 0 then (rz 1 h2) else (if 0 ≤ l6 then (gi [12] 14 l0 h2 fun x4 =>
  if l6 < x4 then (gr [12] 13 l0 h2 fun x5 =>
  gr [12] 6 l0 h2 fun x6 =>
  li 13 x6 l4 h2 fun x7 =>
  if x7 = 4 then (gi [12] 14 l0 h2 fun x8 =>
  M_calledOf_269 N l0 l4 l5 x5 ((x8 - (1 : Int32)) - l6) h2) else (M_calledOf_269 N l0 l4 l5 x5 l6 h2)) else (cl (ds [(12, M_isAmiss N l0 2 h2)] l0 h2) fun x10 h9 =>
  rz x10 h9)) else (cl (ds [(12, M_isAmiss N l0 1 h2)] l0 h2) fun x12 h11 =>
  rz x12 h11)))
def M_calledOf_174 (N : Nat) (l0 : Option Nat) (l2 : Int32) (l4 : Int32) (l5 : Int32) (l6 : Int32) (h : Hp) : Option (Int32 × Hp) :=
  gr [12] 6 l0 h fun x1 =>
  li 13 x1 l4 h fun x2 =>
  if x2 = 4 then (M_calledOf_191 N l0 l2 l4 l5 l6 l0 4 h) else (M_calledOf_191 N l0 l2 l4 l5 l6 l0 0 h)
def M_calledOf_145 (N : Nat) (l0 : Option Nat) (l2 : Int32) (l4 : Int32) (l5 : Int32) (l6 : Int32) (h : Hp) : Option (Int32 × Hp) :=
  if l5 = 0 then (M_calledOf_174 N l0 l2 l4 l5 l6 h) else (gi [12] 14 l0 h fun x1 =>
  if l6 < x1 then (M_calledOf_174 N l0 l2 l4 l5 l6 h) else (gi [12] 14 l0 h fun x2 =>
  if x2 ≤ 0 then (M_calledOf_174 N l0 l2 l4 l5 l6 h) else (gi [12] 14 l0 h fun x3 =>
  nm (x3 - (1 : Int32)) fun x4 =>
  M_calledOf_174 N l0 l2 l4 l5 x4 h)))
def M_calledOf_111 (N : Nat) (l0 : Option Nat) (l2 : Int32) (l4 : Int32) (l5 : Int32) (l6 : Int32) (h : Hp) : Option (Int32 × Hp) :=
  gr [12] 6 l0 h fun x1 =>
  li 13 x1 l4 h fun x2 =>
  if x2 = 3 then (cl (ds [(12, M_count N l0 3 1 h)] l0 h) fun _ h3 =>
  if l5 = 0 then (M_calledOf_145 N l0 l2 l4 l5 l6 h3) else (cl (ds [(12, M_leadOf N l0 l4 l2 h3)] l0 h3) fun x5 h4 =>
  if x5 = 0 then (rz 0 h4) else (M_calledOf_145 N l0 l2 l4 l5 l6 h4))) else (M_calledOf_174 N l0 l2 l4 l5 l6 h)
def M_calledOf_65 (N : Nat) (l0 : Option Nat) (l2 : Int32) (l4 : Int32) (l5 : Int32) (u0 : Int32) (h : Hp) : Option (Int32 × Hp) :=
  gr [12] 6 l0 h fun x1 =>
  li 13 x1 l4 h fun x2 =>
  if x2 = 1 then (cl (ds [(12, M_count N l0 1 1 h)] l0 h) fun _ h3 =>
  if l5 = 2 then (if 0 ≤ u0 then (M_calledOf_111 N l0 l2 l4 l5 u0 h3) else (gr [12] 9 l0 h3 fun x4 =>
  li 13 x4 (((3 : Int32) * l4) + (1 : Int32)) h3 fun x5 =>
  M_calledOf_111 N l0 l2 l4 1 x5 h3)) else (M_calledOf_111 N l0 l2 l4 l5 u0 h3)) else (M_calledOf_111 N l0 l2 l4 l5 u0 h)
def M_calledOf_43 (N : Nat) (l0 : Option Nat) (l2 : Int32) (l3 : Int32) (l4 : Int32) (h : Hp) : Option (Int32 × Hp) :=
  if l3 = 0 then (M_calledOf_65 N l0 l2 l4 l3 0 h) else (gr [12] 9 l0 h fun x1 =>
  li 13 x1 (((3 : Int32) * l4) + l3) h fun x2 =>
  M_calledOf_65 N l0 l2 l4 l3 x2 h)
def M_calledOf (N : Nat) (l0 : Option Nat) (l1 : Int32) (l2 : Int32) (l3 : Int32) (h : Hp) : Option (Int32 × Hp) :=
  gr [12] 6 l0 h fun x1 =>
  li 13 x1 l1 h fun x2 =>
  if x2 = 5 then (cl (ds [(12, M_count N l0 5 1 h)] l0 h) fun _ h3 =>
  gr [12] 11 l0 h3 fun x4 =>
  li 13 x4 l1 h3 fun x5 =>
  if x5 = 0 then (cl (ds [(12, M_isAmiss N l0 7 h3)] l0 h3) fun x9 h8 =>
  rz x9 h8) else (cl (ds [(12, M_partOf N l0 l1 l2 h3)] l0 h3) fun x7 h6 =>
  M_calledOf_43 N l0 l2 l3 x7 h6)) else (M_calledOf_43 N l0 l2 l3 l1 h)
def M_behind_6 (N : Nat) : Nat → Option Nat → Int32 → Int64 → Int32 → Hp → Option (Int64 × Hp)
  | 0, _, _, _, _, _ => none
  | n + 1, l0, l3, l4, l6, h =>
  if l3 ≤ l6 then (some (l4, h)) else (gr [12] 13 l0 h fun x1 =>
  li 13 x1 l6 h fun x2 =>
  cl (M_done N l4 x2 h) fun x4 h3 =>
  nm (l6 + 1) fun x5 =>
  M_behind_6 N n l0 l3 x4 x5 h3)
def M_behind (N : Nat) (l0 : Option Nat) (l1 : Int64) (l3 : Int32) (h : Hp) : Option (Int64 × Hp) :=
  M_behind_6 N N l0 l3 l1 0 h
def M_placeOfOne_2 (N : Nat) : Nat → Int64 → Int32 → Hp → Option (Int32 × Hp)
  | 0, _, _, _ => none
  | n + 1, l1, l3, h =>
  cl (M_bell N l1 l3 h) fun x2 h1 =>
  if x2 = 1 then (some (l3, h1)) else (nm (l3 + 1) fun x3 =>
  M_placeOfOne_2 N n l1 x3 h1)
def M_placeOfOne (N : Nat) (l0 : Option Nat) (l1 : Int64) (h : Hp) : Option (Int32 × Hp) :=
  M_placeOfOne_2 N N l1 1 h
def M_hunt_30 (N : Nat) : Nat → Option Nat → Int64 → Int32 → Hp → Option (Unit × Hp)
  | 0, _, _, _, _ => none
  | n + 1, l0, l1, l3, h =>
  gi [12] 14 l0 h fun x1 =>
  if x1 ≤ l3 then (some ((), h)) else (gr [12] 13 l0 h fun x2 =>
  li 13 x2 l3 h fun x3 =>
  cl (M_done N l1 x3 h) fun x5 h4 =>
  gr [12] 57 l0 h4 fun x6 =>
  cl (ds [(12, M_placeOfOne N l0 x5 h4)] l0 h4) fun x8 h7 =>
  li 13 x6 x8 h7 fun x9 =>
  si x6 x8 (x9 + (1 : Int32)) h7 fun h10 =>
  nm (l3 + 1) fun x11 =>
  M_hunt_30 N n l0 x5 x11 h10)
def M_hunt_2 (N : Nat) : Nat → Option Nat → Int32 → Hp → Option (Unit × Hp)
  | 0, _, _, _ => none
  | n + 1, l0, l1, h =>
  gi [12] 2 l0 h fun x1 =>
  if x1 < l1 then (cl (ds [(12, M_rounds N l0 h)] l0 h) fun x3 h2 =>
  M_hunt_30 N N l0 x3 0 h2) else (gr [12] 57 l0 h fun x4 =>
  si x4 l1 0 h fun h5 =>
  nm (l1 + 1) fun x6 =>
  M_hunt_2 N n l0 x6 h5)
def M_hunt (N : Nat) (l0 : Option Nat) (h : Hp) : Option (Unit × Hp) :=
  M_hunt_2 N N l0 1 h
def M_isEven_47 (N : Nat) (re4 : Option Nat → Int32 → Int32 → Hp → Option (Int32 × Hp)) (l0 : Option Nat) (l1 : Int32) (l2 : Int32) (h : Hp) : Option (Int32 × Hp) :=
  nm (l2 + 1) fun x1 =>
  re4 l0 l1 x1 h
def M_isEven_40 (N : Nat) (re4 : Option Nat → Int32 → Int32 → Hp → Option (Int32 × Hp)) (l0 : Option Nat) (l2 : Int32) (h : Hp) : Option (Int32 × Hp) :=
  gr [12] 57 l0 h fun x1 =>
  li 13 x1 l2 h fun x2 =>
  M_isEven_47 N re4 l0 x2 l2 h
def M_isEven_4 (N : Nat) : Nat → Option Nat → Int32 → Int32 → Hp → Option (Int32 × Hp)
  | 0, _, _, _, _ => none
  | n + 1, l0, l1, l2, h =>
  gi [12] 2 l0 h fun x1 =>
  if x1 < l2 then (rz 1 h) else (gr [12] 57 l0 h fun x2 =>
  li 13 x2 l2 h fun x3 =>
  if x3 = 0 then (M_isEven_47 N (M_isEven_4 N n) l0 l1 l2 h) else (if l1 = 0 then (M_isEven_40 N (M_isEven_4 N n) l0 l2 h) else (gr [12] 57 l0 h fun x4 =>
  li 13 x4 l2 h fun x5 =>
  if l1 = x5 then (M_isEven_40 N (M_isEven_4 N n) l0 l2 h) else (rz 0 h))))
def M_isEven (N : Nat) (l0 : Option Nat) (h : Hp) : Option (Int32 × Hp) :=
  M_isEven_4 N N l0 0 1 h
def M_staysWithin_32 (N : Nat) (re2 : Option Nat → Int32 → Int32 → Hp → Option (Int32 × Hp)) (l0 : Option Nat) (l1 : Int32) (l2 : Int32) (h : Hp) : Option (Int32 × Hp) :=
  nm (l2 + 1) fun x1 =>
  re2 l0 l1 x1 h
def M_staysWithin_2 (N : Nat) : Nat → Option Nat → Int32 → Int32 → Hp → Option (Int32 × Hp)
  | 0, _, _, _, _ => none
  | n + 1, l0, l1, l2, h =>
  gi [12] 2 l0 h fun x1 =>
  if x1 ≤ l2 then (rz 0 h) else (if ((l1 >>> ((l2 - (1 : Int32)) &&& 31)) &&& (1 : Int32)) = 0 then (if ((l1 >>> ((l2 - (2 : Int32)) &&& 31)) &&& (1 : Int32)) = 0 then (rz 1 h) else (M_staysWithin_32 N (M_staysWithin_2 N n) l0 l1 l2 h)) else (M_staysWithin_32 N (M_staysWithin_2 N n) l0 l1 l2 h))
def M_staysWithin (N : Nat) (l0 : Option Nat) (l1 : Int32) (h : Hp) : Option (Int32 × Hp) :=
  M_staysWithin_2 N N l0 l1 2 h
def M_isSurprising_74 (N : Nat) (re7 : Option Nat → Int64 → Int32 → Hp → Option (Int32 × Hp)) (l0 : Option Nat) (l1 : Int64) (l3 : Int32) (h : Hp) : Option (Int32 × Hp) :=
  nm (l3 + 1) fun x1 =>
  re7 l0 l1 x1 h
def M_isSurprising_7 (N : Nat) : Nat → Option Nat → Int64 → Int32 → Hp → Option (Int32 × Hp)
  | 0, _, _, _, _ => none
  | n + 1, l0, l1, l3, h =>
  gi [12] 14 l0 h fun x1 =>
  if x1 ≤ l3 then (rz 1 h) else (cl (ds [(12, M_placeOfOne N l0 l1 h)] l0 h) fun x3 h2 =>
  gr [12] 13 l0 h2 fun x4 =>
  li 13 x4 l3 h2 fun x5 =>
  cl (M_done N l1 x5 h2) fun x7 h6 =>
  cl (ds [(12, M_placeOfOne N l0 x7 h6)] l0 h6) fun x9 h8 =>
  if x9 = x3 then (M_isSurprising_74 N (M_isSurprising_7 N n) l0 x7 l3 h8) else (nz 2 <|
  if ((jmin x9 x3) - (jmin x9 x3) / 2 * 2) = 0 then (gr [12] 13 l0 h8 fun x10 =>
  li 13 x10 l3 h8 fun x11 =>
  cl (ds [(12, M_staysWithin N l0 x11 h8)] l0 h8) fun x13 h12 =>
  if x13 = 0 then (rz 0 h12) else (M_isSurprising_74 N (M_isSurprising_7 N n) l0 x7 l3 h12)) else (M_isSurprising_74 N (M_isSurprising_7 N n) l0 x7 l3 h8)))
def M_isSurprising (N : Nat) (l0 : Option Nat) (h : Hp) : Option (Int32 × Hp) :=
  cl (ds [(12, M_rounds N l0 h)] l0 h) fun x2 h1 =>
  M_isSurprising_7 N N l0 x2 0 h1
def M_judgeOf_0_37 (N : Nat) : Nat → Option Nat → Int32 → Int32 → Hp → Option (Int32 × Hp)
  | 0, _, _, _, _ => none
  | n + 1, l0, l1, l3, h =>
  gr [12] 11 l0 h fun x1 =>
  li 13 x1 l1 h fun x2 =>
  if x2 ≤ l3 then (some (1, h)) else (gr [12] 12 l0 h fun x3 =>
  li 13 x3 (((6 : Int32) * l1) + l3) h fun x4 =>
  none)
def M_judgeOf_0_269 (N : Nat) (l3 : Int32) (h : Hp) : Option (Int32 × Hp) :=
  if l3 = 0 then (some (0, h)) else (some (1, h))
def M_judgeOf_0_248 (N : Nat) (l0 : Option Nat) (l1 : Int32) (l2 : Int32) (u0 : Int32) (u1 : Int32) (h : Hp) : Option (Int32 × Hp) :=
  nm (u0 &&& u1) fun x1 =>
  if l2 = 3 then (cl (ds [(12, M_leadOf N l0 l1 0 h)] l0 h) fun x3 h2 =>
  cl (ds [(12, M_isSurprising N l0 h2)] l0 h2) fun x5 h4 =>
  nm (x1 &&& x5) fun x6 =>
  M_judgeOf_0_269 N x6 h4) else (M_judgeOf_0_269 N x1 h)
def M_judgeOf_0_192 (N : Nat) (l0 : Option Nat) (l1 : Int32) (l2 : Int32) (u0 : Int32) (h : Hp) : Option (Int32 × Hp) :=
  if l2 = 0 then (if u0 = 0 then (some (0, h)) else (some (1, h))) else (cl (ds [(12, M_leadOf N l0 l1 0 h)] l0 h) fun x2 h1 =>
  cl (ds [(12, M_hunt N l0 h1)] l0 h1) fun _ h3 =>
  if l2 = 1 then (gr [12] 57 l0 h3 fun x6 =>
  gi [12] 2 l0 h3 fun x7 =>
  li 13 x6 x7 h3 fun x8 =>
  if x8 = 0 then (M_judgeOf_0_248 N l0 l1 l2 u0 1 h3) else (M_judgeOf_0_248 N l0 l1 l2 u0 0 h3)) else (cl (ds [(12, M_isEven N l0 h3)] l0 h3) fun x5 h4 =>
  M_judgeOf_0_248 N l0 l1 l2 u0 x5 h4))
def M_judgeOf_0_150 (N : Nat) (l0 : Option Nat) (l1 : Int32) (l2 : Int32) (h : Hp) : Option (Int32 × Hp) :=
  cl (ds [(12, M_count N l0 0 2 h)] l0 h) fun _ h1 =>
  cl (ds [(12, M_leadOf N l0 l1 0 h1)] l0 h1) fun x3 h2 =>
  if x3 = 0 then (some ((-1), h2)) else (cl (ds [(12, M_rounds N l0 h2)] l0 h2) fun x5 h4 =>
  gi [12] 14 l0 h4 fun x6 =>
  cl (ds [(12, M_behind N l0 x5 x6 h4)] l0 h4) fun x8 h7 =>
  cl (M_bell N x8 1 h7) fun x10 h9 =>
  if x10 = 1 then (M_judgeOf_0_192 N l0 l1 l2 1 h9) else (M_judgeOf_0_192 N l0 l1 l2 0 h9))
def M_judgeOf_0_139 (N : Nat) (l0 : Option Nat) (l1 : Int32) (l2 : Int32) (h : Hp) : Option (Int32 × Hp) :=
  if l2 = 3 then (cl (ds [(12, M_count N l0 2 2 h)] l0 h) fun _ h1 =>
  M_judgeOf_0_150 N l0 l1 l2 h1) else (M_judgeOf_0_150 N l0 l1 l2 h)
def M_judgeOf_0 (N : Nat) (l0 : Option Nat) (l1 : Int32) (h : Hp) : Option (Int32 × Hp) :=
  gr [12] 6 l0 h fun x1 =>
  li 13 x1 l1 h fun x2 =>
  if x2 = 5 then (cl (ds [(12, M_count N l0 5 2 h)] l0 h) fun _ h14 =>
  gr [12] 11 l0 h14 fun x15 =>
  li 13 x15 l1 h14 fun x16 =>
  if x16 = 0 then (pi [12] 15 l0 7 h14 fun h17 =>
  some ((-1), h17)) else (M_judgeOf_0_37 N N l0 l1 0 h14)) else (if x2 = 4 then (cl (ds [(12, M_count N l0 4 2 h)] l0 h) fun _ h4 =>
  cl (ds [(12, M_leadOf N l0 l1 0 h4)] l0 h4) fun x6 h5 =>
  if x6 = 0 then (some ((-1), h5)) else (cl (ds [(12, M_rounds N l0 h5)] l0 h5) fun x8 h7 =>
  gi [12] 14 l0 h7 fun x9 =>
  cl (ds [(12, M_behind N l0 x8 x9 h7)] l0 h7) fun x11 h10 =>
  cl (M_bell N x11 1 h10) fun x13 h12 =>
  if x13 = 1 then (some (0, h12)) else (some (1, h12)))) else (if x2 = 0 then (M_judgeOf_0_139 N l0 l1 x2 h) else (cl (ds [(12, M_count N l0 x2 2 h)] l0 h) fun _ h3 =>
  M_judgeOf_0_139 N l0 l1 x2 h3)))
def M_judgeOf_1_37 (N : Nat) : Nat → Option Nat → Int32 → Int32 → Hp → Option (Int32 × Hp)
  | 0, _, _, _, _ => none
  | n + 1, l0, l1, l3, h =>
  gr [12] 11 l0 h fun x1 =>
  li 13 x1 l1 h fun x2 =>
  if x2 ≤ l3 then (some (1, h)) else (gr [12] 12 l0 h fun x3 =>
  li 13 x3 (((6 : Int32) * l1) + l3) h fun x4 =>
  cl (ds [(12, M_judgeOf_0 N l0 x4 h)] l0 h) fun x6 h5 =>
  if 1 ≤ x6 then (nm (l3 + 1) fun x7 =>
  M_judgeOf_1_37 N n l0 l1 x7 h5) else (some (x6, h5)))
def M_judgeOf_1_269 (N : Nat) (l3 : Int32) (h : Hp) : Option (Int32 × Hp) :=
  if l3 = 0 then (some (0, h)) else (some (1, h))
def M_judgeOf_1_248 (N : Nat) (l0 : Option Nat) (l1 : Int32) (l2 : Int32) (u0 : Int32) (u1 : Int32) (h : Hp) : Option (Int32 × Hp) :=
  nm (u0 &&& u1) fun x1 =>
  if l2 = 3 then (cl (ds [(12, M_leadOf N l0 l1 0 h)] l0 h) fun x3 h2 =>
  cl (ds [(12, M_isSurprising N l0 h2)] l0 h2) fun x5 h4 =>
  nm (x1 &&& x5) fun x6 =>
  M_judgeOf_1_269 N x6 h4) else (M_judgeOf_1_269 N x1 h)
def M_judgeOf_1_192 (N : Nat) (l0 : Option Nat) (l1 : Int32) (l2 : Int32) (u0 : Int32) (h : Hp) : Option (Int32 × Hp) :=
  if l2 = 0 then (if u0 = 0 then (some (0, h)) else (some (1, h))) else (cl (ds [(12, M_leadOf N l0 l1 0 h)] l0 h) fun x2 h1 =>
  cl (ds [(12, M_hunt N l0 h1)] l0 h1) fun _ h3 =>
  if l2 = 1 then (gr [12] 57 l0 h3 fun x6 =>
  gi [12] 2 l0 h3 fun x7 =>
  li 13 x6 x7 h3 fun x8 =>
  if x8 = 0 then (M_judgeOf_1_248 N l0 l1 l2 u0 1 h3) else (M_judgeOf_1_248 N l0 l1 l2 u0 0 h3)) else (cl (ds [(12, M_isEven N l0 h3)] l0 h3) fun x5 h4 =>
  M_judgeOf_1_248 N l0 l1 l2 u0 x5 h4))
def M_judgeOf_1_150 (N : Nat) (l0 : Option Nat) (l1 : Int32) (l2 : Int32) (h : Hp) : Option (Int32 × Hp) :=
  cl (ds [(12, M_count N l0 0 2 h)] l0 h) fun _ h1 =>
  cl (ds [(12, M_leadOf N l0 l1 0 h1)] l0 h1) fun x3 h2 =>
  if x3 = 0 then (some ((-1), h2)) else (cl (ds [(12, M_rounds N l0 h2)] l0 h2) fun x5 h4 =>
  gi [12] 14 l0 h4 fun x6 =>
  cl (ds [(12, M_behind N l0 x5 x6 h4)] l0 h4) fun x8 h7 =>
  cl (M_bell N x8 1 h7) fun x10 h9 =>
  if x10 = 1 then (M_judgeOf_1_192 N l0 l1 l2 1 h9) else (M_judgeOf_1_192 N l0 l1 l2 0 h9))
def M_judgeOf_1_139 (N : Nat) (l0 : Option Nat) (l1 : Int32) (l2 : Int32) (h : Hp) : Option (Int32 × Hp) :=
  if l2 = 3 then (cl (ds [(12, M_count N l0 2 2 h)] l0 h) fun _ h1 =>
  M_judgeOf_1_150 N l0 l1 l2 h1) else (M_judgeOf_1_150 N l0 l1 l2 h)
def M_judgeOf_1 (N : Nat) (l0 : Option Nat) (l1 : Int32) (h : Hp) : Option (Int32 × Hp) :=
  gr [12] 6 l0 h fun x1 =>
  li 13 x1 l1 h fun x2 =>
  if x2 = 5 then (cl (ds [(12, M_count N l0 5 2 h)] l0 h) fun _ h14 =>
  gr [12] 11 l0 h14 fun x15 =>
  li 13 x15 l1 h14 fun x16 =>
  if x16 = 0 then (pi [12] 15 l0 7 h14 fun h17 =>
  some ((-1), h17)) else (M_judgeOf_1_37 N N l0 l1 0 h14)) else (if x2 = 4 then (cl (ds [(12, M_count N l0 4 2 h)] l0 h) fun _ h4 =>
  cl (ds [(12, M_leadOf N l0 l1 0 h4)] l0 h4) fun x6 h5 =>
  if x6 = 0 then (some ((-1), h5)) else (cl (ds [(12, M_rounds N l0 h5)] l0 h5) fun x8 h7 =>
  gi [12] 14 l0 h7 fun x9 =>
  cl (ds [(12, M_behind N l0 x8 x9 h7)] l0 h7) fun x11 h10 =>
  cl (M_bell N x11 1 h10) fun x13 h12 =>
  if x13 = 1 then (some (0, h12)) else (some (1, h12)))) else (if x2 = 0 then (M_judgeOf_1_139 N l0 l1 x2 h) else (cl (ds [(12, M_count N l0 x2 2 h)] l0 h) fun _ h3 =>
  M_judgeOf_1_139 N l0 l1 x2 h3)))
def M_lead_76 (N : Nat) (l0 : Option Nat) (l4 : Int32) (u0 : Option Nat) (u1 : Int32) (h : Hp) : Option (Int32 × Hp) :=
  cl (ds [(12, M_finds N u0 u1 h)] u0 h) fun x2 h1 =>
  if x2 = 0 then (gr [12] 13 l0 h1 fun x3 =>
  li 13 x3 l4 h1 fun x4 =>
  some (x4, h1)) else (some ((-1), h1))
def M_lead_71 (N : Nat) (l0 : Option Nat) (l4 : Int32) (u0 : Option Nat) (h : Hp) : Option (Int32 × Hp) :=
  M_lead_76 N l0 l4 u0 2 h
def M_lead_31 (N : Nat) (l0 : Option Nat) (l1 : Int32) (l2 : Int32) (l3 : Int32) (l4 : Int32) (u0 : Option Nat) (u1 : Int32) (h : Hp) : Option (Int32 × Hp) :=
  cl (ds [(12, M_finds N u0 u1 h)] u0 h) fun x2 h1 =>
  if x2 = 0 then (cl (ds [(12, M_calledOf N l0 l1 l2 l3 h1)] l0 h1) fun x4 h3 =>
  if x4 = 0 then (gi [12] 15 l0 h3 fun x6 =>
  M_lead_76 N l0 l4 l0 x6 h3) else (if l4 < 0 then (M_lead_71 N l0 l4 l0 h3) else (gi [12] 14 l0 h3 fun x5 =>
  if l4 < x5 then (M_lead_76 N l0 l4 l0 0 h3) else (M_lead_71 N l0 l4 l0 h3)))) else (some ((-1), h1))
def M_lead_26 (N : Nat) (l0 : Option Nat) (l1 : Int32) (l2 : Int32) (l3 : Int32) (l4 : Int32) (u0 : Option Nat) (h : Hp) : Option (Int32 × Hp) :=
  M_lead_31 N l0 l1 l2 l3 l4 u0 2 h
def M_lead (N : Nat) (l0 : Option Nat) (l1 : Int32) (l2 : Int32) (l3 : Int32) (l4 : Int32) (h : Hp) : Option (Int32 × Hp) :=
  cl (ds [(12, M_isMethod N l0 l1 h)] l0 h) fun x2 h1 =>
  if x2 = 0 then (M_lead_31 N l0 l1 l2 l3 l4 l0 4 h1) else (if l2 < 0 then (M_lead_26 N l0 l1 l2 l3 l4 l0 h1) else (if l3 < 0 then (M_lead_26 N l0 l1 l2 l3 l4 l0 h1) else (if l3 ≤ 2 then (M_lead_31 N l0 l1 l2 l3 l4 l0 0 h1) else (M_lead_26 N l0 l1 l2 l3 l4 l0 h1))))
def M_judge_41 (N : Nat) (l2 : Int32) (u0 : Option Nat) (u1 : Int32) (h : Hp) : Option (Int32 × Hp) :=
  cl (ds [(12, M_finds N u0 u1 h)] u0 h) fun x2 h1 =>
  if x2 = 0 then (some (l2, h1)) else (some (0, h1))
def M_judge_14 (N : Nat) (l0 : Option Nat) (l1 : Int32) (u0 : Option Nat) (u1 : Int32) (h : Hp) : Option (Int32 × Hp) :=
  cl (ds [(12, M_finds N u0 u1 h)] u0 h) fun x2 h1 =>
  if x2 = 0 then (cl (ds [(12, M_judgeOf_1 N l0 l1 h1)] l0 h1) fun x4 h3 =>
  if 0 ≤ x4 then (M_judge_41 N x4 l0 0 h3) else (gi [12] 15 l0 h3 fun x5 =>
  M_judge_41 N x4 l0 x5 h3)) else (some (0, h1))
def M_judge (N : Nat) (l0 : Option Nat) (l1 : Int32) (h : Hp) : Option (Int32 × Hp) :=
  cl (ds [(12, M_isMethod N l0 l1 h)] l0 h) fun x2 h1 =>
  if x2 = 0 then (M_judge_14 N l0 l1 l0 4 h1) else (M_judge_14 N l0 l1 l0 0 h1)
def M_leadHead_52 (N : Nat) (l0 : Option Nat) (u0 : Option Nat) (u1 : Int32) (h : Hp) : Option (Int64 × Hp) :=
  cl (ds [(12, M_finds N u0 u1 h)] u0 h) fun x2 h1 =>
  if x2 = 0 then (cl (ds [(12, M_rounds N l0 h1)] l0 h1) fun x4 h3 =>
  gi [12] 14 l0 h3 fun x5 =>
  cl (ds [(12, M_behind N l0 x4 x5 h3)] l0 h3) fun x7 h6 =>
  some (x7, h6)) else (some (0, h1))
def M_leadHead_27 (N : Nat) (l0 : Option Nat) (l1 : Int32) (l2 : Int32) (u0 : Option Nat) (u1 : Int32) (h : Hp) : Option (Int64 × Hp) :=
  cl (ds [(12, M_finds N u0 u1 h)] u0 h) fun x2 h1 =>
  if x2 = 0 then (cl (ds [(12, M_calledOf N l0 l1 0 l2 h1)] l0 h1) fun x4 h3 =>
  if x4 = 0 then (gi [12] 15 l0 h3 fun x5 =>
  M_leadHead_52 N l0 l0 x5 h3) else (M_leadHead_52 N l0 l0 0 h3)) else (some (0, h1))
def M_leadHead_22 (N : Nat) (l0 : Option Nat) (l1 : Int32) (l2 : Int32) (u0 : Option Nat) (h : Hp) : Option (Int64 × Hp) :=
  M_leadHead_27 N l0 l1 l2 u0 2 h
def M_leadHead (N : Nat) (l0 : Option Nat) (l1 : Int32) (l2 : Int32) (h : Hp) : Option (Int64 × Hp) :=
  cl (ds [(12, M_isMethod N l0 l1 h)] l0 h) fun x2 h1 =>
  if x2 = 0 then (M_leadHead_27 N l0 l1 l2 l0 4 h1) else (if l2 < 0 then (M_leadHead_22 N l0 l1 l2 l0 h1) else (if l2 ≤ 2 then (M_leadHead_27 N l0 l1 l2 l0 0 h1) else (M_leadHead_22 N l0 l1 l2 l0 h1)))
def M_orderOf_5 (N : Nat) : Nat → Option Nat → Int64 → Int64 → Int32 → Hp → Option (Int32 × Hp)
  | 0, _, _, _, _, _ => none
  | n + 1, l0, l1, l3, l5, h =>
  cl (ds [(12, M_rounds N l0 h)] l0 h) fun x2 h1 =>
  if (lg_cmp l3 x2) = 0 then (some (l5, h1)) else (cl (ds [(12, M_times N l0 l3 l1 h1)] l0 h1) fun x4 h3 =>
  nm (l5 + 1) fun x5 =>
  M_orderOf_5 N n l0 l1 x4 x5 h3)
def M_orderOf (N : Nat) (l0 : Option Nat) (l1 : Int64) (h : Hp) : Option (Int32 × Hp) :=
  M_orderOf_5 N N l0 l1 l1 1 h
def M_course_38 (N : Nat) (l0 : Option Nat) (u0 : Option Nat) (u1 : Int32) (h : Hp) : Option (Int32 × Hp) :=
  cl (ds [(12, M_finds N u0 u1 h)] u0 h) fun x2 h1 =>
  if x2 = 0 then (cl (ds [(12, M_rounds N l0 h1)] l0 h1) fun x4 h3 =>
  gi [12] 14 l0 h3 fun x5 =>
  cl (ds [(12, M_behind N l0 x4 x5 h3)] l0 h3) fun x7 h6 =>
  cl (ds [(12, M_orderOf N l0 x7 h6)] l0 h6) fun x9 h8 =>
  some (x9, h8)) else (some (0, h1))
def M_course_14 (N : Nat) (l0 : Option Nat) (l1 : Int32) (u0 : Option Nat) (u1 : Int32) (h : Hp) : Option (Int32 × Hp) :=
  cl (ds [(12, M_finds N u0 u1 h)] u0 h) fun x2 h1 =>
  if x2 = 0 then (cl (ds [(12, M_leadOf N l0 l1 0 h1)] l0 h1) fun x4 h3 =>
  if x4 = 0 then (gi [12] 15 l0 h3 fun x5 =>
  M_course_38 N l0 l0 x5 h3) else (M_course_38 N l0 l0 0 h3)) else (some (0, h1))
def M_course (N : Nat) (l0 : Option Nat) (l1 : Int32) (h : Hp) : Option (Int32 × Hp) :=
  cl (ds [(12, M_isMethod N l0 l1 h)] l0 h) fun x2 h1 =>
  if x2 = 0 then (M_course_14 N l0 l1 l0 4 h1) else (M_course_14 N l0 l1 l0 0 h1)
def M_falseness_182 (N : Nat) (re115 : Option Nat → Int64 → Int32 → Int32 → Hp → Option (Int32 × Hp)) (l0 : Option Nat) (l4 : Int64) (l7 : Int32) (u0 : Int32) (u1 : Int32) (h : Hp) : Option (Int32 × Hp) :=
  nm (u0 + u1) fun x1 =>
  gr [12] 13 l0 h fun x2 =>
  li 13 x2 l7 h fun x3 =>
  cl (M_done N l4 x3 h) fun x5 h4 =>
  nm (l7 + 1) fun x6 =>
  re115 l0 x5 x1 x6 h4
def M_falseness_170 (N : Nat) (re115 : Option Nat → Int64 → Int32 → Int32 → Hp → Option (Int32 × Hp)) (l0 : Option Nat) (l4 : Int64) (l6 : Int32) (l7 : Int32) (l8 : Int32) (h : Hp) : Option (Int32 × Hp) :=
  if l8 = 0 then (M_falseness_182 N re115 l0 l4 l7 l6 0 h) else (M_falseness_182 N re115 l0 l4 l7 l6 1 h)
def M_falseness_162 (N : Nat) (re115 : Option Nat → Int64 → Int32 → Int32 → Hp → Option (Int32 × Hp)) (re130 : Option Nat → Int64 → Int32 → Int32 → Int32 → Int32 → Hp → Option (Int32 × Hp)) (l0 : Option Nat) (l4 : Int64) (l6 : Int32) (l7 : Int32) (l9 : Int32) (u0 : Int32) (h : Hp) : Option (Int32 × Hp) :=
  nm (l9 + 1) fun x1 =>
  re130 l0 l4 l6 l7 u0 x1 h
def M_falseness_130 (N : Nat) (re115 : Option Nat → Int64 → Int32 → Int32 → Hp → Option (Int32 × Hp)) : Nat → Option Nat → Int64 → Int32 → Int32 → Int32 → Int32 → Hp → Option (Int32 × Hp)
  | 0, _, _, _, _, _, _, _ => none
  | n + 1, l0, l4, l6, l7, l8, l9, h =>
  gi [12] 14 l0 h fun x1 =>
  if x1 ≤ l9 then (M_falseness_170 N re115 l0 l4 l6 l7 l8 h) else (if l8 = 0 then (gr [12] 58 l0 h fun x2 =>
  ll x2 l9 h fun x3 =>
  if (lg_cmp x3 l4) = 0 then (M_falseness_162 N re115 (M_falseness_130 N re115 n) l0 l4 l6 l7 l9 1 h) else (M_falseness_162 N re115 (M_falseness_130 N re115 n) l0 l4 l6 l7 l9 0 h)) else (M_falseness_170 N re115 l0 l4 l6 l7 l8 h))
def M_falseness_115 (N : Nat) : Nat → Option Nat → Int64 → Int32 → Int32 → Hp → Option (Int32 × Hp)
  | 0, _, _, _, _, _ => none
  | n + 1, l0, l4, l6, l7, h =>
  gi [12] 14 l0 h fun x1 =>
  if x1 ≤ l7 then (some (l6, h)) else (M_falseness_130 N (M_falseness_115 N n) N l0 l4 l6 l7 0 0 h)
def M_falseness_65 (N : Nat) : Nat → Option Nat → Int64 → Int32 → Hp → Option (Int32 × Hp)
  | 0, _, _, _, _ => none
  | n + 1, l0, l4, l6, h =>
  gi [12] 14 l0 h fun x1 =>
  if x1 ≤ l6 then (cl (ds [(12, M_rounds N l0 h)] l0 h) fun x3 h2 =>
  M_falseness_115 N N l0 x3 0 0 h2) else (gr [12] 58 l0 h fun x4 =>
  sl x4 l6 l4 h fun h5 =>
  gr [12] 13 l0 h5 fun x6 =>
  li 13 x6 l6 h5 fun x7 =>
  cl (M_done N l4 x7 h5) fun x9 h8 =>
  nm (l6 + 1) fun x10 =>
  M_falseness_65 N n l0 x9 x10 h8)
def M_falseness_51 (N : Nat) (l0 : Option Nat) (l2 : Int64) (u0 : Option Nat) (u1 : Int32) (h : Hp) : Option (Int32 × Hp) :=
  cl (ds [(12, M_finds N u0 u1 h)] u0 h) fun x2 h1 =>
  if x2 = 0 then (M_falseness_65 N N l0 l2 0 h1) else (some (0, h1))
def M_falseness_27 (N : Nat) (l0 : Option Nat) (l1 : Int32) (l2 : Int64) (u0 : Option Nat) (u1 : Int32) (h : Hp) : Option (Int32 × Hp) :=
  cl (ds [(12, M_finds N u0 u1 h)] u0 h) fun x2 h1 =>
  if x2 = 0 then (cl (ds [(12, M_leadOf N l0 l1 0 h1)] l0 h1) fun x4 h3 =>
  if x4 = 0 then (gi [12] 15 l0 h3 fun x5 =>
  M_falseness_51 N l0 l2 l0 x5 h3) else (M_falseness_51 N l0 l2 l0 0 h3)) else (some (0, h1))
def M_falseness (N : Nat) (l0 : Option Nat) (l1 : Int32) (l2 : Int64) (h : Hp) : Option (Int32 × Hp) :=
  cl (ds [(12, M_isMethod N l0 l1 h)] l0 h) fun x2 h1 =>
  if x2 = 0 then (M_falseness_27 N l0 l1 l2 l0 4 h1) else (cl (ds [(12, M_isRow N l0 l2 h1)] l0 h1) fun x4 h3 =>
  if x4 = 0 then (M_falseness_27 N l0 l1 l2 l0 8 h3) else (M_falseness_27 N l0 l1 l2 l0 0 h3))
def M_trace_62 (N : Nat) (l0 : Option Nat) (l1 : Int32) (l2 : Int32) (u0 : Int32) (h : Hp) : Option (Int32 × Hp) :=
  if u0 = 0 then (some ((-1), h)) else (gr [12] 4 l0 h fun x1 =>
  li 13 x1 (((3 : Int32) * l1) + l2) h fun x2 =>
  some (x2, h))
def M_trace_39 (N : Nat) (l0 : Option Nat) (l1 : Int32) (l2 : Int32) (h : Hp) : Option (Int32 × Hp) :=
  M_trace_62 N l0 l1 l2 1 h
def M_trace_57 (N : Nat) (l0 : Option Nat) (l1 : Int32) (l2 : Int32) (h : Hp) : Option (Int32 × Hp) :=
  M_trace_62 N l0 l1 l2 1 h
def M_trace (N : Nat) (l0 : Option Nat) (l1 : Int32) (l2 : Int32) (h : Hp) : Option (Int32 × Hp) :=
  if l1 < 0 then (some ((-1), h)) else (if 6 ≤ l1 then (some ((-1), h)) else (if l2 < 0 then (some ((-1), h)) else (if l2 ≤ 2 then (if l2 = 0 then (if l1 = 0 then (M_trace_39 N l0 l1 l2 h) else (if l1 = 4 then (M_trace_39 N l0 l1 l2 h) else (if l1 = 5 then (M_trace_39 N l0 l1 l2 h) else (M_trace_62 N l0 l1 l2 0 h)))) else (if l2 = 2 then (M_trace_57 N l0 l1 l2 h) else (if l1 = 2 then (M_trace_62 N l0 l1 l2 0 h) else (M_trace_57 N l0 l1 l2 h)))) else (some ((-1), h)))))
def M_change_23 (N : Nat) (l1 : Int64) (l3 : Int32) (u0 : Option Nat) (u1 : Int32) (h : Hp) : Option (Int64 × Hp) :=
  cl (ds [(12, M_finds N u0 u1 h)] u0 h) fun x2 h1 =>
  if x2 = 0 then (cl (M_done N l1 l3 h1) fun x4 h3 =>
  some (x4, h3)) else (some (0, h1))
def M_change_21 (N : Nat) (l1 : Int64) (l3 : Int32) (u0 : Option Nat) (h : Hp) : Option (Int64 × Hp) :=
  M_change_23 N l1 l3 u0 8 h
def M_change (N : Nat) (l0 : Option Nat) (l1 : Int64) (l3 : Int32) (h : Hp) : Option (Int64 × Hp) :=
  cl (ds [(12, M_isRow N l0 l1 h)] l0 h) fun x2 h1 =>
  if x2 = 0 then (M_change_21 N l1 l3 l0 h1) else (cl (ds [(12, M_isChange N l0 l3 h1)] l0 h1) fun x4 h3 =>
  if x4 = 0 then (M_change_21 N l1 l3 l0 h3) else (M_change_23 N l1 l3 l0 0 h3))
def M_number_15 (N : Nat) (l0 : Option Nat) (l1 : Int64) (u0 : Option Nat) (u1 : Int32) (h : Hp) : Option (Int32 × Hp) :=
  cl (ds [(12, M_finds N u0 u1 h)] u0 h) fun x2 h1 =>
  if x2 = 0 then (cl (ds [(12, M_numberOf N l0 l1 h1)] l0 h1) fun x4 h3 =>
  some (x4, h3)) else (some ((-1), h1))
def M_number (N : Nat) (l0 : Option Nat) (l1 : Int64) (h : Hp) : Option (Int32 × Hp) :=
  cl (ds [(12, M_isRow N l0 l1 h)] l0 h) fun x2 h1 =>
  if x2 = 0 then (M_number_15 N l0 l1 l0 8 h1) else (M_number_15 N l0 l1 l0 0 h1)
def M_ofNumber_18 (N : Nat) (l0 : Option Nat) (l1 : Int32) (u0 : Option Nat) (u1 : Int32) (h : Hp) : Option (Int64 × Hp) :=
  cl (ds [(12, M_finds N u0 u1 h)] u0 h) fun x2 h1 =>
  if x2 = 0 then (cl (ds [(12, M_rowOf N l0 l1 h1)] l0 h1) fun x4 h3 =>
  some (x4, h3)) else (some (0, h1))
def M_ofNumber_17 (N : Nat) (l0 : Option Nat) (l1 : Int32) (u0 : Option Nat) (h : Hp) : Option (Int64 × Hp) :=
  M_ofNumber_18 N l0 l1 u0 2 h
def M_ofNumber (N : Nat) (l0 : Option Nat) (l1 : Int32) (h : Hp) : Option (Int64 × Hp) :=
  if l1 < 0 then (M_ofNumber_17 N l0 l1 l0 h) else (cl (ds [(12, M_all N l0 h)] l0 h) fun x2 h1 =>
  if x2 ≤ l1 then (M_ofNumber_17 N l0 l1 l0 h1) else (M_ofNumber_18 N l0 l1 l0 0 h1))
def M_product_23 (N : Nat) (l0 : Option Nat) (l1 : Int64) (l3 : Int64) (u0 : Option Nat) (u1 : Int32) (h : Hp) : Option (Int64 × Hp) :=
  cl (ds [(12, M_finds N u0 u1 h)] u0 h) fun x2 h1 =>
  if x2 = 0 then (cl (ds [(12, M_times N l0 l1 l3 h1)] l0 h1) fun x4 h3 =>
  some (x4, h3)) else (some (0, h1))
def M_product_21 (N : Nat) (l0 : Option Nat) (l1 : Int64) (l3 : Int64) (u0 : Option Nat) (h : Hp) : Option (Int64 × Hp) :=
  M_product_23 N l0 l1 l3 u0 8 h
def M_product (N : Nat) (l0 : Option Nat) (l1 : Int64) (l3 : Int64) (h : Hp) : Option (Int64 × Hp) :=
  cl (ds [(12, M_isRow N l0 l1 h)] l0 h) fun x2 h1 =>
  if x2 = 0 then (M_product_21 N l0 l1 l3 l0 h1) else (cl (ds [(12, M_isRow N l0 l3 h1)] l0 h1) fun x4 h3 =>
  if x4 = 0 then (M_product_21 N l0 l1 l3 l0 h3) else (M_product_23 N l0 l1 l3 l0 0 h3))
def M_inverse_28 (N : Nat) : Nat → Option Nat → Int64 → Int64 → Int32 → Hp → Option (Int64 × Hp)
  | 0, _, _, _, _, _ => none
  | n + 1, l0, l1, l3, l5, h =>
  gi [12] 2 l0 h fun x1 =>
  if x1 < l5 then (some (l3, h)) else (cl (M_bell N l1 l5 h) fun x3 h2 =>
  nm (l3 + ((Int32.toInt64 l5) <<< (Int32.toInt64 ((4 : Int32) * (x3 - (1 : Int32))) &&& 63))) fun x4 =>
  nm (l5 + 1) fun x5 =>
  M_inverse_28 N n l0 l1 x4 x5 h2)
def M_inverse_15 (N : Nat) (l0 : Option Nat) (l1 : Int64) (u0 : Option Nat) (u1 : Int32) (h : Hp) : Option (Int64 × Hp) :=
  cl (ds [(12, M_finds N u0 u1 h)] u0 h) fun x2 h1 =>
  if x2 = 0 then (M_inverse_28 N N l0 l1 0 1 h1) else (some (0, h1))
def M_inverse (N : Nat) (l0 : Option Nat) (l1 : Int64) (h : Hp) : Option (Int64 × Hp) :=
  cl (ds [(12, M_isRow N l0 l1 h)] l0 h) fun x2 h1 =>
  if x2 = 0 then (M_inverse_15 N l0 l1 l0 8 h1) else (M_inverse_15 N l0 l1 l0 0 h1)
def M_order_15 (N : Nat) (l0 : Option Nat) (l1 : Int64) (u0 : Option Nat) (u1 : Int32) (h : Hp) : Option (Int32 × Hp) :=
  cl (ds [(12, M_finds N u0 u1 h)] u0 h) fun x2 h1 =>
  if x2 = 0 then (cl (ds [(12, M_orderOf N l0 l1 h1)] l0 h1) fun x4 h3 =>
  some (x4, h3)) else (some (0, h1))
def M_order (N : Nat) (l0 : Option Nat) (l1 : Int64) (h : Hp) : Option (Int32 × Hp) :=
  cl (ds [(12, M_isRow N l0 l1 h)] l0 h) fun x2 h1 =>
  if x2 = 0 then (M_order_15 N l0 l1 l0 8 h1) else (M_order_15 N l0 l1 l0 0 h1)
def M_touch_36 (N : Nat) (l0 : Option Nat) (l1 : Int32) (l2 : Int32) (u0 : Option Nat) (u1 : Int32) (h : Hp) : Option (Int32 × Hp) :=
  cl (ds [(12, M_finds N u0 u1 h)] u0 h) fun x2 h1 =>
  if x2 = 0 then (gr [12] 17 l0 h1 fun x3 =>
  gi [12] 19 l0 h1 fun x4 =>
  si x3 x4 l1 h1 fun h5 =>
  gr [12] 18 l0 h5 fun x6 =>
  gi [12] 19 l0 h5 fun x7 =>
  si x6 x7 l2 h5 fun h8 =>
  gi [12] 19 l0 h8 fun x9 =>
  pi [12] 19 l0 (x9 + (1 : Int32)) h8 fun h10 =>
  gi [12] 19 l0 h10 fun x11 =>
  some (x11, h10)) else (some (0, h1))
def M_touch_31 (N : Nat) (l0 : Option Nat) (l1 : Int32) (l2 : Int32) (u0 : Option Nat) (h : Hp) : Option (Int32 × Hp) :=
  M_touch_36 N l0 l1 l2 u0 2 h
def M_touch (N : Nat) (l0 : Option Nat) (l1 : Int32) (l2 : Int32) (h : Hp) : Option (Int32 × Hp) :=
  cl (ds [(12, M_isMethod N l0 l1 h)] l0 h) fun x2 h1 =>
  if x2 = 0 then (M_touch_36 N l0 l1 l2 l0 4 h1) else (if l2 < 0 then (M_touch_31 N l0 l1 l2 l0 h1) else (if 2 < l2 then (M_touch_31 N l0 l1 l2 l0 h1) else (gi [12] 19 l0 h1 fun x3 =>
  if x3 = 100 then (M_touch_31 N l0 l1 l2 l0 h1) else (M_touch_36 N l0 l1 l2 l0 0 h1))))
def M_clear (N : Nat) (l0 : Option Nat) (h : Hp) : Option (Int32 × Hp) :=
  pi [12] 19 l0 0 h fun h1 =>
  cl (ds [(12, M_anew N l0 h1)] l0 h1) fun _ h2 =>
  some (1, h2)
def M_ring (N : Nat) (l0 : Option Nat) (h : Hp) : Option (Int32 × Hp) :=
  cl (ds [(12, M_anew N l0 h)] l0 h) fun _ h1 =>
  some (1, h1)
def M_rings_228 (N : Nat) (l0 : Option Nat) (u0 : Option Nat) (u1 : Int32) (h : Hp) : Option (Int32 × Hp) :=
  pz [12] 26 u0 u1 h fun h1 =>
  gi [12] 21 l0 h1 fun x2 =>
  pi [12] 21 l0 (x2 + (1 : Int32)) h1 fun h3 =>
  rz 1 h3
def M_rings_223 (N : Nat) (l0 : Option Nat) (u0 : Option Nat) (h : Hp) : Option (Int32 × Hp) :=
  M_rings_228 N l0 u0 1 h
def M_rings_205 (N : Nat) (l0 : Option Nat) (h : Hp) : Option (Int32 × Hp) :=
  gi [12] 27 l0 h fun x1 =>
  if 0 ≤ x1 then (M_rings_223 N l0 l0 h) else (gi [12] 21 l0 h fun x2 =>
  if x2 = 2000 then (M_rings_223 N l0 l0 h) else (M_rings_228 N l0 l0 0 h))
def M_rings_129 (N : Nat) (l0 : Option Nat) (h : Hp) : Option (Int32 × Hp) :=
  gi [12] 26 l0 h fun x1 =>
  if x1 = 0 then (gr [12] 20 l0 h fun x2 =>
  gi [12] 21 l0 h fun x3 =>
  gr [12] 20 l0 h fun x4 =>
  gi [12] 21 l0 h fun x5 =>
  ll x4 (x5 - (1 : Int32)) h fun x6 =>
  gr [12] 23 l0 h fun x7 =>
  gi [12] 25 l0 h fun x8 =>
  li 13 x7 x8 h fun x9 =>
  cl (M_done N x6 x9 h) fun x11 h10 =>
  sl x2 x3 x11 h10 fun h12 =>
  gi [12] 25 l0 h12 fun x13 =>
  pi [12] 25 l0 (x13 + (1 : Int32)) h12 fun h14 =>
  gr [12] 20 l0 h14 fun x15 =>
  gi [12] 21 l0 h14 fun x16 =>
  ll x15 x16 h14 fun x17 =>
  cl (ds [(12, M_rounds N l0 h14)] l0 h14) fun x19 h18 =>
  if (lg_cmp x17 x19) = 0 then (gi [12] 21 l0 h18 fun x20 =>
  pi [12] 27 l0 x20 h18 fun h21 =>
  M_rings_205 N l0 h21) else (M_rings_205 N l0 h18)) else (rz 0 h)
def M_rings_77 (N : Nat) (re0 : Option Nat → Hp → Option (Int32 × Hp)) : Nat → Option Nat → Int32 → Hp → Option (Int32 × Hp)
  | 0, _, _, _ => none
  | n + 1, l0, l1, h =>
  gi [12] 14 l0 h fun x1 =>
  if x1 ≤ l1 then (gi [12] 14 l0 h fun x2 =>
  pi [12] 24 l0 x2 h fun h3 =>
  pi [12] 25 l0 0 h3 fun h4 =>
  gi [12] 22 l0 h4 fun x5 =>
  pi [12] 22 l0 (x5 + (1 : Int32)) h4 fun h6 =>
  re0 l0 h6) else (gr [12] 23 l0 h fun x7 =>
  gr [12] 13 l0 h fun x8 =>
  li 13 x8 l1 h fun x9 =>
  si x7 l1 x9 h fun h10 =>
  nm (l1 + 1) fun x11 =>
  M_rings_77 N re0 n l0 x11 h10)
def M_rings_0 (N : Nat) : Nat → Option Nat → Hp → Option (Int32 × Hp)
  | 0, _, _ => none
  | n + 1, l0, h =>
  gi [12] 26 l0 h fun x1 =>
  if x1 = 0 then (gi [12] 25 l0 h fun x2 =>
  gi [12] 24 l0 h fun x3 =>
  if x2 = x3 then (gi [12] 22 l0 h fun x4 =>
  gi [12] 19 l0 h fun x5 =>
  if x4 = x5 then (rz 0 h) else (gr [12] 17 l0 h fun x6 =>
  gi [12] 22 l0 h fun x7 =>
  li 13 x6 x7 h fun x8 =>
  gi [12] 22 l0 h fun x9 =>
  gr [12] 18 l0 h fun x10 =>
  gi [12] 22 l0 h fun x11 =>
  li 13 x10 x11 h fun x12 =>
  cl (ds [(12, M_calledOf N l0 x8 x9 x12 h)] l0 h) fun x14 h13 =>
  if x14 = 0 then (gi [12] 15 l0 h13 fun x15 =>
  pi [12] 3 l0 x15 h13 fun h16 =>
  pz [12] 26 l0 1 h16 fun h17 =>
  rz 0 h17) else (M_rings_77 N (M_rings_0 N n) N l0 0 h13))) else (M_rings_129 N l0 h)) else (M_rings_129 N l0 h)
def M_rings (N : Nat) (l0 : Option Nat) (h : Hp) : Option (Int32 × Hp) :=
  M_rings_0 N N l0 h
def M_on_43 (N : Nat) (l0 : Option Nat) (h : Hp) : Option (Int32 × Hp) :=
  gi [12] 21 l0 h fun x1 =>
  some ((x1 - (1 : Int32)), h)
def M_on_25 (N : Nat) : Nat → Option Nat → Int32 → Int32 → Hp → Option (Int32 × Hp)
  | 0, _, _, _, _ => none
  | n + 1, l0, l1, l2, h =>
  if l1 ≤ l2 then (M_on_43 N l0 h) else (cl (ds [(12, M_rings N l0 h)] l0 h) fun x2 h1 =>
  if x2 = 0 then (M_on_43 N l0 h1) else (nm (l2 + 1) fun x3 =>
  M_on_25 N n l0 l1 x3 h1))
def M_on_17 (N : Nat) (l0 : Option Nat) (l1 : Int32) (u0 : Option Nat) (u1 : Int32) (h : Hp) : Option (Int32 × Hp) :=
  cl (ds [(12, M_finds N u0 u1 h)] u0 h) fun x2 h1 =>
  if x2 = 0 then (M_on_25 N N l0 l1 0 h1) else (M_on_43 N l0 h1)
def M_on_12 (N : Nat) (l0 : Option Nat) (l1 : Int32) (u0 : Option Nat) (h : Hp) : Option (Int32 × Hp) :=
  M_on_17 N l0 l1 u0 2 h
def M_on (N : Nat) (l0 : Option Nat) (l1 : Int32) (h : Hp) : Option (Int32 × Hp) :=
  if l1 < 0 then (M_on_12 N l0 l1 l0 h) else (if l1 ≤ 1000 then (M_on_17 N l0 l1 l0 0 h) else (M_on_12 N l0 l1 l0 h))
def M_at (N : Nat) (l0 : Option Nat) (l1 : Int32) (h : Hp) : Option (Int64 × Hp) :=
  if l1 < 0 then (some (0, h)) else (gi [12] 21 l0 h fun x1 =>
  if x1 ≤ l1 then (some (0, h)) else (gr [12] 20 l0 h fun x2 =>
  ll x2 l1 h fun x3 =>
  some (x3, h)))
def M_round (N : Nat) (l0 : Option Nat) (h : Hp) : Option (Int32 × Hp) :=
  gi [12] 27 l0 h fun x1 =>
  some (x1, h)
def M_meant (N : Nat) (l0 : Option Nat) (h : Hp) : Option (Int32 × Hp) :=
  gi [12] 27 l0 h fun x1 =>
  if x1 < 0 then (gi [12] 21 l0 h fun x2 =>
  some (x2, h)) else (gi [12] 27 l0 h fun x3 =>
  some (x3, h))
def M_falseAt_12 (N : Nat) (re2 : Option Nat → Int32 → Hp → Option (Int32 × Hp)) : Nat → Option Nat → Int32 → Int32 → Hp → Option (Int32 × Hp)
  | 0, _, _, _, _ => none
  | n + 1, l0, l1, l2, h =>
  if l1 ≤ l2 then (nm (l1 + 1) fun x1 =>
  re2 l0 x1 h) else (gr [12] 20 l0 h fun x2 =>
  ll x2 l2 h fun x3 =>
  gr [12] 20 l0 h fun x4 =>
  ll x4 l1 h fun x5 =>
  if (lg_cmp x3 x5) = 0 then (some ((((10000 : Int32) * l1) + l2), h)) else (nm (l2 + 1) fun x6 =>
  M_falseAt_12 N re2 n l0 l1 x6 h))
def M_falseAt_2 (N : Nat) : Nat → Option Nat → Int32 → Hp → Option (Int32 × Hp)
  | 0, _, _, _ => none
  | n + 1, l0, l1, h =>
  cl (ds [(12, M_meant N l0 h)] l0 h) fun x2 h1 =>
  if x2 ≤ l1 then (some ((-1), h1)) else (M_falseAt_12 N (M_falseAt_2 N n) N l0 l1 0 h1)
def M_falseAt (N : Nat) (l0 : Option Nat) (h : Hp) : Option (Int32 × Hp) :=
  M_falseAt_2 N N l0 1 h
def M_numbers_55 (N : Nat) (re2 : Option Nat → Option Nat → Int32 → Hp → Option (Unit × Hp)) (l0 : Option Nat) (l1 : Option Nat) (l2 : Int32) (l3 : Int32) (l4 : Int32) (h : Hp) : Option (Unit × Hp) :=
  si l1 l4 l3 h fun h1 =>
  nm (l2 + 1) fun x2 =>
  re2 l0 l1 x2 h1
def M_numbers_24 (N : Nat) (re2 : Option Nat → Option Nat → Int32 → Hp → Option (Unit × Hp)) : Nat → Option Nat → Option Nat → Int32 → Int32 → Int32 → Hp → Option (Unit × Hp)
  | 0, _, _, _, _, _, _ => none
  | n + 1, l0, l1, l2, l3, l4, h =>
  if l4 ≤ 0 then (M_numbers_55 N re2 l0 l1 l2 l3 l4 h) else (li 13 l1 (l4 - (1 : Int32)) h fun x1 =>
  if x1 ≤ l3 then (M_numbers_55 N re2 l0 l1 l2 l3 l4 h) else (li 13 l1 (l4 - (1 : Int32)) h fun x2 =>
  si l1 l4 x2 h fun h3 =>
  nm (l4 + (-1)) fun x4 =>
  M_numbers_24 N re2 n l0 l1 l2 l3 x4 h3))
def M_numbers_2 (N : Nat) : Nat → Option Nat → Option Nat → Int32 → Hp → Option (Unit × Hp)
  | 0, _, _, _, _ => none
  | n + 1, l0, l1, l2, h =>
  cl (ds [(12, M_meant N l0 h)] l0 h) fun x2 h1 =>
  if x2 ≤ l2 then (some ((), h1)) else (gr [12] 20 l0 h1 fun x3 =>
  ll x3 l2 h1 fun x4 =>
  cl (ds [(12, M_numberOf N l0 x4 h1)] l0 h1) fun x6 h5 =>
  M_numbers_24 N (M_numbers_2 N n) N l0 l1 l2 x6 l2 h5)
def M_numbers (N : Nat) (l0 : Option Nat) (l1 : Option Nat) (h : Hp) : Option (Unit × Hp) :=
  M_numbers_2 N N l0 l1 0 h
def M_proof (N : Nat) (l0 : Option Nat) (h : Hp) : Option (Int32 × Hp) :=
  cl (ds [(12, M_falseAt N l0 h)] l0 h) fun x2 h1 =>
  if x2 < 0 then (gr [12] 28 l0 h1 fun x3 =>
  cl (ds [(12, M_numbers N l0 x3 h1)] l0 h1) fun _ h4 =>
  cl (ds [(12, M_meant N l0 h4)] l0 h4) fun x6 h5 =>
  pi [12] 30 l0 x6 h5 fun h7 =>
  gi [12] 30 l0 h7 fun x8 =>
  some (x8, h7)) else (some ((-1), h1))
def M_proofAt (N : Nat) (l0 : Option Nat) (l1 : Int32) (h : Hp) : Option (Int32 × Hp) :=
  if l1 < 0 then (some ((-1), h)) else (gi [12] 30 l0 h fun x1 =>
  if x1 ≤ l1 then (some ((-1), h)) else (gr [12] 28 l0 h fun x2 =>
  li 13 x2 l1 h fun x3 =>
  some (x3, h)))
def M_forge (N : Nat) (l0 : Option Nat) (l1 : Int32) (l2 : Int32) (h : Hp) : Option (Int32 × Hp) :=
  if l1 < 0 then (some ((-1), h)) else (gi [12] 30 l0 h fun x1 =>
  if l1 < x1 then (gr [12] 28 l0 h fun x2 =>
  li 13 x2 l1 h fun x3 =>
  gr [12] 28 l0 h fun x4 =>
  si x4 l1 l2 h fun h5 =>
  some (x3, h5)) else (some ((-1), h)))
def M_check_30 (N : Nat) : Nat → Option Nat → Int32 → Hp → Option (Int32 × Hp)
  | 0, _, _, _ => none
  | n + 1, l0, l1, h =>
  gi [12] 30 l0 h fun x1 =>
  if x1 ≤ l1 then (rz 1 h) else (gr [12] 28 l0 h fun x2 =>
  li 13 x2 l1 h fun x3 =>
  gr [12] 29 l0 h fun x4 =>
  li 13 x4 l1 h fun x5 =>
  if x3 = x5 then (nm (l1 + 1) fun x6 =>
  M_check_30 N n l0 x6 h) else (rz 0 h))
def M_check (N : Nat) (l0 : Option Nat) (h : Hp) : Option (Int32 × Hp) :=
  gi [12] 30 l0 h fun x1 =>
  cl (ds [(12, M_meant N l0 h)] l0 h) fun x3 h2 =>
  if x1 = x3 then (cl (ds [(12, M_falseAt N l0 h2)] l0 h2) fun x5 h4 =>
  if x5 < 0 then (gr [12] 29 l0 h4 fun x6 =>
  cl (ds [(12, M_numbers N l0 x6 h4)] l0 h4) fun _ h7 =>
  M_check_30 N N l0 0 h7) else (rz 0 h4)) else (rz 0 h2)
def M_ringer_60 (N : Nat) (re35 : Option Nat → Int32 → Int32 → Hp → Option (Int32 × Hp)) (l0 : Option Nat) (l4 : Int32) (u0 : Int32) (u1 : Int32) (h : Hp) : Option (Int32 × Hp) :=
  nm (u0 + u1) fun x1 =>
  nm (l4 + 1) fun x2 =>
  re35 l0 x1 x2 h
def M_ringer_35 (N : Nat) : Nat → Option Nat → Int32 → Int32 → Hp → Option (Int32 × Hp)
  | 0, _, _, _, _ => none
  | n + 1, l0, l3, l4, h =>
  gi [12] 2 l0 h fun x1 =>
  if x1 < l4 then (some (l3, h)) else (gr [12] 31 l0 h fun x2 =>
  li 16 x2 l4 h fun x3 =>
  if x3 = 0 then (M_ringer_60 N (M_ringer_35 N n) l0 l4 l3 1 h) else (M_ringer_60 N (M_ringer_35 N n) l0 l4 l3 0 h))
def M_ringer_29 (N : Nat) (l0 : Option Nat) (u0 : Option Nat) (u1 : Int32) (u2 : Int32) (h : Hp) : Option (Int32 × Hp) :=
  sz u0 u1 u2 h fun h1 =>
  M_ringer_35 N N l0 0 1 h1
def M_ringer (N : Nat) (l0 : Option Nat) (l1 : Int32) (l2 : Int32) (h : Hp) : Option (Int32 × Hp) :=
  if l1 < 1 then (some ((-1), h)) else (gi [12] 2 l0 h fun x1 =>
  if l1 ≤ x1 then (gr [12] 31 l0 h fun x2 =>
  if l2 = 0 then (M_ringer_29 N l0 x2 l1 1 h) else (M_ringer_29 N l0 x2 l1 0 h)) else (some ((-1), h)))
def M_heard_66 (N : Nat) (re8 : Option Nat → Int32 → Int64 → Int32 → Int32 → Hp → Option (Int64 × Hp)) (l0 : Option Nat) (l1 : Int32) (l2 : Int64) (l4 : Int32) (l5 : Int32) (h : Hp) : Option (Int64 × Hp) :=
  nm (l5 + 1) fun x1 =>
  re8 l0 l1 l2 l4 x1 h
def M_heard_8 (N : Nat) : Nat → Option Nat → Int32 → Int64 → Int32 → Int32 → Hp → Option (Int64 × Hp)
  | 0, _, _, _, _, _, _ => none
  | n + 1, l0, l1, l2, l4, l5, h =>
  gi [12] 2 l0 h fun x1 =>
  if x1 < l5 then (some (l2, h)) else (if l1 < 0 then (some (l2, h)) else (gi [12] 21 l0 h fun x2 =>
  if x2 ≤ l1 then (some (l2, h)) else (gr [12] 20 l0 h fun x3 =>
  ll x3 l1 h fun x4 =>
  cl (M_bell N x4 l5 h) fun x6 h5 =>
  gr [12] 31 l0 h5 fun x7 =>
  li 16 x7 x6 h5 fun x8 =>
  if x8 = 0 then (nm (l2 + ((Int32.toInt64 x6) <<< (Int32.toInt64 ((4 : Int32) * l4) &&& 63))) fun x9 =>
  nm (l4 + 1) fun x10 =>
  M_heard_66 N (M_heard_8 N n) l0 l1 x9 x10 l5 h5) else (M_heard_66 N (M_heard_8 N n) l0 l1 l2 l4 l5 h5))))
def M_heard (N : Nat) (l0 : Option Nat) (l1 : Int32) (h : Hp) : Option (Int64 × Hp) :=
  M_heard_8 N N l0 l1 0 0 1 h
def M_fits (N : Nat) (l0 : Option Nat) (l1 : Int64) (l3 : Int64) (h : Hp) : Option (Int32 × Hp) :=
  cl (ds [(12, M_isRow N l0 l1 h)] l0 h) fun x2 h1 =>
  if x2 = 0 then (rz 0 h1) else (cl (ds [(12, M_isPattern N l0 l3 h1)] l0 h1) fun x4 h3 =>
  if x4 = 0 then (rz 0 h3) else (cl (ds [(12, M_isFitting N l0 l1 l3 h3)] l0 h3) fun x6 h5 =>
  if x6 = 0 then (rz 0 h5) else (rz 1 h5)))
def M_music_45 (N : Nat) (re15 : Option Nat → Int64 → Int32 → Int32 → Hp → Option (Int32 × Hp)) (l0 : Option Nat) (l1 : Int64) (l4 : Int32) (u0 : Int32) (u1 : Int32) (h : Hp) : Option (Int32 × Hp) :=
  nm (u0 + u1) fun x1 =>
  nm (l4 + 1) fun x2 =>
  re15 l0 l1 x1 x2 h
def M_music_15 (N : Nat) : Nat → Option Nat → Int64 → Int32 → Int32 → Hp → Option (Int32 × Hp)
  | 0, _, _, _, _, _ => none
  | n + 1, l0, l1, l3, l4, h =>
  gi [12] 21 l0 h fun x1 =>
  if x1 ≤ l4 then (some (l3, h)) else (gr [12] 20 l0 h fun x2 =>
  ll x2 l4 h fun x3 =>
  cl (ds [(12, M_isFitting N l0 x3 l1 h)] l0 h) fun x5 h4 =>
  if x5 = 0 then (M_music_45 N (M_music_15 N n) l0 l1 l4 l3 0 h4) else (M_music_45 N (M_music_15 N n) l0 l1 l4 l3 1 h4))
def M_music (N : Nat) (l0 : Option Nat) (l1 : Int64) (h : Hp) : Option (Int32 × Hp) :=
  cl (ds [(12, M_isPattern N l0 l1 h)] l0 h) fun x2 h1 =>
  if x2 = 0 then (some ((-1), h1)) else (M_music_15 N N l0 l1 0 1 h1)
def M_allow_37 (N : Nat) : Nat → Option Nat → Int32 → Int32 → Hp → Option (Int32 × Hp)
  | 0, _, _, _, _ => none
  | n + 1, l0, l3, l4, h =>
  gi [12] 5 l0 h fun x1 =>
  if x1 ≤ l4 then (some (l3, h)) else (gr [12] 32 l0 h fun x2 =>
  li 13 x2 l4 h fun x3 =>
  cl (Jk_bitCount N x3 h) fun x5 h4 =>
  nm (l3 + x5) fun x6 =>
  nm (l4 + 1) fun x7 =>
  M_allow_37 N n l0 x6 x7 h4)
def M_allow (N : Nat) (l0 : Option Nat) (l1 : Int32) (l2 : Int32) (h : Hp) : Option (Int32 × Hp) :=
  cl (ds [(12, M_isMethod N l0 l1 h)] l0 h) fun x2 h1 =>
  if x2 = 0 then (some ((-1), h1)) else (if l2 < 0 then (some ((-1), h1)) else (if l2 ≤ 7 then (gr [12] 32 l0 h1 fun x3 =>
  si x3 l1 l2 h1 fun h4 =>
  pz [12] 34 l0 1 h4 fun h5 =>
  M_allow_37 N N l0 0 0 h5) else (some ((-1), h1))))
def M_begins_125 (N : Nat) : Nat → Option Nat → Int32 → Hp → Option (Int32 × Hp)
  | 0, _, _, _ => none
  | n + 1, l0, l4, h =>
  gi [12] 14 l0 h fun x1 =>
  if x1 ≤ l4 then (gi [12] 14 l0 h fun x2 =>
  pi [12] 50 l0 x2 h fun h3 =>
  pi [12] 51 l0 0 h3 fun h4 =>
  rz 1 h4) else (gr [12] 49 l0 h fun x5 =>
  gr [12] 13 l0 h fun x6 =>
  li 13 x6 l4 h fun x7 =>
  si x5 l4 x7 h fun h8 =>
  nm (l4 + 1) fun x9 =>
  M_begins_125 N n l0 x9 h8)
def M_begins_114 (N : Nat) (l0 : Option Nat) (l3 : Int32) (u0 : Option Nat) (u1 : Int32) (u2 : Int32) (h : Hp) : Option (Int32 × Hp) :=
  sb u0 u1 (Int8.toInt32 (Int32.toInt8 u2)) h fun h1 =>
  if l3 = 0 then (rz 0 h1) else (M_begins_125 N N l0 0 h1)
def M_begins_94 (N : Nat) (l0 : Option Nat) (l2 : Int32) (u0 : Int32) (h : Hp) : Option (Int32 × Hp) :=
  pz [12] 16 l0 1 h fun h1 =>
  gr [12] 42 l0 h1 fun x2 =>
  if u0 = 0 then (M_begins_114 N l0 u0 x2 l2 2 h1) else (M_begins_114 N l0 u0 x2 l2 1 h1)
def M_begins_93 (N : Nat) (l0 : Option Nat) (l2 : Int32) (h : Hp) : Option (Int32 × Hp) :=
  M_begins_94 N l0 l2 0 h
def M_begins_62 (N : Nat) (l0 : Option Nat) (l1 : Int32) (l2 : Int32) (u0 : Option Nat) (u1 : Int32) (h : Hp) : Option (Int32 × Hp) :=
  pz [12] 16 u0 u1 h fun h1 =>
  nz 3 <|
  gi [12] 43 l0 h1 fun x2 =>
  nz 3 <|
  cl (ds [(12, M_calledOf N l0 (l1 / 3) x2 (l1 - l1 / 3 * 3) h1)] l0 h1) fun x4 h3 =>
  if x4 = 0 then (M_begins_93 N l0 l2 h3) else (gi [12] 14 l0 h3 fun x5 =>
  if x5 ≤ 0 then (M_begins_93 N l0 l2 h3) else (M_begins_94 N l0 l2 1 h3))
def M_begins (N : Nat) (l0 : Option Nat) (h : Hp) : Option (Int32 × Hp) :=
  gr [12] 40 l0 h fun x1 =>
  gr [12] 45 l0 h fun x2 =>
  gi [12] 43 l0 h fun x3 =>
  li 13 x2 x3 h fun x4 =>
  li 13 x1 x4 h fun x5 =>
  gi [12] 43 l0 h fun x6 =>
  gr [12] 45 l0 h fun x7 =>
  gi [12] 43 l0 h fun x8 =>
  li 13 x7 x8 h fun x9 =>
  nm (((x6 * (30 : Int32)) * (3 : Int32)) + x9) fun x10 =>
  gr [12] 42 l0 h fun x11 =>
  li 15 x11 x10 h fun x12 =>
  if x12 = 2 then (rz 0 h) else (gr [12] 42 l0 h fun x13 =>
  li 15 x13 x10 h fun x14 =>
  if x14 = 0 then (M_begins_62 N l0 x5 x10 l0 1 h) else (M_begins_62 N l0 x5 x10 l0 0 h))
def M_isComposed_56 (N : Nat) (re25 : Option Nat → Int32 → Int32 → Hp → Option (Int32 × Hp)) (l0 : Option Nat) (l2 : Int32) (u0 : Int32) (u1 : Int32) (h : Hp) : Option (Int32 × Hp) :=
  nm (u0 + u1) fun x1 =>
  nm (l2 + 1) fun x2 =>
  re25 l0 x1 x2 h
def M_isComposed_25 (N : Nat) : Nat → Option Nat → Int32 → Int32 → Hp → Option (Int32 × Hp)
  | 0, _, _, _, _ => none
  | n + 1, l0, l1, l2, h =>
  gi [12] 48 l0 h fun x1 =>
  if x1 ≤ l2 then (gi [12] 37 l0 h fun x2 =>
  if l1 < x2 then (rz 0 h) else (rz 1 h)) else (gr [12] 47 l0 h fun x3 =>
  ll x3 l2 h fun x4 =>
  gl [12] 38 l0 h fun x5 =>
  cl (ds [(12, M_isFitting N l0 x4 x5 h)] l0 h) fun x7 h6 =>
  if x7 = 0 then (M_isComposed_56 N (M_isComposed_25 N n) l0 l2 l1 0 h6) else (M_isComposed_56 N (M_isComposed_25 N n) l0 l2 l1 1 h6))
def M_isComposed (N : Nat) (l0 : Option Nat) (h : Hp) : Option (Int32 × Hp) :=
  gr [12] 47 l0 h fun x1 =>
  gi [12] 48 l0 h fun x2 =>
  ll x1 (x2 - (1 : Int32)) h fun x3 =>
  cl (ds [(12, M_rounds N l0 h)] l0 h) fun x5 h4 =>
  if (lg_cmp x3 x5) = 0 then (M_isComposed_25 N N l0 0 1 h4) else (rz 0 h4)
def M_tell_7 (N : Nat) : Nat → Option Nat → Int32 → Hp → Option (Unit × Hp)
  | 0, _, _, _ => none
  | n + 1, l0, l1, h =>
  gi [12] 36 l0 h fun x1 =>
  if x1 ≤ l1 then (gi [12] 36 l0 h fun x2 =>
  pi [12] 53 l0 x2 h fun h3 =>
  some ((), h3)) else (gr [12] 52 l0 h fun x4 =>
  gr [12] 40 l0 h fun x5 =>
  gr [12] 45 l0 h fun x6 =>
  li 13 x6 l1 h fun x7 =>
  li 13 x5 x7 h fun x8 =>
  si x4 l1 x8 h fun h9 =>
  nm (l1 + 1) fun x10 =>
  M_tell_7 N n l0 x10 h9)
def M_tell (N : Nat) (l0 : Option Nat) (h : Hp) : Option (Unit × Hp) :=
  pi [12] 35 l0 1 h fun h1 =>
  M_tell_7 N N l0 0 h1
def M_isThere_2 (N : Nat) : Nat → Option Nat → Int64 → Int32 → Hp → Option (Int32 × Hp)
  | 0, _, _, _, _ => none
  | n + 1, l0, l1, l3, h =>
  gi [12] 48 l0 h fun x1 =>
  if x1 ≤ l3 then (rz 0 h) else (gr [12] 47 l0 h fun x2 =>
  ll x2 l3 h fun x3 =>
  if (lg_cmp x3 l1) = 0 then (rz 1 h) else (nm (l3 + 1) fun x4 =>
  M_isThere_2 N n l0 l1 x4 h))
def M_isThere (N : Nat) (l0 : Option Nat) (l1 : Int64) (h : Hp) : Option (Int32 × Hp) :=
  M_isThere_2 N N l0 l1 0 h
def M_go_279 (N : Nat) (re2 : Option Nat → Int32 → Int32 → Hp → Option (Unit × Hp)) (l0 : Option Nat) (l1 : Int32) (l2 : Int32) (l3 : Int64) (h : Hp) : Option (Unit × Hp) :=
  gr [12] 47 l0 h fun x1 =>
  gi [12] 48 l0 h fun x2 =>
  sl x1 x2 l3 h fun h3 =>
  gi [12] 48 l0 h3 fun x4 =>
  pi [12] 48 l0 (x4 + (1 : Int32)) h3 fun h5 =>
  re2 l0 l1 l2 h5
def M_go_256 (N : Nat) (re2 : Option Nat → Int32 → Int32 → Hp → Option (Unit × Hp)) (l0 : Option Nat) (l1 : Int32) (l2 : Int32) (l3 : Int64) (u0 : Int32) (h : Hp) : Option (Unit × Hp) :=
  cl (ds [(12, M_isThere N l0 l3 h)] l0 h) fun x2 h1 =>
  if x2 = 0 then (M_go_279 N re2 l0 l1 l2 l3 h1) else (if u0 = 0 then (pz [12] 44 l0 0 h1 fun h3 =>
  re2 l0 l1 l2 h3) else (M_go_279 N re2 l0 l1 l2 l3 h1))
def M_go_255 (N : Nat) (re2 : Option Nat → Int32 → Int32 → Hp → Option (Unit × Hp)) (l0 : Option Nat) (l1 : Int32) (l2 : Int32) (l3 : Int64) (h : Hp) : Option (Unit × Hp) :=
  M_go_256 N re2 l0 l1 l2 l3 0 h
def M_go_2 (N : Nat) : Nat → Option Nat → Int32 → Int32 → Hp → Option (Unit × Hp)
  | 0, _, _, _, _ => none
  | n + 1, l0, l1, l2, h =>
  gi [12] 44 l0 h fun x1 =>
  if x1 = 0 then (gr [12] 45 l0 h fun x38 =>
  gi [12] 43 l0 h fun x39 =>
  li 13 x38 x39 h fun x40 =>
  si x38 x39 (x40 + (1 : Int32)) h fun h41 =>
  gr [12] 46 l0 h41 fun x42 =>
  gi [12] 43 l0 h41 fun x43 =>
  li 13 x42 x43 h41 fun x44 =>
  pi [12] 48 l0 x44 h41 fun h45 =>
  gr [12] 45 l0 h45 fun x46 =>
  gi [12] 43 l0 h45 fun x47 =>
  li 13 x46 x47 h45 fun x48 =>
  gi [12] 41 l0 h45 fun x49 =>
  if x48 = x49 then (gi [12] 43 l0 h45 fun x53 =>
  if x53 = 0 then (pi [12] 35 l0 0 h45 fun h56 =>
  some ((), h56)) else (gi [12] 43 l0 h45 fun x54 =>
  pi [12] 43 l0 (x54 - (1 : Int32)) h45 fun h55 =>
  M_go_2 N n l0 l1 l2 h55)) else (cl (ds [(12, M_begins N l0 h45)] l0 h45) fun x51 h50 =>
  pz [12] 44 l0 x51 h50 fun h52 =>
  M_go_2 N n l0 l1 l2 h52)) else (gi [12] 51 l0 h fun x2 =>
  gi [12] 50 l0 h fun x3 =>
  if x2 = x3 then (pz [12] 44 l0 0 h fun h23 =>
  gi [12] 43 l0 h23 fun x24 =>
  gi [12] 36 l0 h23 fun x25 =>
  if x24 = (x25 - (1 : Int32)) then (cl (ds [(12, M_isComposed N l0 h23)] l0 h23) fun x36 h35 =>
  if x36 = 0 then (M_go_2 N n l0 l1 l2 h35) else (cl (ds [(12, M_tell N l0 h35)] l0 h35) fun _ h37 =>
  some ((), h37))) else (gi [12] 43 l0 h23 fun x26 =>
  pi [12] 43 l0 (x26 + (1 : Int32)) h23 fun h27 =>
  gr [12] 45 l0 h27 fun x28 =>
  gi [12] 43 l0 h27 fun x29 =>
  si x28 x29 (-1) h27 fun h30 =>
  gr [12] 46 l0 h30 fun x31 =>
  gi [12] 43 l0 h30 fun x32 =>
  gi [12] 48 l0 h30 fun x33 =>
  si x31 x32 x33 h30 fun h34 =>
  M_go_2 N n l0 l1 l2 h34)) else (if l2 = l1 then (some ((), h)) else (nm (l2 + 1) fun x4 =>
  gi [12] 39 l0 h fun x5 =>
  pi [12] 39 l0 (x5 + (1 : Int32)) h fun h6 =>
  gr [12] 47 l0 h6 fun x7 =>
  gi [12] 48 l0 h6 fun x8 =>
  ll x7 (x8 - (1 : Int32)) h6 fun x9 =>
  gr [12] 49 l0 h6 fun x10 =>
  gi [12] 51 l0 h6 fun x11 =>
  li 13 x10 x11 h6 fun x12 =>
  cl (M_done N x9 x12 h6) fun x14 h13 =>
  gi [12] 51 l0 h13 fun x15 =>
  pi [12] 51 l0 (x15 + (1 : Int32)) h13 fun h16 =>
  gi [12] 43 l0 h16 fun x17 =>
  gi [12] 36 l0 h16 fun x18 =>
  if x17 = (x18 - (1 : Int32)) then (gi [12] 51 l0 h16 fun x19 =>
  gi [12] 50 l0 h16 fun x20 =>
  if x19 = x20 then (cl (ds [(12, M_rounds N l0 h16)] l0 h16) fun x22 h21 =>
  if (lg_cmp x14 x22) = 0 then (M_go_256 N (M_go_2 N n) l0 l1 x4 x14 1 h21) else (M_go_255 N (M_go_2 N n) l0 l1 x4 x14 h21)) else (M_go_255 N (M_go_2 N n) l0 l1 x4 x14 h16)) else (M_go_255 N (M_go_2 N n) l0 l1 x4 x14 h16))))
def M_go (N : Nat) (l0 : Option Nat) (l1 : Int32) (h : Hp) : Option (Unit × Hp) :=
  M_go_2 N N l0 l1 0 h
def M_search_156 (N : Nat) : Nat → Option Nat → Int32 → Int32 → Hp → Option (Int32 × Hp)
  | 0, _, _, _, _ => none
  | n + 1, l0, l5, l6, h =>
  gr [12] 42 l0 h fun x1 =>
  al x1 h fun x2 =>
  if x2 ≤ l6 then (pi [12] 43 l0 0 h fun h3 =>
  gr [12] 45 l0 h3 fun x4 =>
  si x4 0 (-1) h3 fun h5 =>
  gr [12] 46 l0 h5 fun x6 =>
  si x6 0 1 h5 fun h7 =>
  gr [12] 47 l0 h7 fun x8 =>
  cl (ds [(12, M_rounds N l0 h7)] l0 h7) fun x10 h9 =>
  sl x8 0 x10 h9 fun h11 =>
  pi [12] 48 l0 1 h11 fun h12 =>
  pz [12] 44 l0 0 h12 fun h13 =>
  pi [12] 35 l0 2 h13 fun h14 =>
  cl (ds [(12, M_go N l0 l5 h14)] l0 h14) fun _ h15 =>
  gi [12] 35 l0 h15 fun x16 =>
  some (x16, h15)) else (gr [12] 42 l0 h fun x17 =>
  sb x17 l6 0 h fun h18 =>
  nm (l6 + 1) fun x19 =>
  M_search_156 N n l0 l5 x19 h18)
def M_search_141 (N : Nat) (re81 : Option Nat → Int32 → Int32 → Hp → Option (Int32 × Hp)) (re93 : Option Nat → Int32 → Int32 → Int32 → Hp → Option (Int32 × Hp)) (l0 : Option Nat) (l5 : Int32) (l6 : Int32) (l7 : Int32) (h : Hp) : Option (Int32 × Hp) :=
  nm (l7 + 1) fun x1 =>
  re93 l0 l5 l6 x1 h
def M_search_93 (N : Nat) (re81 : Option Nat → Int32 → Int32 → Hp → Option (Int32 × Hp)) : Nat → Option Nat → Int32 → Int32 → Int32 → Hp → Option (Int32 × Hp)
  | 0, _, _, _, _, _ => none
  | n + 1, l0, l5, l6, l7, h =>
  if 3 ≤ l7 then (nm (l6 + 1) fun x1 =>
  re81 l0 l5 x1 h) else (gr [12] 32 l0 h fun x2 =>
  li 13 x2 l6 h fun x3 =>
  if ((x3 >>> (l7 &&& 31)) &&& (1 : Int32)) = 1 then (gr [12] 40 l0 h fun x4 =>
  gi [12] 41 l0 h fun x5 =>
  si x4 x5 (((3 : Int32) * l6) + l7) h fun h6 =>
  gi [12] 41 l0 h6 fun x7 =>
  pi [12] 41 l0 (x7 + (1 : Int32)) h6 fun h8 =>
  M_search_141 N re81 (M_search_93 N re81 n) l0 l5 l6 l7 h8) else (M_search_141 N re81 (M_search_93 N re81 n) l0 l5 l6 l7 h))
def M_search_81 (N : Nat) : Nat → Option Nat → Int32 → Int32 → Hp → Option (Int32 × Hp)
  | 0, _, _, _, _ => none
  | n + 1, l0, l5, l6, h =>
  gi [12] 5 l0 h fun x1 =>
  if x1 ≤ l6 then (M_search_156 N N l0 l5 0 h) else (M_search_93 N (M_search_81 N n) N l0 l5 l6 0 h)
def M_search (N : Nat) (l0 : Option Nat) (l1 : Int32) (l2 : Int32) (l3 : Int64) (l5 : Int32) (h : Hp) : Option (Int32 × Hp) :=
  if l1 < 1 then (some ((-1), h)) else (if 12 < l1 then (some ((-1), h)) else (if l2 < 0 then (some ((-1), h)) else (cl (ds [(12, M_isPattern N l0 l3 h)] l0 h) fun x2 h1 =>
  if x2 = 0 then (some ((-1), h1)) else (if l5 < 0 then (some ((-1), h1)) else (if l5 ≤ 1000 then (pi [12] 36 l0 l1 h1 fun h3 =>
  pi [12] 37 l0 l2 h3 fun h4 =>
  pl [12] 38 l0 l3 h4 fun h5 =>
  pz [12] 33 l0 1 h5 fun h6 =>
  pz [12] 34 l0 0 h6 fun h7 =>
  pi [12] 39 l0 0 h7 fun h8 =>
  pi [12] 53 l0 0 h8 fun h9 =>
  pi [12] 41 l0 0 h9 fun h10 =>
  M_search_81 N N l0 l5 0 h10) else (some ((-1), h1)))))))
def M_goOn_43 (N : Nat) (l0 : Option Nat) (h : Hp) : Option (Int32 × Hp) :=
  gi [12] 35 l0 h fun x1 =>
  some (x1, h)
def M_goOn (N : Nat) (l0 : Option Nat) (l1 : Int32) (h : Hp) : Option (Int32 × Hp) :=
  gi [12] 33 l0 h fun x1 =>
  if x1 = 0 then (some ((-1), h)) else (if l1 < 0 then (some ((-1), h)) else (if l1 ≤ 1000 then (gi [12] 34 l0 h fun x2 =>
  if x2 = 0 then (gi [12] 35 l0 h fun x3 =>
  if x3 = 2 then (cl (ds [(12, M_go N l0 l1 h)] l0 h) fun _ h4 =>
  M_goOn_43 N l0 h4) else (M_goOn_43 N l0 h)) else (some ((-2), h))) else (some ((-1), h))))
def M_found (N : Nat) (l0 : Option Nat) (l1 : Int32) (h : Hp) : Option (Int32 × Hp) :=
  if l1 < 0 then (some ((-1), h)) else (gi [12] 53 l0 h fun x1 =>
  if x1 ≤ l1 then (some ((-1), h)) else (gr [12] 52 l0 h fun x2 =>
  li 13 x2 l1 h fun x3 =>
  some (x3, h)))
def M_count_4 (N : Nat) (l0 : Option Nat) (l1 : Int32) (h : Hp) : Option (Int32 × Hp) :=
  sw l1 [(0, gi [12] 2 l0 h fun x1 =>
  some (x1, h)), (1, gi [12] 5 l0 h fun x2 =>
  some (x2, h)), (2, gi [12] 19 l0 h fun x3 =>
  some (x3, h)), (3, gi [12] 1 l0 h fun x4 =>
  some (x4, h)), (4, gi [12] 30 l0 h fun x5 =>
  some ((jmax x5 (0 : Int32)), h)), (5, gi [12] 39 l0 h fun x6 =>
  some (x6, h)), (6, gi [12] 3 l0 h fun x7 =>
  some (x7, h))] (some ((-1), h))
end
section
def Law_law_1671 (N : Nat) (xs : Nat → Int32) (L : Nat) (re18 : Option Nat → Option Nat → Int32 → Hp → Option (Int32 × Hp)) (l1 : Option Nat) (l2 : Option Nat) (l3 : Int32) (h : Hp) : Option (Int32 × Hp) :=
  nm (l3 + 6) fun x1 =>
  re18 l1 l2 x1 h
def Law_law_1308 (N : Nat) (xs : Nat → Int32) (L : Nat) (re18 : Option Nat → Option Nat → Int32 → Hp → Option (Int32 × Hp)) (l1 : Option Nat) (l2 : Option Nat) (l3 : Int32) (u0 : Int32) (u1 : Option Nat) (u2 : Int32) (u3 : Int32) (h : Hp) : Option (Int32 × Hp) :=
  cl (ds [(12, M_ringer N u1 u2 u3 h)] u1 h) fun x2 h1 =>
  if u0 = x2 then (Law_law_1671 N xs L re18 l1 l2 l3 h1) else (rz 0 h1)
def Law_law_1286 (N : Nat) (xs : Nat → Int32) (L : Nat) (re18 : Option Nat → Option Nat → Int32 → Hp → Option (Int32 × Hp)) (l1 : Option Nat) (l2 : Option Nat) (l3 : Int32) (u0 : Option Nat) (u1 : Int32) (u2 : Int32) (h : Hp) : Option (Int32 × Hp) :=
  cl (ds [(11, C_ringer N u0 u1 u2 h)] u0 h) fun x2 h1 =>
  sld xs L (l3 + (1 : Int32)) fun x3 =>
  sld xs L (l3 + (2 : Int32)) fun x4 =>
  if x4 = 0 then (Law_law_1308 N xs L re18 l1 l2 l3 x2 l2 x3 0 h1) else (Law_law_1308 N xs L re18 l1 l2 l3 x2 l2 x3 1 h1)
def Law_law_18 (N : Nat) (xs : Nat → Int32) (L : Nat) : Nat → Option Nat → Option Nat → Int32 → Hp → Option (Int32 × Hp)
  | 0, _, _, _, _ => none
  | n + 1, l1, l2, l3, h =>
  nm (Int32.ofNat L) fun x1 =>
  if (x1 - (6 : Int32)) < l3 then (rz 1 h) else (sld xs L l3 fun x2 =>
  sw (x2 &&& (63 : Int32)) [(0, sld xs L (l3 + (1 : Int32)) fun x3 =>
  sld xs L (l3 + (2 : Int32)) fun x4 =>
  sld xs L (l3 + (3 : Int32)) fun x5 =>
  sld xs L (l3 + (4 : Int32)) fun x6 =>
  sld xs L (l3 + (5 : Int32)) fun x7 =>
  cl (ds [(11, C_feed N l1 x3 x4 x5 x6 x7 h)] l1 h) fun x9 h8 =>
  sld xs L (l3 + (1 : Int32)) fun x10 =>
  sld xs L (l3 + (2 : Int32)) fun x11 =>
  sld xs L (l3 + (3 : Int32)) fun x12 =>
  sld xs L (l3 + (4 : Int32)) fun x13 =>
  sld xs L (l3 + (5 : Int32)) fun x14 =>
  cl (ds [(12, M_feed N l2 x10 x11 x12 x13 x14 h8)] l2 h8) fun x16 h15 =>
  if x9 = x16 then (Law_law_1671 N xs L (Law_law_18 N xs L n) l1 l2 l3 h15) else (rz 0 h15)), (1, sld xs L (l3 + (1 : Int32)) fun x17 =>
  cl (ds [(11, C_end N l1 x17 h)] l1 h) fun x19 h18 =>
  sld xs L (l3 + (1 : Int32)) fun x20 =>
  cl (ds [(12, M_end N l2 x20 h18)] l2 h18) fun x22 h21 =>
  if x19 = x22 then (Law_law_1671 N xs L (Law_law_18 N xs L n) l1 l2 l3 h21) else (rz 0 h21)), (2, sld xs L (l3 + (1 : Int32)) fun x23 =>
  cl (ds [(11, C_bells N l1 x23 h)] l1 h) fun x25 h24 =>
  sld xs L (l3 + (1 : Int32)) fun x26 =>
  cl (ds [(12, M_bells N l2 x26 h24)] l2 h24) fun x28 h27 =>
  if x25 = x28 then (Law_law_1671 N xs L (Law_law_18 N xs L n) l1 l2 l3 h27) else (rz 0 h27)), (3, sld xs L (l3 + (1 : Int32)) fun x29 =>
  cl (ds [(11, C_method N l1 x29 h)] l1 h) fun x31 h30 =>
  sld xs L (l3 + (1 : Int32)) fun x32 =>
  cl (ds [(12, M_method N l2 x32 h30)] l2 h30) fun x34 h33 =>
  if x31 = x34 then (Law_law_1671 N xs L (Law_law_18 N xs L n) l1 l2 l3 h33) else (rz 0 h33)), (4, sld xs L (l3 + (1 : Int32)) fun x35 =>
  cl (ds [(11, C_notation N l1 x35 h)] l1 h) fun x37 h36 =>
  sld xs L (l3 + (1 : Int32)) fun x38 =>
  cl (ds [(12, M_notation N l2 x38 h36)] l2 h36) fun x40 h39 =>
  if x37 = x40 then (Law_law_1671 N xs L (Law_law_18 N xs L n) l1 l2 l3 h39) else (rz 0 h39)), (5, sld xs L (l3 + (1 : Int32)) fun x41 =>
  sld xs L (l3 + (2 : Int32)) fun x42 =>
  cl (ds [(11, C_cut N l1 x41 x42 h)] l1 h) fun x44 h43 =>
  sld xs L (l3 + (1 : Int32)) fun x45 =>
  sld xs L (l3 + (2 : Int32)) fun x46 =>
  cl (ds [(12, M_cut N l2 x45 x46 h43)] l2 h43) fun x48 h47 =>
  if x44 = x48 then (Law_law_1671 N xs L (Law_law_18 N xs L n) l1 l2 l3 h47) else (rz 0 h47)), (6, sld xs L (l3 + (1 : Int32)) fun x49 =>
  sld xs L (l3 + (2 : Int32)) fun x50 =>
  sld xs L (l3 + (3 : Int32)) fun x51 =>
  sld xs L (l3 + (4 : Int32)) fun x52 =>
  cl (ds [(11, C_called N l1 x49 x50 x51 x52 h)] l1 h) fun x54 h53 =>
  sld xs L (l3 + (1 : Int32)) fun x55 =>
  sld xs L (l3 + (2 : Int32)) fun x56 =>
  sld xs L (l3 + (3 : Int32)) fun x57 =>
  sld xs L (l3 + (4 : Int32)) fun x58 =>
  cl (ds [(12, M_called N l2 x55 x56 x57 x58 h53)] l2 h53) fun x60 h59 =>
  if x54 = x60 then (Law_law_1671 N xs L (Law_law_18 N xs L n) l1 l2 l3 h59) else (rz 0 h59)), (7, sld xs L (l3 + (1 : Int32)) fun x61 =>
  sld xs L (l3 + (2 : Int32)) fun x62 =>
  cl (ds [(11, C_part N l1 x61 x62 h)] l1 h) fun x64 h63 =>
  sld xs L (l3 + (1 : Int32)) fun x65 =>
  sld xs L (l3 + (2 : Int32)) fun x66 =>
  cl (ds [(12, M_part N l2 x65 x66 h63)] l2 h63) fun x68 h67 =>
  if x64 = x68 then (Law_law_1671 N xs L (Law_law_18 N xs L n) l1 l2 l3 h67) else (rz 0 h67)), (8, sld xs L (l3 + (1 : Int32)) fun x69 =>
  sld xs L (l3 + (2 : Int32)) fun x70 =>
  sld xs L (l3 + (3 : Int32)) fun x71 =>
  sld xs L (l3 + (4 : Int32)) fun x72 =>
  cl (ds [(11, C_lead N l1 x69 x70 x71 x72 h)] l1 h) fun x74 h73 =>
  sld xs L (l3 + (1 : Int32)) fun x75 =>
  sld xs L (l3 + (2 : Int32)) fun x76 =>
  sld xs L (l3 + (3 : Int32)) fun x77 =>
  sld xs L (l3 + (4 : Int32)) fun x78 =>
  cl (ds [(12, M_lead N l2 x75 x76 x77 x78 h73)] l2 h73) fun x80 h79 =>
  if x74 = x80 then (Law_law_1671 N xs L (Law_law_18 N xs L n) l1 l2 l3 h79) else (rz 0 h79)), (9, sld xs L (l3 + (1 : Int32)) fun x81 =>
  cl (ds [(11, C_judge N l1 x81 h)] l1 h) fun x83 h82 =>
  sld xs L (l3 + (1 : Int32)) fun x84 =>
  cl (ds [(12, M_judge N l2 x84 h82)] l2 h82) fun x86 h85 =>
  if x83 = x86 then (Law_law_1671 N xs L (Law_law_18 N xs L n) l1 l2 l3 h85) else (rz 0 h85)), (10, sld xs L (l3 + (1 : Int32)) fun x87 =>
  sld xs L (l3 + (2 : Int32)) fun x88 =>
  cl (ds [(11, C_leadHead N l1 x87 x88 h)] l1 h) fun x90 h89 =>
  sld xs L (l3 + (1 : Int32)) fun x91 =>
  sld xs L (l3 + (2 : Int32)) fun x92 =>
  cl (ds [(12, M_leadHead N l2 x91 x92 h89)] l2 h89) fun x94 h93 =>
  if (lg_cmp x90 x94) = 0 then (Law_law_1671 N xs L (Law_law_18 N xs L n) l1 l2 l3 h93) else (rz 0 h93)), (11, sld xs L (l3 + (1 : Int32)) fun x95 =>
  cl (ds [(11, C_course N l1 x95 h)] l1 h) fun x97 h96 =>
  sld xs L (l3 + (1 : Int32)) fun x98 =>
  cl (ds [(12, M_course N l2 x98 h96)] l2 h96) fun x100 h99 =>
  if x97 = x100 then (Law_law_1671 N xs L (Law_law_18 N xs L n) l1 l2 l3 h99) else (rz 0 h99)), (12, sld xs L (l3 + (1 : Int32)) fun x101 =>
  sld xs L (l3 + (2 : Int32)) fun x102 =>
  sld xs L (l3 + (3 : Int32)) fun x103 =>
  cl (ds [(11, C_falseness N l1 x101 (((Int32.toInt64 x102) <<< (Int32.toInt64 (32 : Int32) &&& 63)) ||| ((Int32.toInt64 x103) &&& (4294967295 : Int64))) h)] l1 h) fun x105 h104 =>
  sld xs L (l3 + (1 : Int32)) fun x106 =>
  sld xs L (l3 + (2 : Int32)) fun x107 =>
  sld xs L (l3 + (3 : Int32)) fun x108 =>
  cl (ds [(12, M_falseness N l2 x106 (((Int32.toInt64 x107) <<< (Int32.toInt64 (32 : Int32) &&& 63)) ||| ((Int32.toInt64 x108) &&& (4294967295 : Int64))) h104)] l2 h104) fun x110 h109 =>
  if x105 = x110 then (Law_law_1671 N xs L (Law_law_18 N xs L n) l1 l2 l3 h109) else (rz 0 h109)), (13, sld xs L (l3 + (1 : Int32)) fun x111 =>
  sld xs L (l3 + (2 : Int32)) fun x112 =>
  cl (ds [(11, C_trace N l1 x111 x112 h)] l1 h) fun x114 h113 =>
  sld xs L (l3 + (1 : Int32)) fun x115 =>
  sld xs L (l3 + (2 : Int32)) fun x116 =>
  cl (ds [(12, M_trace N l2 x115 x116 h113)] l2 h113) fun x118 h117 =>
  if x114 = x118 then (Law_law_1671 N xs L (Law_law_18 N xs L n) l1 l2 l3 h117) else (rz 0 h117)), (14, sld xs L (l3 + (1 : Int32)) fun x119 =>
  sld xs L (l3 + (2 : Int32)) fun x120 =>
  sld xs L (l3 + (3 : Int32)) fun x121 =>
  cl (ds [(11, C_change N l1 (((Int32.toInt64 x119) <<< (Int32.toInt64 (32 : Int32) &&& 63)) ||| ((Int32.toInt64 x120) &&& (4294967295 : Int64))) x121 h)] l1 h) fun x123 h122 =>
  sld xs L (l3 + (1 : Int32)) fun x124 =>
  sld xs L (l3 + (2 : Int32)) fun x125 =>
  sld xs L (l3 + (3 : Int32)) fun x126 =>
  cl (ds [(12, M_change N l2 (((Int32.toInt64 x124) <<< (Int32.toInt64 (32 : Int32) &&& 63)) ||| ((Int32.toInt64 x125) &&& (4294967295 : Int64))) x126 h122)] l2 h122) fun x128 h127 =>
  if (lg_cmp x123 x128) = 0 then (Law_law_1671 N xs L (Law_law_18 N xs L n) l1 l2 l3 h127) else (rz 0 h127)), (15, sld xs L (l3 + (1 : Int32)) fun x129 =>
  sld xs L (l3 + (2 : Int32)) fun x130 =>
  cl (ds [(11, C_number N l1 (((Int32.toInt64 x129) <<< (Int32.toInt64 (32 : Int32) &&& 63)) ||| ((Int32.toInt64 x130) &&& (4294967295 : Int64))) h)] l1 h) fun x132 h131 =>
  sld xs L (l3 + (1 : Int32)) fun x133 =>
  sld xs L (l3 + (2 : Int32)) fun x134 =>
  cl (ds [(12, M_number N l2 (((Int32.toInt64 x133) <<< (Int32.toInt64 (32 : Int32) &&& 63)) ||| ((Int32.toInt64 x134) &&& (4294967295 : Int64))) h131)] l2 h131) fun x136 h135 =>
  if x132 = x136 then (Law_law_1671 N xs L (Law_law_18 N xs L n) l1 l2 l3 h135) else (rz 0 h135)), (16, sld xs L (l3 + (1 : Int32)) fun x137 =>
  cl (ds [(11, C_ofNumber N l1 x137 h)] l1 h) fun x139 h138 =>
  sld xs L (l3 + (1 : Int32)) fun x140 =>
  cl (ds [(12, M_ofNumber N l2 x140 h138)] l2 h138) fun x142 h141 =>
  if (lg_cmp x139 x142) = 0 then (Law_law_1671 N xs L (Law_law_18 N xs L n) l1 l2 l3 h141) else (rz 0 h141)), (17, sld xs L (l3 + (1 : Int32)) fun x143 =>
  sld xs L (l3 + (2 : Int32)) fun x144 =>
  sld xs L (l3 + (3 : Int32)) fun x145 =>
  sld xs L (l3 + (4 : Int32)) fun x146 =>
  cl (ds [(11, C_product N l1 (((Int32.toInt64 x143) <<< (Int32.toInt64 (32 : Int32) &&& 63)) ||| ((Int32.toInt64 x144) &&& (4294967295 : Int64))) (((Int32.toInt64 x145) <<< (Int32.toInt64 (32 : Int32) &&& 63)) ||| ((Int32.toInt64 x146) &&& (4294967295 : Int64))) h)] l1 h) fun x148 h147 =>
  sld xs L (l3 + (1 : Int32)) fun x149 =>
  sld xs L (l3 + (2 : Int32)) fun x150 =>
  sld xs L (l3 + (3 : Int32)) fun x151 =>
  sld xs L (l3 + (4 : Int32)) fun x152 =>
  cl (ds [(12, M_product N l2 (((Int32.toInt64 x149) <<< (Int32.toInt64 (32 : Int32) &&& 63)) ||| ((Int32.toInt64 x150) &&& (4294967295 : Int64))) (((Int32.toInt64 x151) <<< (Int32.toInt64 (32 : Int32) &&& 63)) ||| ((Int32.toInt64 x152) &&& (4294967295 : Int64))) h147)] l2 h147) fun x154 h153 =>
  if (lg_cmp x148 x154) = 0 then (Law_law_1671 N xs L (Law_law_18 N xs L n) l1 l2 l3 h153) else (rz 0 h153)), (18, sld xs L (l3 + (1 : Int32)) fun x155 =>
  sld xs L (l3 + (2 : Int32)) fun x156 =>
  cl (ds [(11, C_inverse N l1 (((Int32.toInt64 x155) <<< (Int32.toInt64 (32 : Int32) &&& 63)) ||| ((Int32.toInt64 x156) &&& (4294967295 : Int64))) h)] l1 h) fun x158 h157 =>
  sld xs L (l3 + (1 : Int32)) fun x159 =>
  sld xs L (l3 + (2 : Int32)) fun x160 =>
  cl (ds [(12, M_inverse N l2 (((Int32.toInt64 x159) <<< (Int32.toInt64 (32 : Int32) &&& 63)) ||| ((Int32.toInt64 x160) &&& (4294967295 : Int64))) h157)] l2 h157) fun x162 h161 =>
  if (lg_cmp x158 x162) = 0 then (Law_law_1671 N xs L (Law_law_18 N xs L n) l1 l2 l3 h161) else (rz 0 h161)), (19, sld xs L (l3 + (1 : Int32)) fun x163 =>
  sld xs L (l3 + (2 : Int32)) fun x164 =>
  cl (ds [(11, C_order N l1 (((Int32.toInt64 x163) <<< (Int32.toInt64 (32 : Int32) &&& 63)) ||| ((Int32.toInt64 x164) &&& (4294967295 : Int64))) h)] l1 h) fun x166 h165 =>
  sld xs L (l3 + (1 : Int32)) fun x167 =>
  sld xs L (l3 + (2 : Int32)) fun x168 =>
  cl (ds [(12, M_order N l2 (((Int32.toInt64 x167) <<< (Int32.toInt64 (32 : Int32) &&& 63)) ||| ((Int32.toInt64 x168) &&& (4294967295 : Int64))) h165)] l2 h165) fun x170 h169 =>
  if x166 = x170 then (Law_law_1671 N xs L (Law_law_18 N xs L n) l1 l2 l3 h169) else (rz 0 h169)), (20, sld xs L (l3 + (1 : Int32)) fun x171 =>
  sld xs L (l3 + (2 : Int32)) fun x172 =>
  cl (ds [(11, C_touch N l1 x171 x172 h)] l1 h) fun x174 h173 =>
  sld xs L (l3 + (1 : Int32)) fun x175 =>
  sld xs L (l3 + (2 : Int32)) fun x176 =>
  cl (ds [(12, M_touch N l2 x175 x176 h173)] l2 h173) fun x178 h177 =>
  if x174 = x178 then (Law_law_1671 N xs L (Law_law_18 N xs L n) l1 l2 l3 h177) else (rz 0 h177)), (21, cl (ds [(11, C_clear N l1 h)] l1 h) fun x180 h179 =>
  cl (ds [(12, M_clear N l2 h179)] l2 h179) fun x182 h181 =>
  if x180 = x182 then (Law_law_1671 N xs L (Law_law_18 N xs L n) l1 l2 l3 h181) else (rz 0 h181)), (22, cl (ds [(11, C_ring N l1 h)] l1 h) fun x184 h183 =>
  cl (ds [(12, M_ring N l2 h183)] l2 h183) fun x186 h185 =>
  if x184 = x186 then (Law_law_1671 N xs L (Law_law_18 N xs L n) l1 l2 l3 h185) else (rz 0 h185)), (23, sld xs L (l3 + (1 : Int32)) fun x187 =>
  cl (ds [(11, C_on N l1 x187 h)] l1 h) fun x189 h188 =>
  sld xs L (l3 + (1 : Int32)) fun x190 =>
  cl (ds [(12, M_on N l2 x190 h188)] l2 h188) fun x192 h191 =>
  if x189 = x192 then (Law_law_1671 N xs L (Law_law_18 N xs L n) l1 l2 l3 h191) else (rz 0 h191)), (24, sld xs L (l3 + (1 : Int32)) fun x193 =>
  cl (ds [(11, C_at N l1 x193 h)] l1 h) fun x195 h194 =>
  sld xs L (l3 + (1 : Int32)) fun x196 =>
  cl (ds [(12, M_at N l2 x196 h194)] l2 h194) fun x198 h197 =>
  if (lg_cmp x195 x198) = 0 then (Law_law_1671 N xs L (Law_law_18 N xs L n) l1 l2 l3 h197) else (rz 0 h197)), (25, cl (ds [(11, C_round N l1 h)] l1 h) fun x200 h199 =>
  cl (ds [(12, M_round N l2 h199)] l2 h199) fun x202 h201 =>
  if x200 = x202 then (Law_law_1671 N xs L (Law_law_18 N xs L n) l1 l2 l3 h201) else (rz 0 h201)), (26, cl (ds [(11, C_falseAt N l1 h)] l1 h) fun x204 h203 =>
  cl (ds [(12, M_falseAt N l2 h203)] l2 h203) fun x206 h205 =>
  if x204 = x206 then (Law_law_1671 N xs L (Law_law_18 N xs L n) l1 l2 l3 h205) else (rz 0 h205)), (27, cl (ds [(11, C_proof N l1 h)] l1 h) fun x208 h207 =>
  cl (ds [(12, M_proof N l2 h207)] l2 h207) fun x210 h209 =>
  if x208 = x210 then (Law_law_1671 N xs L (Law_law_18 N xs L n) l1 l2 l3 h209) else (rz 0 h209)), (28, sld xs L (l3 + (1 : Int32)) fun x211 =>
  cl (ds [(11, C_proofAt N l1 x211 h)] l1 h) fun x213 h212 =>
  sld xs L (l3 + (1 : Int32)) fun x214 =>
  cl (ds [(12, M_proofAt N l2 x214 h212)] l2 h212) fun x216 h215 =>
  if x213 = x216 then (Law_law_1671 N xs L (Law_law_18 N xs L n) l1 l2 l3 h215) else (rz 0 h215)), (29, sld xs L (l3 + (1 : Int32)) fun x217 =>
  sld xs L (l3 + (2 : Int32)) fun x218 =>
  cl (ds [(11, C_forge N l1 x217 x218 h)] l1 h) fun x220 h219 =>
  sld xs L (l3 + (1 : Int32)) fun x221 =>
  sld xs L (l3 + (2 : Int32)) fun x222 =>
  cl (ds [(12, M_forge N l2 x221 x222 h219)] l2 h219) fun x224 h223 =>
  if x220 = x224 then (Law_law_1671 N xs L (Law_law_18 N xs L n) l1 l2 l3 h223) else (rz 0 h223)), (30, cl (ds [(11, C_check N l1 h)] l1 h) fun x226 h225 =>
  cl (ds [(12, M_check N l2 h225)] l2 h225) fun x228 h227 =>
  if x226 = x228 then (Law_law_1671 N xs L (Law_law_18 N xs L n) l1 l2 l3 h227) else (rz 0 h227)), (31, sld xs L (l3 + (1 : Int32)) fun x229 =>
  sld xs L (l3 + (2 : Int32)) fun x230 =>
  if x230 = 0 then (Law_law_1286 N xs L (Law_law_18 N xs L n) l1 l2 l3 l1 x229 0 h) else (Law_law_1286 N xs L (Law_law_18 N xs L n) l1 l2 l3 l1 x229 1 h)), (32, sld xs L (l3 + (1 : Int32)) fun x231 =>
  cl (ds [(11, C_heard N l1 x231 h)] l1 h) fun x233 h232 =>
  sld xs L (l3 + (1 : Int32)) fun x234 =>
  cl (ds [(12, M_heard N l2 x234 h232)] l2 h232) fun x236 h235 =>
  if (lg_cmp x233 x236) = 0 then (Law_law_1671 N xs L (Law_law_18 N xs L n) l1 l2 l3 h235) else (rz 0 h235)), (33, sld xs L (l3 + (1 : Int32)) fun x237 =>
  sld xs L (l3 + (2 : Int32)) fun x238 =>
  sld xs L (l3 + (3 : Int32)) fun x239 =>
  sld xs L (l3 + (4 : Int32)) fun x240 =>
  cl (ds [(11, C_fits N l1 (((Int32.toInt64 x237) <<< (Int32.toInt64 (32 : Int32) &&& 63)) ||| ((Int32.toInt64 x238) &&& (4294967295 : Int64))) (((Int32.toInt64 x239) <<< (Int32.toInt64 (32 : Int32) &&& 63)) ||| ((Int32.toInt64 x240) &&& (4294967295 : Int64))) h)] l1 h) fun x242 h241 =>
  sld xs L (l3 + (1 : Int32)) fun x243 =>
  sld xs L (l3 + (2 : Int32)) fun x244 =>
  sld xs L (l3 + (3 : Int32)) fun x245 =>
  sld xs L (l3 + (4 : Int32)) fun x246 =>
  cl (ds [(12, M_fits N l2 (((Int32.toInt64 x243) <<< (Int32.toInt64 (32 : Int32) &&& 63)) ||| ((Int32.toInt64 x244) &&& (4294967295 : Int64))) (((Int32.toInt64 x245) <<< (Int32.toInt64 (32 : Int32) &&& 63)) ||| ((Int32.toInt64 x246) &&& (4294967295 : Int64))) h241)] l2 h241) fun x248 h247 =>
  if x242 = x248 then (Law_law_1671 N xs L (Law_law_18 N xs L n) l1 l2 l3 h247) else (rz 0 h247)), (34, sld xs L (l3 + (1 : Int32)) fun x249 =>
  sld xs L (l3 + (2 : Int32)) fun x250 =>
  cl (ds [(11, C_music N l1 (((Int32.toInt64 x249) <<< (Int32.toInt64 (32 : Int32) &&& 63)) ||| ((Int32.toInt64 x250) &&& (4294967295 : Int64))) h)] l1 h) fun x252 h251 =>
  sld xs L (l3 + (1 : Int32)) fun x253 =>
  sld xs L (l3 + (2 : Int32)) fun x254 =>
  cl (ds [(12, M_music N l2 (((Int32.toInt64 x253) <<< (Int32.toInt64 (32 : Int32) &&& 63)) ||| ((Int32.toInt64 x254) &&& (4294967295 : Int64))) h251)] l2 h251) fun x256 h255 =>
  if x252 = x256 then (Law_law_1671 N xs L (Law_law_18 N xs L n) l1 l2 l3 h255) else (rz 0 h255)), (35, sld xs L (l3 + (1 : Int32)) fun x257 =>
  sld xs L (l3 + (2 : Int32)) fun x258 =>
  cl (ds [(11, C_allow N l1 x257 x258 h)] l1 h) fun x260 h259 =>
  sld xs L (l3 + (1 : Int32)) fun x261 =>
  sld xs L (l3 + (2 : Int32)) fun x262 =>
  cl (ds [(12, M_allow N l2 x261 x262 h259)] l2 h259) fun x264 h263 =>
  if x260 = x264 then (Law_law_1671 N xs L (Law_law_18 N xs L n) l1 l2 l3 h263) else (rz 0 h263)), (36, sld xs L (l3 + (1 : Int32)) fun x265 =>
  sld xs L (l3 + (2 : Int32)) fun x266 =>
  sld xs L (l3 + (3 : Int32)) fun x267 =>
  sld xs L (l3 + (4 : Int32)) fun x268 =>
  sld xs L (l3 + (5 : Int32)) fun x269 =>
  cl (ds [(11, C_search N l1 x265 x266 (((Int32.toInt64 x267) <<< (Int32.toInt64 (32 : Int32) &&& 63)) ||| ((Int32.toInt64 x268) &&& (4294967295 : Int64))) x269 h)] l1 h) fun x271 h270 =>
  sld xs L (l3 + (1 : Int32)) fun x272 =>
  sld xs L (l3 + (2 : Int32)) fun x273 =>
  sld xs L (l3 + (3 : Int32)) fun x274 =>
  sld xs L (l3 + (4 : Int32)) fun x275 =>
  sld xs L (l3 + (5 : Int32)) fun x276 =>
  cl (ds [(12, M_search N l2 x272 x273 (((Int32.toInt64 x274) <<< (Int32.toInt64 (32 : Int32) &&& 63)) ||| ((Int32.toInt64 x275) &&& (4294967295 : Int64))) x276 h270)] l2 h270) fun x278 h277 =>
  if x271 = x278 then (Law_law_1671 N xs L (Law_law_18 N xs L n) l1 l2 l3 h277) else (rz 0 h277)), (37, sld xs L (l3 + (1 : Int32)) fun x279 =>
  cl (ds [(11, C_goOn N l1 x279 h)] l1 h) fun x281 h280 =>
  sld xs L (l3 + (1 : Int32)) fun x282 =>
  cl (ds [(12, M_goOn N l2 x282 h280)] l2 h280) fun x284 h283 =>
  if x281 = x284 then (Law_law_1671 N xs L (Law_law_18 N xs L n) l1 l2 l3 h283) else (rz 0 h283)), (38, sld xs L (l3 + (1 : Int32)) fun x285 =>
  cl (ds [(11, C_found N l1 x285 h)] l1 h) fun x287 h286 =>
  sld xs L (l3 + (1 : Int32)) fun x288 =>
  cl (ds [(12, M_found N l2 x288 h286)] l2 h286) fun x290 h289 =>
  if x287 = x290 then (Law_law_1671 N xs L (Law_law_18 N xs L n) l1 l2 l3 h289) else (rz 0 h289)), (39, sld xs L (l3 + (1 : Int32)) fun x291 =>
  cl (ds [(11, C_count N l1 x291 h)] l1 h) fun x293 h292 =>
  sld xs L (l3 + (1 : Int32)) fun x294 =>
  cl (ds [(12, M_count_4 N l2 x294 h292)] l2 h292) fun x296 h295 =>
  if x293 = x296 then (Law_law_1671 N xs L (Law_law_18 N xs L n) l1 l2 l3 h295) else (rz 0 h295))] (Law_law_1671 N xs L (Law_law_18 N xs L n) l1 l2 l3 h))
def Law_law (N : Nat) (xs : Nat → Int32) (L : Nat) (h : Hp) : Option (Int32 × Hp) :=
  nw 11 h fun x1 h2 =>
  cl (ck [11] x1 h2 (C_init N x1 h2)) fun _ h3 =>
  nw 12 h3 fun x4 h5 =>
  cl (ck [12] x4 h5 (M_init N x4 h5)) fun _ h6 =>
  Law_law_18 N xs L N x1 x4 0 h6
end
section
/-! PURE: reading and writing of the heap -/
theorem hK_sI (h : Hp) (a k : Nat) (x : Int32) : hK (sI h a k x) = hK h := rfl
theorem hz_sI (h : Hp) (a k : Nat) (x : Int32) : hz (sI h a k x) = hz h := rfl
theorem hs_sI (h : Hp) (a k : Nat) (x : Int32) : hs (sI h a k x) = hs h := rfl
theorem hL_sI (h : Hp) (a k : Nat) (x : Int32) : hL (sI h a k x) = hL h := rfl
theorem hR_sI (h : Hp) (a k : Nat) (x : Int32) : hR (sI h a k x) = hR h := rfl
theorem hK_sL (h : Hp) (a k : Nat) (x : Int64) : hK (sL h a k x) = hK h := rfl
theorem hz_sL (h : Hp) (a k : Nat) (x : Int64) : hz (sL h a k x) = hz h := rfl
theorem hs_sL (h : Hp) (a k : Nat) (x : Int64) : hs (sL h a k x) = hs h := rfl
theorem hI_sL (h : Hp) (a k : Nat) (x : Int64) : hI (sL h a k x) = hI h := rfl
theorem hR_sL (h : Hp) (a k : Nat) (x : Int64) : hR (sL h a k x) = hR h := rfl
theorem hK_sR (h : Hp) (a k : Nat) (x : Option Nat) : hK (sR h a k x) = hK h := rfl
theorem hz_sR (h : Hp) (a k : Nat) (x : Option Nat) : hz (sR h a k x) = hz h := rfl
theorem hs_sR (h : Hp) (a k : Nat) (x : Option Nat) : hs (sR h a k x) = hs h := rfl
theorem hI_sR (h : Hp) (a k : Nat) (x : Option Nat) : hI (sR h a k x) = hI h := rfl
theorem hL_sR (h : Hp) (a k : Nat) (x : Option Nat) : hL (sR h a k x) = hL h := rfl
theorem hK_sC (h : Hp) (a : Nat) (f : Nat → Int32) : hK (sC h a f) = hK h := rfl
theorem hz_sC (h : Hp) (a : Nat) (f : Nat → Int32) : hz (sC h a f) = hz h := rfl
theorem hs_sC (h : Hp) (a : Nat) (f : Nat → Int32) : hs (sC h a f) = hs h := rfl
theorem hL_sC (h : Hp) (a : Nat) (f : Nat → Int32) : hL (sC h a f) = hL h := rfl
theorem hR_sC (h : Hp) (a : Nat) (f : Nat → Int32) : hR (sC h a f) = hR h := rfl
theorem hI_sI (h : Hp) (a k b : Nat) (x : Int32) : hI (sI h a k x) b = if b = a then va_up (hI h a) k x else hI h b := by
  show va_up (hI h) a (va_up (hI h a) k x) b = _; rfl
theorem hL_sL (h : Hp) (a k b : Nat) (x : Int64) : hL (sL h a k x) b = if b = a then va_up (hL h a) k x else hL h b := by
  show va_up (hL h) a (va_up (hL h a) k x) b = _; rfl
theorem hR_sR (h : Hp) (a k b : Nat) (x : Option Nat) : hR (sR h a k x) b = if b = a then va_up (hR h a) k x else hR h b := by
  show va_up (hR h) a (va_up (hR h a) k x) b = _; rfl
theorem hI_sC (h : Hp) (a b : Nat) (f : Nat → Int32) : hI (sC h a f) b = if b = a then f else hI h b := by
  show va_up (hI h) a f b = _; rfl
theorem up_at {α : Type} (f : Nat → α) (k j : Nat) (x : α) : va_up f k x j = if j = k then x else f j := rfl
theorem ok_sI (h : Hp) (a k : Nat) (x : Int32) : ok (sI h a k x) = ok h := rfl
theorem ok_sL (h : Hp) (a k : Nat) (x : Int64) : ok (sL h a k x) = ok h := rfl
theorem ok_sR (h : Hp) (a k : Nat) (x : Option Nat) : ok (sR h a k x) = ok h := rfl
theorem ok_sC (h : Hp) (a : Nat) (f : Nat → Int32) : ok (sC h a f) = ok h := rfl
/-! the steps, where they go through -/
theorem gi_s {β : Type} {ts : List Nat} {k a : Nat} {h : Hp} {f : Int32 → Option β} (o : ok h ts a = true) : gi ts k (some a) h f = f (hI h a k) := by simp [gi, o]
theorem gl_s {β : Type} {ts : List Nat} {k a : Nat} {h : Hp} {f : Int64 → Option β} (o : ok h ts a = true) : gl ts k (some a) h f = f (hL h a k) := by simp [gl, o]
theorem gr_s {β : Type} {ts : List Nat} {k a : Nat} {h : Hp} {f : Option Nat → Option β} (o : ok h ts a = true) : gr ts k (some a) h f = f (hR h a k) := by simp [gr, o]
theorem pi_s {β : Type} {ts : List Nat} {k a : Nat} {x : Int32} {h : Hp} {f : Hp → Option β} (o : ok h ts a = true) : pi ts k (some a) x h f = f (sI h a k x) := by simp [pi, o]
theorem pz_s {β : Type} {ts : List Nat} {k a : Nat} {x : Int32} {h : Hp} {f : Hp → Option β} (o : ok h ts a = true) (hx : x = 0 ∨ x = 1) : pz ts k (some a) x h f = f (sI h a k x) := by simp [pz, o, hx]
theorem pl_s {β : Type} {ts : List Nat} {k a : Nat} {x : Int64} {h : Hp} {f : Hp → Option β} (o : ok h ts a = true) : pl ts k (some a) x h f = f (sL h a k x) := by simp [pl, o]
theorem pr_s {β : Type} {ts : List Nat} {k a : Nat} {x : Option Nat} {h : Hp} {f : Hp → Option β} (o : ok h ts a = true) : pr ts k (some a) x h f = f (sR h a k x) := by simp [pr, o]
theorem ix_ok {n j : Nat} (h : j < n) (hn : n < 2 ^ 31) : ¬ (nI j < 0 ∨ n ≤ (nI j).toNatClampNeg) := by
  rw [nI_clamp (by omega)]
  rintro (q | q)
  · exact nI_pos (by omega) q
  · omega
theorem li_s {β : Type} {t a j : Nat} {h : Hp} {f : Int32 → Option β} (o : ok h [t] a = true) (hj : j < (hK h a).2) (hn : (hK h a).2 < 2 ^ 31) : li t (some a) (nI j) h f = f (hI h a j) := by
  simp only [li]; rw [if_pos ⟨o, ix_ok hj hn⟩, nI_clamp (by omega)]
theorem ll_s {β : Type} {a j : Nat} {h : Hp} {f : Int64 → Option β} (o : ok h [14] a = true) (hj : j < (hK h a).2) (hn : (hK h a).2 < 2 ^ 31) : ll (some a) (nI j) h f = f (hL h a j) := by
  simp only [ll]; rw [if_pos ⟨o, ix_ok hj hn⟩, nI_clamp (by omega)]
theorem lr_s {β : Type} {t a j : Nat} {h : Hp} {f : Option Nat → Option β} (o : ok h [t] a = true) (hj : j < (hK h a).2) (hn : (hK h a).2 < 2 ^ 31) : lr t (some a) (nI j) h f = f (hR h a j) := by
  simp only [lr]; rw [if_pos ⟨o, ix_ok hj hn⟩, nI_clamp (by omega)]
theorem si_s {β : Type} {a j : Nat} {x : Int32} {h : Hp} {f : Hp → Option β} (o : ok h [13] a = true) (hj : j < (hK h a).2) (hn : (hK h a).2 < 2 ^ 31) : si (some a) (nI j) x h f = f (sI h a j x) := by
  simp only [si]; rw [if_pos ⟨o, ix_ok hj hn⟩, nI_clamp (by omega)]
theorem sb_s {β : Type} {a j : Nat} {x : Int32} {h : Hp} {f : Hp → Option β} (o : ok h [15] a = true) (hj : j < (hK h a).2) (hn : (hK h a).2 < 2 ^ 31) : sb (some a) (nI j) x h f = f (sI h a j (vp_nar .byte x)) := by
  simp only [sb]; rw [if_pos ⟨o, ix_ok hj hn⟩, nI_clamp (by omega)]
theorem sz_s {β : Type} {a j : Nat} {x : Int32} {h : Hp} {f : Hp → Option β} (o : ok h [16] a = true) (hj : j < (hK h a).2) (hn : (hK h a).2 < 2 ^ 31) : sz (some a) (nI j) x h f = f (sI h a j (vp_nar .boolean x)) := by
  simp only [sz]; rw [if_pos ⟨o, ix_ok hj hn⟩, nI_clamp (by omega)]
theorem sl_s {β : Type} {a j : Nat} {x : Int64} {h : Hp} {f : Hp → Option β} (o : ok h [14] a = true) (hj : j < (hK h a).2) (hn : (hK h a).2 < 2 ^ 31) : sl (some a) (nI j) x h f = f (sL h a j x) := by
  simp only [sl]; rw [if_pos ⟨o, ix_ok hj hn⟩, nI_clamp (by omega)]
theorem sr_s {β : Type} {t a j : Nat} {us : List Nat} {x : Option Nat} {h : Hp} {f : Hp → Option β} (o : ok h [t] a = true) (hj : j < (hK h a).2) (hn : (hK h a).2 < 2 ^ 31) (hx : ∀ b, x = some b → ok h us b = true) : sr t us (some a) (nI j) x h f = f (sR h a j x) := by
  simp only [sr]; rw [if_pos ⟨⟨o, ix_ok hj hn⟩, hx⟩, nI_clamp (by omega)]
theorem cl_s {α β : Type} {r : α} {h : Hp} {f : α → Hp → Option β} : cl (some (r, h)) f = f r h := rfl
theorem ds_1 {β : Type} {t a : Nat} {h : Hp} {F : Option β} (o : ok h [t] a = true) : ds [(t, F)] (some a) h = F := by
  have h1 := ok_lt o
  have h2 : (hK h a).1 = t := by simpa using ok_tag o
  simp [ds, dl, h1, h2]
theorem ck_s {β : Type} {ts : List Nat} {a : Nat} {h : Hp} {F : Option β} (o : ok h ts a = true) : ck ts (some a) h F = F := by simp [ck, o]
end
section
/-! ===== lN n to 2^64: shifts, and, or, masks, one bit ===== -/
theorem wb_tb (n : Nat) : (lN n).toBitVec = BitVec.ofNat 64 n := rfl
theorem wb_inj {a b : Int64} (h : a.toBitVec = b.toBitVec) : a = b := Int64.toBitVec_inj.mp h
theorem wb_tn {n : Nat} (h : n < 2 ^ 64) : (lN n).toBitVec.toNat = n := by rw [wb_tb, BitVec.toNat_ofNat, Nat.mod_eq_of_lt h]
theorem wb_of (x : Int64) : ∃ n, n < 2 ^ 64 ∧ x = lN n := ⟨x.toBitVec.toNat, x.toBitVec.isLt, wb_inj (by rw [wb_tb]; simp)⟩
theorem wb_of32 (x : Int32) : ∃ n, n < 2 ^ 32 ∧ x = nI n := ⟨x.toBitVec.toNat, x.toBitVec.isLt, Int32.toBitVec_inj.mp (by show _ = BitVec.ofNat 32 _; simp)⟩
theorem wb_c : ∀ k, k < 64 → ((nI k).toInt64 &&& 63) = lN k := by decide +kernel
theorem wb_cu : ∀ k, k < 64 → ((nI k).toInt64.toUInt64 &&& Int64.toUInt64 63) = UInt64.ofNat k := by decide +kernel
theorem wb_sm : ∀ k, k < 64 → (BitVec.ofNat 64 k).smod 64 = BitVec.ofNat 64 k := by decide +kernel
theorem wb_pw {a b : Nat} (h : a ≤ b) : 2 ^ b = 2 ^ a * 2 ^ (b - a) := by rw [← Nat.pow_add]; congr 1; omega
theorem wb_lt2 {a b : Nat} (h : a < b) : 2 ^ a < 2 ^ b := Nat.pow_lt_pow_right (by decide) h
theorem wb_mod (n : Nat) : lN n = lN (n % 2 ^ 64) := wb_inj (by rw [wb_tb, wb_tb]; apply BitVec.eq_of_toNat_eq; rw [BitVec.toNat_ofNat, BitVec.toNat_ofNat, Nat.mod_mod])
theorem wb_shr {n k : Nat} (hn : n < 2 ^ 64) (hk : k < 64) : ((lN n).toUInt64 >>> ((nI k).toInt64.toUInt64 &&& Int64.toUInt64 63)).toInt64 = lN (n / 2 ^ k) := by
  rw [wb_cu k hk]
  apply wb_inj
  apply BitVec.eq_of_toNat_eq
  show ((lN n).toUInt64 >>> UInt64.ofNat k).toNat = (BitVec.ofNat 64 _).toNat
  have h1 : (UInt64.ofNat k).toNat = k := by
    show (BitVec.ofNat 64 k).toNat = k
    rw [BitVec.toNat_ofNat, Nat.mod_eq_of_lt (by omega)]
  have h2 : (lN n).toUInt64.toNat = n := wb_tn hn
  rw [UInt64.toNat_shiftRight, h1, h2, Nat.mod_eq_of_lt hk, Nat.shiftRight_eq_div_pow, BitVec.toNat_ofNat, Nat.mod_eq_of_lt (Nat.lt_of_le_of_lt (Nat.div_le_self _ _) hn)]
theorem wb_shl (n : Nat) {k : Nat} (hk : k < 64) : lN n <<< ((nI k).toInt64 &&& 63) = lN (n * 2 ^ k) := by
  rw [wb_c k hk]
  apply wb_inj
  rw [Int64.toBitVec_shiftLeft, wb_tb, wb_tb, wb_tb, wb_sm k hk]
  apply BitVec.eq_of_toNat_eq
  rw [BitVec.shiftLeft_eq', BitVec.toNat_shiftLeft, BitVec.toNat_ofNat, BitVec.toNat_ofNat, BitVec.toNat_ofNat, Nat.mod_eq_of_lt (show k < 2 ^ 64 by omega), Nat.shiftLeft_eq, Nat.mul_mod, Nat.mod_mod, ← Nat.mul_mod]
theorem wb_and {a b : Nat} (ha : a < 2 ^ 64) (hb : b < 2 ^ 64) : lN a &&& lN b = lN (a &&& b) := by
  apply wb_inj
  rw [Int64.toBitVec_and, wb_tb, wb_tb, wb_tb]
  apply BitVec.eq_of_toNat_eq
  rw [BitVec.toNat_and, BitVec.toNat_ofNat, BitVec.toNat_ofNat, BitVec.toNat_ofNat, Nat.mod_eq_of_lt ha, Nat.mod_eq_of_lt hb, Nat.mod_eq_of_lt (Nat.and_lt_two_pow _ hb)]
theorem wb_or {a b : Nat} (ha : a < 2 ^ 64) (hb : b < 2 ^ 64) : lN a ||| lN b = lN (a ||| b) := by
  apply wb_inj
  rw [Int64.toBitVec_or, wb_tb, wb_tb, wb_tb]
  apply BitVec.eq_of_toNat_eq
  rw [BitVec.toNat_or, BitVec.toNat_ofNat, BitVec.toNat_ofNat, BitVec.toNat_ofNat, Nat.mod_eq_of_lt ha, Nat.mod_eq_of_lt hb, Nat.mod_eq_of_lt (Nat.or_lt_two_pow ha hb)]
theorem wb_mask {n k : Nat} (hn : n < 2 ^ 64) (hk : k < 64) : lN n &&& lN (2 ^ k - 1) = lN (n % 2 ^ k) := by
  rw [wb_and hn (by have := wb_lt2 hk; omega), Nat.and_two_pow_sub_one_eq_mod]
theorem wb_a1 {n : Nat} (hn : n < 2 ^ 64) : lN n &&& 1 = lN (n % 2) := wb_mask (k := 1) hn (by decide)
theorem wb_bit {n k : Nat} (hn : n < 2 ^ 64) (hk : k < 64) : ((lN n).toUInt64 >>> ((nI k).toInt64.toUInt64 &&& Int64.toUInt64 63)).toInt64 &&& 1 = lN (n / 2 ^ k % 2) := by
  rw [wb_shr hn hk, wb_a1 (Nat.lt_of_le_of_lt (Nat.div_le_self _ _) hn)]
theorem wb_xor {q k : Nat} (hk : k < 63) (h : 2 ^ k ≤ q) (h2 : q < 2 ^ (k + 1)) : lN q ^^^ lN (2 ^ k) = lN (q - 2 ^ k) := by
  obtain ⟨r, rfl⟩ : ∃ r, q = 2 ^ k + r := ⟨q - 2 ^ k, by omega⟩
  have hr : r < 2 ^ k := by rw [Nat.pow_succ] at h2; omega
  have hx : (2 ^ k + r) ^^^ 2 ^ k = r := by
    apply Nat.eq_of_testBit_eq
    intro i
    rw [Nat.testBit_xor, Nat.testBit_two_pow]
    rcases Nat.lt_trichotomy i k with h | h | h
    · rw [Nat.testBit_two_pow_add_gt h]
      simp [show ¬ k = i by omega]
    · subst h
      rw [Nat.testBit_two_pow_add_eq]
      simp
    · have a1 : 2 ^ (k + 1) ≤ 2 ^ i := Nat.pow_le_pow_right (by decide) h
      rw [Nat.testBit_lt_two_pow (show 2 ^ k + r < 2 ^ i by omega), Nat.testBit_lt_two_pow (show r < 2 ^ i by omega)]
      simp [show ¬ k = i by omega]
  have b1 := wb_lt2 (show k + 1 < 64 by omega)
  have b2 := wb_lt2 (show k < 64 by omega)
  apply wb_inj
  rw [Int64.toBitVec_xor, wb_tb, wb_tb, wb_tb]
  apply BitVec.eq_of_toNat_eq
  rw [BitVec.toNat_xor, BitVec.toNat_ofNat, BitVec.toNat_ofNat, BitVec.toNat_ofNat, Nat.mod_eq_of_lt (by omega : 2 ^ k + r < 2 ^ 64), Nat.mod_eq_of_lt b2, hx, Nat.add_sub_cancel_left, Nat.mod_eq_of_lt (by omega)]
/-! ===== lN: masks, 'or' of parts that don't overlap is a sum ===== -/
theorem u_tn {n : Nat} (h : n < 2 ^ 64) : (UInt64.ofNat n).toNat = n := Nat.mod_eq_of_lt h
theorem g_and {a b c : Nat} (ha : a < 2 ^ 64) (hb : b < 2 ^ 64) (hc : a &&& b = c) : lN a &&& lN b = lN c := by
  subst hc
  have h : UInt64.ofNat a &&& UInt64.ofNat b = UInt64.ofNat (a &&& b) := UInt64.toNat_inj.mp (by rw [UInt64.toNat_and, u_tn ha, u_tn hb, u_tn (Nat.and_lt_two_pow a hb)])
  have h2 := congrArg UInt64.toInt64 h
  exact h2
theorem g_and1 {a : Nat} (ha : a < 2 ^ 64) : lN a &&& 1 = lN (a % 2) := g_and (b := 1) ha (by decide) (Nat.and_two_pow_sub_one_eq_mod a 1)
theorem g_mask {a s p : Nat} (hp : 2 ^ s = p) (hs : s < 64) (ha : a < 2 ^ 64) : lN a &&& lN (p - 1) = lN (a % p) := by
  subst hp
  have := Nat.pow_lt_pow_right (show 1 < 2 by decide) hs
  exact g_and ha (by omega) (Nat.and_two_pow_sub_one_eq_mod a s)
theorem g_or {k p a b : Nat} (hp : 2 ^ k = p) (ha : a < p) (h : b * p + a < 2 ^ 64) : lN (b * p) ||| lN a = lN (b * p + a) := by
  subst hp
  have h1 : b * 2 ^ k ||| a = b * 2 ^ k + a := by rw [← Nat.shiftLeft_eq, Nat.shiftLeft_add_eq_or_of_lt ha]
  have h3 : UInt64.ofNat (b * 2 ^ k) ||| UInt64.ofNat a = UInt64.ofNat (b * 2 ^ k + a) := UInt64.toNat_inj.mp (by rw [UInt64.toNat_or, u_tn (by omega), u_tn (by omega), u_tn h, h1])
  have h2 := congrArg UInt64.toInt64 h3
  exact h2
theorem g_or' {k p a b : Nat} (hp : 2 ^ k = p) (ha : a < p) (h : a + b * p < 2 ^ 64) : lN a ||| lN (b * p) = lN (a + b * p) := by
  rw [Int64.or_comm, g_or hp ha (by omega), Nat.add_comm]
theorem g_ushr {a k p : Nat} {y : UInt64} (hy : y = UInt64.ofNat k) (hk : k < 64) (hp : 2 ^ k = p) (ha : a < 2 ^ 64) : ((lN a).toUInt64 >>> y).toInt64 = lN (a / p) := by
  subst hy hp
  have h : UInt64.ofNat a >>> UInt64.ofNat k = UInt64.ofNat (a / 2 ^ k) := UInt64.toNat_inj.mp (by rw [UInt64.toNat_shiftRight, u_tn ha, u_tn (by omega), u_tn (Nat.lt_of_le_of_lt (Nat.div_le_self _ _) ha), Nat.mod_eq_of_lt hk, Nat.shiftRight_eq_div_pow])
  have h2 := congrArg UInt64.toInt64 h
  exact h2
theorem g_shl {a k p : Nat} {y : Int64} (hy : y.toBitVec.smod 64 = BitVec.ofNat 64 k) (hk : k < 64) (hp : 2 ^ k = p) (ha : a < 2 ^ 64) : lN a <<< y = lN (a * p) := by
  subst hp
  apply Int64.toBitVec_inj.mp
  rw [Int64.toBitVec_shiftLeft, hy]
  apply BitVec.eq_of_toNat_eq
  have hb : (lN a).toBitVec.toNat = a := Nat.mod_eq_of_lt ha
  have hk' : (BitVec.ofNat 64 k).toNat = k := Nat.mod_eq_of_lt (by omega)
  have h : ((lN a).toBitVec <<< BitVec.ofNat 64 k).toNat = (a * 2 ^ k) % 2 ^ 64 := by simp only [BitVec.shiftLeft_eq', BitVec.toNat_shiftLeft, hb, hk', Nat.shiftLeft_eq]
  exact h
/-! ===== lN to 2^62 under >> and >>> ===== -/
theorem pf_lI {a : Nat} (h : a < 2 ^ 63) : (lN a).toInt = (a : Int) := lg_ofNat_toInt h
theorem pf_shr {a d : Nat} {D : Int64} (hD : (D.toBitVec.smod 64).toNat = d) (h : a < 2 ^ 62) : lN a >>> D = lN (a / 2 ^ d) := by
  have hd : a / 2 ^ d ≤ a := Nat.div_le_self _ _
  apply Int64.toInt_inj.mp
  have e : (lN a >>> D).toInt = (lN a).toInt >>> d := by
    rw [← hD]
    exact BitVec.toInt_sshiftRight ..
  rw [e, Int.shiftRight_eq_div_pow, pf_lI (by omega), pf_lI (by omega)]
  rfl
theorem pf_ushr {a d : Nat} {D : UInt64} (hD : D.toNat % 64 = d) (h : a < 2 ^ 62) : ((lN a).toUInt64 >>> D).toInt64 = lN (a / 2 ^ d) := by
  have hd : a / 2 ^ d ≤ a := Nat.div_le_self _ _
  have e : (lN a).toUInt64 >>> D = UInt64.ofNat (a / 2 ^ d) := UInt64.toNat_inj.mp (by
    rw [UInt64.toNat_shiftRight, hD, Nat.shiftRight_eq_div_pow, UInt64.toNat_ofNat']
    show (UInt64.ofNat a).toNat / 2 ^ d = _
    rw [UInt64.toNat_ofNat', Nat.mod_eq_of_lt (by omega), Nat.mod_eq_of_lt (by omega)])
  rw [e]
  rfl
theorem pf_andw (x : Int64) : ∃ m, m < 2 ^ 32 ∧ x &&& 4294967295 = lN m := ⟨x.toBitVec.toNat % 2 ^ 32, Nat.mod_lt _ (by decide), Int64.toBitVec_inj.mp (BitVec.eq_of_toNat_eq (by
  show (x.toBitVec &&& 4294967295#64).toNat = (BitVec.ofNat 64 (x.toBitVec.toNat % 2 ^ 32)).toNat
  rw [BitVec.toNat_and, show (4294967295#64).toNat = 2 ^ 32 - 1 from by decide, Nat.and_two_pow_sub_one_eq_mod, BitVec.toNat_ofNat]
  omega))⟩
/-! ===== unsigned comparison by xor with the least ===== -/
theorem lN_bv (n : Nat) : (lN n).toBitVec = BitVec.ofNat 64 n := rfl
theorem lN_nat {n : Nat} (h : n < 2 ^ 64) : (lN n).toBitVec.toNat = n := by rw [lN_bv, BitVec.toNat_ofNat]; exact Nat.mod_eq_of_lt h
theorem lN_xor (a b : Nat) : lN a ^^^ lN b = lN (a ^^^ b) := by
  apply Int64.toBitVec_inj.mp; rw [Int64.toBitVec_xor, lN_bv, lN_bv, lN_bv]; apply BitVec.eq_of_getLsbD_eq; intro i hi; simp [BitVec.getLsbD_ofNat, Nat.testBit_xor, hi]
theorem s_l : ∀ n, n < 32 → ((nI n &&& 31).toBitVec.smod 32).toNat = n := by decide +kernel
end
section
/-! PURE: rows as numbers of base 16 -/
def dg (v i : Nat) : Nat := v / 16 ^ i % 16
theorem dg_lt (v i : Nat) : dg v i < 16 := Nat.mod_lt _ (by decide)
theorem p16 (i : Nat) : (16 : Nat) ^ i = 2 ^ (4 * i) := by rw [show (16 : Nat) = 2 ^ 4 by decide, ← Nat.pow_mul]
theorem p16_pos (i : Nat) : 0 < (16 : Nat) ^ i := Nat.pow_pos (by decide)
theorem dg_ext : ∀ (k a b : Nat), a < 16 ^ k → b < 16 ^ k → (∀ i, i < k → dg a i = dg b i) → a = b := by
  intro k
  induction k with
  | zero => intro a b ha hb _; simp at ha hb; omega
  | succ k ih =>
    intro a b ha hb h
    have h0 : a % 16 = b % 16 := by have := h 0 (by omega); simpa [dg] using this
    have h1 : a / 16 = b / 16 := by
      refine ih _ _ ?_ ?_ fun i hi => ?_
      · rw [Nat.pow_succ] at ha; omega
      · rw [Nat.pow_succ] at hb; omega
      · have := h (i + 1) (by omega)
        unfold dg at this ⊢
        rw [Nat.pow_succ, Nat.mul_comm, ← Nat.div_div_eq_div_mul, ← Nat.div_div_eq_div_mul] at this
        exact this
    omega
theorem dg_big {k v i : Nat} (hv : v < 16 ^ k) (hi : k ≤ i) : dg v i = 0 := by
  have : 16 ^ k ≤ 16 ^ i := Nat.pow_le_pow_right (by decide) hi
  rw [dg, Nat.div_eq_of_lt (by omega)]
/-- the digits at p and p + 1 are exchanged -/
def sw4 (v p : Nat) : Nat := v % 16 ^ p + 16 ^ p * (dg v (p + 1) + 16 * dg v p + 256 * (v / 16 ^ (p + 2)))
theorem v_split (v p : Nat) : v = v % 16 ^ p + 16 ^ p * (dg v p + 16 * dg v (p + 1) + 256 * (v / 16 ^ (p + 2))) := by
  have h1 := Nat.mod_add_div v (16 ^ p)
  have h2 : v / 16 ^ p = dg v p + 16 * dg v (p + 1) + 256 * (v / 16 ^ (p + 2)) := by
    unfold dg
    rw [show (16 : Nat) ^ (p + 1) = 16 ^ p * 16 by rw [Nat.pow_succ], show (16 : Nat) ^ (p + 2) = 16 ^ p * 256 by rw [Nat.pow_add], ← Nat.div_div_eq_div_mul, ← Nat.div_div_eq_div_mul]
    omega
  rw [← h2]; exact h1.symm
theorem sw4_xor (v p : Nat) : v ^^^ (16 ^ p * (dg v p ^^^ dg v (p + 1)) + 16 ^ p * (16 * (dg v p ^^^ dg v (p + 1)))) = sw4 v p := by
  have key : ∀ a, a < 16 → ∀ b, b < 16 → (a + 16 * b) ^^^ ((a ^^^ b) + 16 * (a ^^^ b)) = b + 16 * a := by decide +kernel
  have hx : dg v p ^^^ dg v (p + 1) < 16 := Nat.xor_lt_two_pow (n := 4) (dg_lt v p) (dg_lt v (p + 1))
  generalize hy : dg v p ^^^ dg v (p + 1) = y at hx
  rw [← Nat.mul_add]
  have e1 : (v ^^^ 16 ^ p * (y + 16 * y)) % 16 ^ p = v % 16 ^ p := by
    rw [p16, Nat.xor_mod_two_pow, Nat.mul_mod_right, Nat.xor_zero]
  have e2 : (v ^^^ 16 ^ p * (y + 16 * y)) / 16 ^ p = dg v (p + 1) + 16 * dg v p + 256 * (v / 16 ^ (p + 2)) := by
    rw [p16, Nat.xor_div_two_pow, Nat.mul_div_cancel_left _ (Nat.two_pow_pos _), ← p16]
    have h2 : v / 16 ^ p = dg v p + 16 * dg v (p + 1) + 256 * (v / 16 ^ (p + 2)) := by
      have h3 := v_split v p
      have h4 : v / 16 ^ p = (v % 16 ^ p + 16 ^ p * (dg v p + 16 * dg v (p + 1) + 256 * (v / 16 ^ (p + 2)))) / 16 ^ p := by rw [← h3]
      rw [h4, Nat.add_mul_div_left _ _ (p16_pos p), Nat.div_eq_of_lt (Nat.mod_lt _ (p16_pos p)), Nat.zero_add]
    rw [h2]
    generalize v / 16 ^ (p + 2) = w
    have ha := dg_lt v p
    have hb := dg_lt v (p + 1)
    have k1 := key _ ha _ hb
    rw [hy] at k1
    have m1 : ((dg v p + 16 * dg v (p + 1) + 256 * w) ^^^ (y + 16 * y)) % 256 = dg v (p + 1) + 16 * dg v p := by
      rw [show (256 : Nat) = 2 ^ 8 by decide, Nat.xor_mod_two_pow, show (2 : Nat) ^ 8 = 256 by decide, Nat.add_mul_mod_self_left, Nat.mod_eq_of_lt (by omega), Nat.mod_eq_of_lt (by omega), k1]
    have m2 : ((dg v p + 16 * dg v (p + 1) + 256 * w) ^^^ (y + 16 * y)) / 256 = w := by
      rw [show (256 : Nat) = 2 ^ 8 by decide, Nat.xor_div_two_pow, show (2 : Nat) ^ 8 = 256 by decide, Nat.add_mul_div_left _ _ (by decide), Nat.div_eq_of_lt (show dg v p + 16 * dg v (p + 1) < 256 by omega), Nat.div_eq_of_lt (show y + 16 * y < 256 by omega), Nat.zero_add, Nat.xor_zero]
    omega
  rw [sw4, ← e1, ← e2]
  exact (Nat.mod_add_div _ _).symm
theorem sw4_dg (v p i : Nat) : dg (sw4 v p) i = if i = p then dg v (p + 1) else if i = p + 1 then dg v p else dg v i := by
  have hm := Nat.mod_lt v (p16_pos p)
  rcases Nat.lt_trichotomy i p with h | h | h
  · rw [if_neg (by omega), if_neg (by omega)]
    obtain ⟨d, rfl⟩ : ∃ d, p = i + (d + 1) := ⟨p - i - 1, by omega⟩
    have e : sw4 v (i + (d + 1)) % 16 ^ (i + 1) = v % 16 ^ (i + 1) := by
      rw [sw4, show (16 : Nat) ^ (i + (d + 1)) = 16 ^ (i + 1) * 16 ^ d by rw [← Nat.pow_add]; congr 1; omega, Nat.mul_assoc, Nat.add_mul_mod_self_left, Nat.mod_mul_right_mod]
    have f : ∀ w : Nat, dg w i = w % 16 ^ (i + 1) / 16 ^ i := fun w => by rw [dg, Nat.pow_succ, Nat.mod_mul_right_div_self]
    rw [f, f, e]
  · subst h
    rw [if_pos rfl, dg, sw4, Nat.add_mul_div_left _ _ (p16_pos i), Nat.div_eq_of_lt hm, Nat.zero_add]
    have := dg_lt v (i + 1)
    omega
  · rw [if_neg (by omega)]
    have q : sw4 v p / 16 ^ p = dg v (p + 1) + 16 * dg v p + 256 * (v / 16 ^ (p + 2)) := by
      rw [sw4, Nat.add_mul_div_left _ _ (p16_pos p), Nat.div_eq_of_lt hm, Nat.zero_add]
    have b1 := dg_lt v (p + 1)
    have b2 := dg_lt v p
    by_cases h2 : i = p + 1
    · subst h2
      rw [if_pos rfl, dg, Nat.pow_succ, ← Nat.div_div_eq_div_mul, q]
      omega
    · rw [if_neg h2]
      obtain ⟨d, rfl⟩ : ∃ d, i = p + 2 + d := ⟨i - p - 2, by omega⟩
      rw [dg, dg, show (16 : Nat) ^ (p + 2 + d) = 16 ^ p * 256 * 16 ^ d by rw [Nat.pow_add, Nat.pow_add], ← Nat.div_div_eq_div_mul, ← Nat.div_div_eq_div_mul, q, ← Nat.div_div_eq_div_mul v, ← Nat.div_div_eq_div_mul v, show v / 16 ^ p / 256 = v / 16 ^ (p + 2) by rw [Nat.div_div_eq_div_mul, Nat.pow_add]]
      congr 2
      omega
theorem sw4_lt {v p k : Nat} (hv : v < 16 ^ k) (hp : p + 1 < k) : sw4 v p < 16 ^ k := by
  have hm := Nat.mod_lt v (p16_pos p)
  obtain ⟨d, rfl⟩ : ∃ d, k = p + 2 + d := ⟨k - p - 2, by omega⟩
  have hw : v / 16 ^ (p + 2) < 16 ^ d := by
    rw [Nat.div_lt_iff_lt_mul (p16_pos _), Nat.mul_comm, ← Nat.pow_add]; exact hv
  have b1 := dg_lt v (p + 1)
  have b2 := dg_lt v p
  have h1 : dg v (p + 1) + 16 * dg v p + 256 * (v / 16 ^ (p + 2)) < 256 * 16 ^ d := by omega
  have h2 : 16 ^ p * (dg v (p + 1) + 16 * dg v p + 256 * (v / 16 ^ (p + 2)) + 1) ≤ 16 ^ p * (256 * 16 ^ d) := Nat.mul_le_mul_left _ h1
  rw [Nat.mul_add, Nat.mul_one] at h2
  have h3 : (16 : Nat) ^ (p + 2 + d) = 16 ^ p * (256 * 16 ^ d) := by rw [Nat.pow_add, Nat.pow_add, Nat.mul_assoc]
  rw [h3, sw4]
  omega
end
section
/-! PURE: digits and changes, as the programs reckon them -/
theorem lshr_s {v k : Nat} (hv : v < 2 ^ 62) (hk : k < 64) : lN v >>> (Int32.toInt64 (nI k) &&& 63) = lN (v / 2 ^ k) := by
  rw [wb_c k hk]
  exact pf_shr (by rw [wb_tb, wb_sm k hk, BitVec.toNat_ofNat]; exact Nat.mod_eq_of_lt (by omega)) hv
theorem nI_and15 (m : Nat) : nI m &&& 15 = nI (m % 16) := by
  rw [pk_and (nI m) (m := 15) 4 (by decide)]
  congr 1
  show (BitVec.ofNat 32 m).toNat % 2 ^ 4 = m % 16
  rw [BitVec.toNat_ofNat]
  omega
theorem nI_and1 (m : Nat) : nI m &&& 1 = nI (m % 2) := by
  rw [pk_and (nI m) (m := 1) 1 (by decide)]
  congr 1
  show (BitVec.ofNat 32 m).toNat % 2 ^ 1 = m % 2
  rw [BitVec.toNat_ofNat]
  omega
theorem nI_4 (k : Nat) : (4 : Int32) * nI k = nI (4 * k) := pk_mul 4 k
theorem nI_m1 {p : Nat} (h : 1 ≤ p) : nI p - 1 = nI (p - 1) := pk_sub (a := p) (b := 1) h
theorem Rows_digit_s {N v k : Nat} {h : Hp} (hv : v < 2 ^ 63) (hk : k < 16) : Rows_digit N (lN v) (nI k) h = some (nI (dg v k), h) := by
  unfold Rows_digit
  rw [nI_4, wb_shr (by omega) (by omega), lN_i, nI_and15, dg, p16]
theorem M_bell_s {N v p : Nat} {h : Hp} (hv : v < 2 ^ 62) (hp : 1 ≤ p) (hp2 : p ≤ 16) : M_bell N (lN v) (nI p) h = some (nI (dg v (p - 1)), h) := by
  unfold M_bell
  rw [nI_m1 hp, nI_4, lshr_s hv (by omega), lN_i, nI_and15, dg, p16]
def chgF : Nat → Nat → Nat → Nat → Nat
  | 0, v, _, _ => v
  | f + 1, v, c, p => chgF f (if c % 2 = 1 then sw4 v p else v) (c / 2) (p + 1)
theorem chgF_0 : ∀ (f v p : Nat), chgF f v 0 p = v := by
  intro f
  induction f with
  | zero => intros; rfl
  | succ f ih => intro v p; unfold chgF; simp [ih]
/-- a change done on a row -/
def chg (v c : Nat) : Nat := chgF 11 v c 0
theorem chgF_lt : ∀ (f v c p : Nat), v < 16 ^ 12 → p + f ≤ 11 → chgF f v c p < 16 ^ 12 := by
  intro f
  induction f with
  | zero => intro v c p hv _; exact hv
  | succ f ih =>
    intro v c p hv hp
    unfold chgF
    refine ih _ _ _ ?_ (by omega)
    split
    · exact sw4_lt hv (by omega)
    · exact hv
theorem chg_lt {v : Nat} (c : Nat) (hv : v < 16 ^ 12) : chg v c < 16 ^ 12 := chgF_lt 11 v c 0 hv (by omega)
theorem nI_le0 {c : Nat} (hc : c < 2 ^ 31) : nI c ≤ 0 ↔ c = 0 := by
  have h1 := nI_leI hc (show 0 < 2 ^ 31 by decide)
  rw [nI_0] at h1
  rw [h1]; omega
theorem nI_eq0 {c : Nat} (hc : c < 2 ^ 31) : nI c = 0 ↔ c = 0 := by
  have h1 := nI_eq hc (show 0 < 2 ^ 31 by decide)
  rw [nI_0] at h1
  exact h1
theorem nI_eqk {c : Nat} (k : Nat) (hc : c < 2 ^ 31) (hk : k < 2 ^ 31) : nI c = nI k ↔ c = k := nI_eq hc hk
theorem changed_x {v p : Nat} (hv : v < 16 ^ 12) (hp : p < 11) : lN v ^^^ ((lN (dg v p ^^^ dg v (p + 1)) <<< (Int32.toInt64 (nI (4 * p)) &&& 63)) ||| (lN (dg v p ^^^ dg v (p + 1)) <<< (Int32.toInt64 (nI (4 * p + 4)) &&& 63))) = lN (sw4 v p) := by
  have hx : dg v p ^^^ dg v (p + 1) < 16 := Nat.xor_lt_two_pow (n := 4) (dg_lt v p) (dg_lt v (p + 1))
  rw [wb_shl _ (by omega), wb_shl _ (by omega)]
  have hb : (2 : Nat) ^ (4 * p + 4) ≤ 2 ^ 44 := Nat.pow_le_pow_right (by decide) (by omega)
  have ha : (dg v p ^^^ dg v (p + 1)) * 2 ^ (4 * p) < 2 ^ (4 * p + 4) := by
    rw [Nat.pow_add, Nat.mul_comm]; exact Nat.mul_lt_mul_of_pos_left hx (Nat.two_pow_pos _)
  have hc : (dg v p ^^^ dg v (p + 1)) * 2 ^ (4 * p + 4) ≤ 15 * 2 ^ 44 := Nat.mul_le_mul (by omega) hb
  rw [g_or' (k := 4 * p + 4) rfl ha (by omega), lN_xor, ← sw4_xor]
  congr 2
  rw [p16, Nat.pow_add, show (2 : Nat) ^ 4 = 16 by decide]
  have k : ∀ P y : Nat, y * P + y * (P * 16) = P * y + P * (16 * y) := by
    intro P y
    rw [Nat.mul_comm y P, Nat.mul_left_comm y P 16, Nat.mul_comm y 16]
  exact k _ _
theorem changed_loop {N : Nat} {h : Hp} : ∀ (f n v c p : Nat), c < 2 ^ f → p + f ≤ 11 → v < 16 ^ 12 → f < n → Rows_changed_8 N n (lN v) (nI (4 * p)) (nI c) h = some (lN (chgF f v c p), h) := by
  intro f
  induction f with
  | zero =>
    intro n v c p hc hp hv hn
    obtain ⟨n, rfl⟩ : ∃ k, n = k + 1 := ⟨n - 1, by omega⟩
    have : c = 0 := by simpa using hc
    subst this
    rw [Rows_changed_8, if_pos (by rw [nI_0]; decide)]
    rfl
  | succ f ih =>
    intro n v c p hc hp hv hn
    obtain ⟨n, rfl⟩ : ∃ k, n = k + 1 := ⟨n - 1, by omega⟩
    have hf : (2 : Nat) ^ (f + 1) ≤ 2 ^ 11 := Nat.pow_le_pow_right (by decide) (by omega)
    rw [Rows_changed_8]
    by_cases h0 : c = 0
    · subst h0
      rw [if_pos (by rw [nI_0]; decide), chgF_0]
    · rw [if_neg (fun q => h0 ((nI_le0 (by omega)).mp q)), nI_and1]
      have hc2 : c / 2 < 2 ^ f := by rw [Nat.pow_succ] at hc; omega
      have hs : nI c >>> ((1 : Int32) &&& 31) = nI (c / 2) := pk_shrN (by omega) _ 1 (by decide)
      have h4 : nI (4 * p) + 4 = nI (4 * (p + 1)) := nI_add (4 * p) 4
      by_cases h1 : c % 2 = 1
      · rw [if_neg (fun q => by have := (nI_eq0 (by omega)).mp q; omega)]
        have e15 : (15 : Int64) = lN (2 ^ 4 - 1) := rfl
        have hv64 : v < 2 ^ 64 := Nat.lt_of_lt_of_le hv (by decide)
        simp only [nm]
        rw [h4, show 4 * (p + 1) = 4 * p + 4 by omega, wb_shr hv64 (by omega), wb_shr hv64 (by omega), lN_xor, e15, wb_mask (Nat.xor_lt_two_pow (n := 64) (Nat.lt_of_le_of_lt (Nat.div_le_self _ _) hv64) (Nat.lt_of_le_of_lt (Nat.div_le_self _ _) hv64)) (by decide), Nat.xor_mod_two_pow]
        have d1 : v / 2 ^ (4 * p) % 2 ^ 4 = dg v p := by rw [dg, p16]
        have d2 : v / 2 ^ (4 * p + 4) % 2 ^ 4 = dg v (p + 1) := by rw [dg, p16]; rfl
        rw [d1, d2, changed_x hv (by omega), Rows_changed_53]
        simp only [nm]
        rw [h4, hs]
        have := ih n (sw4 v p) (c / 2) (p + 1) hc2 (by omega) (sw4_lt hv (by omega)) (by omega)
        rw [this]
        show _ = some (lN (chgF f (if c % 2 = 1 then sw4 v p else v) (c / 2) (p + 1)), h)
        rw [if_pos h1]
      · rw [if_pos (by rw [show c % 2 = 0 by omega]; exact nI_0), Rows_changed_53]
        simp only [nm]
        rw [h4, hs]
        have := ih n v (c / 2) (p + 1) hc2 (by omega) hv (by omega)
        rw [this]
        show _ = some (lN (chgF f (if c % 2 = 1 then sw4 v p else v) (c / 2) (p + 1)), h)
        rw [if_neg h1]
theorem Rows_changed_s {N v c : Nat} {h : Hp} (hN : 11 < N) (hc : c < 2 ^ 11) (hv : v < 16 ^ 12) : Rows_changed N (lN v) (nI c) h = some (lN (chg v c), h) := by
  unfold Rows_changed
  have := changed_loop (N := N) (h := h) 11 N v c 0 hc (by omega) hv hN
  rw [show nI (4 * 0) = 0 from nI_0] at this
  exact this
theorem lN_sub' (a b : Nat) : lN (a + b) - lN b = lN a := by rw [← lN_add]; exact Int64.add_sub_cancel _ _
theorem done_x {v p : Nat} (hv : v < 16 ^ 12) (hp : p < 11) : lN v + (((lN (dg v (p + 1)) - lN (dg v p)) * ((1 : Int64) <<< (Int32.toInt64 (nI (4 * p)) &&& 63))) + ((lN (dg v p) - lN (dg v (p + 1))) * ((1 : Int64) <<< (Int32.toInt64 (nI (4 * (p + 1))) &&& 63)))) = lN (sw4 v p) := by
  have o : (1 : Int64) = lN 1 := rfl
  rw [o, wb_shl _ (by omega), wb_shl _ (by omega), Nat.one_mul, Nat.one_mul]
  have e : v + (dg v (p + 1) * 2 ^ (4 * p) + dg v p * 2 ^ (4 * (p + 1))) = sw4 v p + (dg v p * 2 ^ (4 * p) + dg v (p + 1) * 2 ^ (4 * (p + 1))) := by
    have h1 := v_split v p
    rw [sw4]
    rw [show 2 ^ (4 * (p + 1)) = 16 ^ p * 16 by rw [← p16, Nat.pow_succ], ← p16]
    generalize v / 16 ^ (p + 2) = w at h1 ⊢
    generalize v % 16 ^ p = r at h1 ⊢
    generalize dg v p = a at h1 ⊢
    generalize dg v (p + 1) = b at h1 ⊢
    generalize 16 ^ p = P at h1 ⊢
    rw [h1]
    simp only [Nat.mul_add, Nat.mul_comm, Nat.mul_left_comm]
    omega
  have e2 := congrArg lN e
  simp only [← lN_add, ← lN_mul] at e2
  generalize lN (2 ^ (4 * p)) = P at e2 ⊢
  generalize lN (2 ^ (4 * (p + 1))) = P' at e2 ⊢
  generalize lN (dg v p) = a at e2 ⊢
  generalize lN (dg v (p + 1)) = b at e2 ⊢
  grind
theorem dg_l (v i : Nat) : (nI (dg v i)).toInt64 = lN (dg v i) := nI_l (by have := dg_lt v i; omega)
theorem done_loop {N : Nat} {h : Hp} {c : Nat} (hc : c < 2 ^ 11) : ∀ (f n v p : Nat), c / 2 ^ p < 2 ^ f → p + f ≤ 11 → v < 16 ^ 12 → f < n → M_done_5 N n (nI c) (lN v) (nI (p + 1)) h = some (lN (chgF f v (c / 2 ^ p) p), h) := by
  intro f
  induction f with
  | zero =>
    intro n v p hc1 hp hv hn
    obtain ⟨n, rfl⟩ : ∃ k, n = k + 1 := ⟨n - 1, by omega⟩
    have h0 : c / 2 ^ p = 0 := by simpa using hc1
    rw [M_done_5, nI_m1 (by omega), show p + 1 - 1 = p by omega, pk_shrN (by omega) _ p (s_l p (by omega)), if_pos (by rw [h0]; exact nI_0)]
    rfl
  | succ f ih =>
    intro n v p hc1 hp hv hn
    obtain ⟨n, rfl⟩ : ∃ k, n = k + 1 := ⟨n - 1, by omega⟩
    have hle : c / 2 ^ p ≤ c := Nat.div_le_self _ _
    have hc2 : c / 2 ^ (p + 1) = c / 2 ^ p / 2 := by rw [Nat.pow_succ, Nat.div_div_eq_div_mul]
    rw [M_done_5, nI_m1 (by omega), show p + 1 - 1 = p by omega, pk_shrN (by omega) _ p (s_l p (by omega))]
    by_cases h0 : c / 2 ^ p = 0
    · rw [if_pos (by rw [h0]; exact nI_0), h0, chgF_0]
    · rw [if_neg (fun q => h0 ((nI_eq0 (by omega)).mp q)), nI_and1]
      have ihv := fun v' (hv' : v' < 16 ^ 12) => ih n v' (p + 1) (by rw [hc2]; rw [Nat.pow_succ] at hc1; omega) (by omega) hv' (by omega)
      have hv62 : v < 2 ^ 62 := Nat.lt_of_lt_of_le hv (by decide)
      by_cases h1 : c / 2 ^ p % 2 = 1
      · rw [if_pos (by rw [h1]; rfl), M_bell_s hv62 (by omega) (by omega), cl_s, show nI (p + 1) + 1 = nI (p + 2) from nI_1 (p + 1)]
        simp only [nm]
        rw [M_bell_s hv62 (by omega) (by omega), cl_s, show p + 1 - 1 = p by omega, show p + 2 - 1 = p + 1 by omega, dg_l, dg_l, nI_4, nI_4, done_x hv (by omega), M_done_76]
        simp only [nm]
        rw [nI_1, ihv _ (sw4_lt hv (by omega)), hc2]
        show _ = some (lN (chgF f (if c / 2 ^ p % 2 = 1 then sw4 v p else v) (c / 2 ^ p / 2) (p + 1)), h)
        rw [if_pos h1]
      · have hne : ¬ nI (c / 2 ^ p % 2) = 1 := fun q => h1 ((nI_eqk 1 (by omega) (by decide)).mp q)
        rw [if_neg hne, M_done_76]
        simp only [nm]
        rw [nI_1, ihv _ hv, hc2]
        show _ = some (lN (chgF f (if c / 2 ^ p % 2 = 1 then sw4 v p else v) (c / 2 ^ p / 2) (p + 1)), h)
        rw [if_neg h1]
theorem M_done_s {N v c : Nat} {h : Hp} (hN : 11 < N) (hc : c < 2 ^ 11) (hv : v < 16 ^ 12) : M_done N (lN v) (nI c) h = some (lN (chg v c), h) := by
  unfold M_done
  have := done_loop (N := N) (h := h) hc 11 N v 0 (by simpa using hc) (by omega) hv hN
  rw [Nat.pow_zero, Nat.div_one] at this
  exact this
end
section
/-! PURE: patterns, changes, rounds -/
theorem lg_lt (x y : Int64) : lg_cmp x y < 0 ↔ x < y := by
  unfold lg_cmp
  by_cases h1 : x > y
  · rw [if_pos h1]
    exact ⟨fun q => absurd q (by decide), fun q => absurd (Int64.lt_trans q h1) Int64.lt_irrefl⟩
  · rw [if_neg h1]
    by_cases h2 : x = y
    · rw [if_pos h2]
      exact ⟨fun q => absurd q (by decide), fun q => by subst h2; exact absurd q Int64.lt_irrefl⟩
    · rw [if_neg h2]
      exact ⟨fun _ => Int64.lt_of_le_of_ne (Int64.not_lt.mp h1) h2, fun _ => by decide⟩
theorem lg_eq (x y : Int64) : lg_cmp x y = 0 ↔ x = y := by
  unfold lg_cmp
  by_cases h1 : x > y
  · rw [if_pos h1]
    exact ⟨fun q => absurd q (by decide), fun q => by subst q; exact absurd h1 Int64.lt_irrefl⟩
  · rw [if_neg h1]
    by_cases h2 : x = y
    · rw [if_pos h2]; exact ⟨fun _ => h2, fun _ => rfl⟩
    · rw [if_neg h2]; exact ⟨fun q => absurd q (by decide), fun q => absurd q h2⟩
theorem rz_1 (h : Hp) : rz 1 h = some (1, h) := by simp [rz]
theorem rz_0 (h : Hp) : rz 0 h = some (0, h) := by simp [rz]
theorem shr63 {v k : Nat} (hv : v < 2 ^ 63) (hk : k < 64) : lN v >>> (Int32.toInt64 (nI k) &&& 63) = lN (v / 2 ^ k) := by
  rw [wb_c k hk]
  have hd : v / 2 ^ k ≤ v := Nat.div_le_self _ _
  apply Int64.toInt_inj.mp
  have e : (lN v >>> lN k).toInt = (lN v).toInt >>> k := by
    have h1 : ((lN k).toBitVec.smod 64).toNat = k := by rw [wb_tb, wb_sm k hk, BitVec.toNat_ofNat]; exact Nat.mod_eq_of_lt (by omega)
    conv => rhs; rw [← h1]
    exact BitVec.toInt_sshiftRight ..
  rw [e, Int.shiftRight_eq_div_pow, pf_lI hv, pf_lI (by omega)]
  rfl
theorem lN_eq0 {w : Nat} (hw : w < 2 ^ 63) : lN w = 0 ↔ w = 0 := by
  have := pk_lEQ hw (show 0 < 2 ^ 63 by decide)
  exact this
/-- the model's number of bells -/
def Mn (h : Hp) (n : Nat) : Prop := ok h [12] 35 = true ∧ hI h 35 2 = nI n ∧ 4 ≤ n ∧ n ≤ 12
def Pt (n v : Nat) : Prop := v < 16 ^ n ∧ ∀ i, i < n → dg v i ≤ n
theorem n12 {n : Nat} (h : n ≤ 12) : (16 : Nat) ^ n ≤ 16 ^ 12 := Nat.pow_le_pow_right (by decide) h
theorem pat_loop {N n v : Nat} {h : Hp} (hn : n ≤ 12) (hv : v < 2 ^ 63) : ∀ (r f i : Nat), i + r = n → r < f → ((∀ j, i ≤ j → j < n → dg v j ≤ n) ∧ Rows_isPattern_20 N f (lN v) (nI n) (nI i) h = some (1, h)) ∨ ((∃ j, j < n ∧ n < dg v j) ∧ Rows_isPattern_20 N f (lN v) (nI n) (nI i) h = some (0, h)) := by
  intro r
  induction r with
  | zero =>
    intro f i hi hf
    obtain ⟨f, rfl⟩ : ∃ k, f = k + 1 := ⟨f - 1, by omega⟩
    refine Or.inl ⟨fun j h1 h2 => by omega, ?_⟩
    rw [Rows_isPattern_20, if_pos ((nI_leI (by omega) (by omega)).mpr (by omega)), rz_1]
  | succ r ih =>
    intro f i hi hf
    obtain ⟨f, rfl⟩ : ∃ k, f = k + 1 := ⟨f - 1, by omega⟩
    have hd := dg_lt v i
    rw [Rows_isPattern_20, if_neg (fun q => by have := (nI_leI (by omega) (by omega)).mp q; omega), Rows_digit_s hv (by omega), cl_s]
    by_cases hb : dg v i ≤ n
    · rw [if_pos ((nI_leI (by omega) (by omega)).mpr hb)]
      simp only [nm]
      rw [nI_1]
      rcases ih f (i + 1) (by omega) (by omega) with ⟨a, b⟩ | ⟨a, b⟩
      · exact Or.inl ⟨fun j h1 h2 => by by_cases e : j = i; · rw [e]; exact hb
                                        · exact a j (by omega) h2, b⟩
      · exact Or.inr ⟨a, b⟩
    · rw [if_neg (fun q => hb ((nI_leI (by omega) (by omega)).mp q)), rz_0]
      exact Or.inr ⟨⟨i, by omega, by omega⟩, rfl⟩
theorem Rows_isPattern_s {N n : Nat} {x : Int64} {h : Hp} (hN : 12 < N) (hn : n ≤ 12) : ((∃ v, x = lN v ∧ Pt n v) ∧ Rows_isPattern N x (nI n) h = some (1, h)) ∨ ((∀ v, v < 2 ^ 63 → x = lN v → ¬ Pt n v) ∧ Rows_isPattern N x (nI n) h = some (0, h)) := by
  unfold Rows_isPattern
  by_cases h0 : x < 0
  · rw [if_pos ((lg_lt _ _).mpr h0), rz_0]
    refine Or.inr ⟨fun v hv hx => ?_, rfl⟩
    subst hx
    have : (lN v).toInt < 0 := by simpa using Int64.lt_iff_toInt_lt.mp h0
    rw [pf_lI hv] at this
    omega
  · rw [if_neg (fun q => h0 ((lg_lt _ _).mp q))]
    obtain ⟨v, hv, rfl⟩ := pk_lOf h0
    rw [nI_4, wb_shr (by omega) (by omega), ← p16]
    have hu : ∀ w, w < 2 ^ 63 → lN v = lN w → w = v := fun w hw e => ((pk_lEQ hv hw).mp e).symm
    by_cases h1 : v / 16 ^ n = 0
    · rw [if_pos ((lg_eq _ _).mpr (by rw [h1]; rfl))]
      have hlt : v < 16 ^ n := by
        rcases Nat.lt_or_ge v (16 ^ n) with q | q
        · exact q
        · have := (Nat.div_pos_iff (a := v) (b := 16 ^ n)).mpr ⟨p16_pos n, q⟩; omega
      rcases pat_loop (N := N) (h := h) hn hv n N 0 (by omega) (by omega) with ⟨a, b⟩ | ⟨⟨j, a1, a2⟩, b⟩
      · exact Or.inl ⟨⟨v, rfl, hlt, fun i hi => a i (by omega) hi⟩, b⟩
      · refine Or.inr ⟨fun w hw e p => ?_, b⟩
        rw [hu w hw e] at p
        have := p.2 j a1
        omega
    · rw [if_neg (fun q => h1 ((lN_eq0 (by have := Nat.div_le_self v (16 ^ n); omega)).mp ((lg_eq _ _).mp q))), rz_0]
      refine Or.inr ⟨fun w hw e p => h1 ?_, rfl⟩
      rw [hu w hw e] at p
      exact Nat.div_eq_of_lt p.1
theorem M_pat_loop {N n v : Nat} {h : Hp} (hM : Mn h n) (hv : v < 2 ^ 62) : ∀ (r f i : Nat), i + r = n → r < f → ((∀ j, i ≤ j → j < n → dg v j ≤ n) ∧ M_isPattern_23 N f (some 35) (lN v) (nI (i + 1)) h = some (1, h)) ∨ ((∃ j, j < n ∧ n < dg v j) ∧ M_isPattern_23 N f (some 35) (lN v) (nI (i + 1)) h = some (0, h)) := by
  obtain ⟨o, e2, n4, n12⟩ := hM
  intro r
  induction r with
  | zero =>
    intro f i hi hf
    obtain ⟨f, rfl⟩ : ∃ k, f = k + 1 := ⟨f - 1, by omega⟩
    refine Or.inl ⟨fun j h1 h2 => by omega, ?_⟩
    rw [M_isPattern_23, gi_s o, e2, if_pos ((nI_ltI (by omega) (by omega)).mpr (by omega)), rz_1]
  | succ r ih =>
    intro f i hi hf
    obtain ⟨f, rfl⟩ : ∃ k, f = k + 1 := ⟨f - 1, by omega⟩
    have hd := dg_lt v i
    rw [M_isPattern_23, gi_s o, e2, if_neg (fun q => by have := (nI_ltI (by omega) (by omega)).mp q; omega), M_bell_s hv (by omega) (by omega), cl_s, gi_s o, e2, show i + 1 - 1 = i by omega]
    by_cases hb : dg v i ≤ n
    · rw [if_pos ((nI_leI (by omega) (by omega)).mpr hb)]
      simp only [nm]
      rw [nI_1]
      rcases ih f (i + 1) (by omega) (by omega) with ⟨a, b⟩ | ⟨a, b⟩
      · exact Or.inl ⟨fun j h1 h2 => by by_cases e : j = i; · rw [e]; exact hb
                                        · exact a j (by omega) h2, b⟩
      · exact Or.inr ⟨a, b⟩
    · rw [if_neg (fun q => hb ((nI_leI (by omega) (by omega)).mp q)), rz_0]
      exact Or.inr ⟨⟨i, by omega, by omega⟩, rfl⟩
theorem M_isPattern_s {N n : Nat} {x : Int64} {h : Hp} (hN : 12 < N) (hM : Mn h n) : ((∃ v, x = lN v ∧ Pt n v) ∧ M_isPattern N (some 35) x h = some (1, h)) ∨ ((∀ v, v < 2 ^ 63 → x = lN v → ¬ Pt n v) ∧ M_isPattern N (some 35) x h = some (0, h)) := by
  have hM' := hM
  obtain ⟨o, e2, n4, hn⟩ := hM'
  unfold M_isPattern
  by_cases h0 : x < 0
  · rw [if_pos ((lg_lt _ _).mpr h0), rz_0]
    refine Or.inr ⟨fun v hv hx => ?_, rfl⟩
    subst hx
    have : (lN v).toInt < 0 := by simpa using Int64.lt_iff_toInt_lt.mp h0
    rw [pf_lI hv] at this
    omega
  · rw [if_neg (fun q => h0 ((lg_lt _ _).mp q))]
    obtain ⟨v, hv, rfl⟩ := pk_lOf h0
    rw [gi_s o, e2, nI_4, shr63 hv (by omega), ← p16]
    have hu : ∀ w, w < 2 ^ 63 → lN v = lN w → w = v := fun w hw e => ((pk_lEQ hv hw).mp e).symm
    by_cases h1 : v / 16 ^ n = 0
    · rw [if_pos ((lg_eq _ _).mpr (by rw [h1]; rfl))]
      have hlt : v < 16 ^ n := by
        rcases Nat.lt_or_ge v (16 ^ n) with q | q
        · exact q
        · have := (Nat.div_pos_iff (a := v) (b := 16 ^ n)).mpr ⟨p16_pos n, q⟩; omega
      have h62 : v < 2 ^ 62 := Nat.lt_of_lt_of_le hlt (Nat.le_trans (n12 hn) (by decide))
      rcases M_pat_loop (N := N) hM h62 n N 0 (by omega) (by omega) with ⟨a, b⟩ | ⟨⟨j, a1, a2⟩, b⟩
      · exact Or.inl ⟨⟨v, rfl, hlt, fun i hi => a i (by omega) hi⟩, b⟩
      · refine Or.inr ⟨fun w hw e p => ?_, b⟩
        rw [hu w hw e] at p
        have := p.2 j a1
        omega
    · rw [if_neg (fun q => h1 ((lN_eq0 (by have := Nat.div_le_self v (16 ^ n); omega)).mp ((lg_eq _ _).mp q))), rz_0]
      refine Or.inr ⟨fun w hw e p => h1 ?_, rfl⟩
      rw [hu w hw e] at p
      exact Nat.div_eq_of_lt p.1
end
section
/-! PURE: what a row is, on both sides -/
theorem nodup_le : ∀ (a b : List Nat), a.Nodup → (∀ x ∈ a, x ∈ b) → a.length ≤ b.length := by
  intro a
  induction a with
  | nil => intro b _ _; exact Nat.zero_le _
  | cons x a ih =>
    intro b hn hs
    have h1 : x ∈ b := hs x List.mem_cons_self
    obtain ⟨h2, h3⟩ := List.nodup_cons.mp hn
    have h4 := ih (b.erase x) h3 fun y hy => (List.mem_erase_of_ne (by rintro rfl; exact h2 hy)).mpr (hs y (List.mem_cons_of_mem _ hy))
    rw [List.length_erase_of_mem h1] at h4
    have h5 := List.length_pos_of_mem h1
    show a.length + 1 ≤ b.length
    omega
/-- a row of n bells -/
def Rw (n v : Nat) : Prop := v < 16 ^ n ∧ (∀ i, i < n → 1 ≤ dg v i ∧ dg v i ≤ n) ∧ ∀ i j, i < n → j < n → dg v i = dg v j → i = j
def dgs (n v : Nat) : List Nat := (List.range n).map (dg v)
theorem dgs_mem {n v x : Nat} : x ∈ dgs n v ↔ ∃ i, i < n ∧ dg v i = x := by simp [dgs]
theorem dgs_nodup {n v : Nat} (h : ∀ i j, i < n → j < n → dg v i = dg v j → i = j) : (dgs n v).Nodup := by
  unfold dgs
  rw [List.nodup_iff_pairwise_ne, List.pairwise_map]
  refine List.Pairwise.imp_of_mem ?_ (List.nodup_iff_pairwise_ne.mp List.nodup_range)
  intro a b ha hb hab e
  exact hab (h a b (List.mem_range.mp ha) (List.mem_range.mp hb) e)
theorem rw_cover {n v : Nat} (hr : Rw n v) {x : Nat} (h1 : 1 ≤ x) (h2 : x ≤ n) : ∃ i, i < n ∧ dg v i = x := by
  refine Classical.byContradiction fun hx => ?_
  have h3 := nodup_le (dgs n v) ((List.range' 1 n).erase x) (dgs_nodup hr.2.2) fun y hy => by
    obtain ⟨i, hi, rfl⟩ := dgs_mem.mp hy
    refine (List.mem_erase_of_ne fun e => hx ⟨i, hi, e⟩).mpr ?_
    have := hr.2.1 i hi
    rw [List.mem_range'_1]; omega
  have h4 : x ∈ List.range' 1 n := by rw [List.mem_range'_1]; omega
  rw [List.length_erase_of_mem h4] at h3
  simp [dgs] at h3
  omega
theorem cover_rw {n v : Nat} (hv : v < 16 ^ n) (hle : ∀ i, i < n → dg v i ≤ n) (hc : ∀ x, 1 ≤ x → x ≤ n → ∃ i, i < n ∧ dg v i = x) : Rw n v := by
  have inj : ∀ i j, i < n → j < n → dg v i = dg v j → i = j := by
    intro i j hi hj e
    refine Classical.byContradiction fun hij => ?_
    have h3 := nodup_le (List.range' 1 n) (((List.range n).erase j).map (dg v)) List.nodup_range' fun x hx => by
      rw [List.mem_range'_1] at hx
      obtain ⟨k, hk, ek⟩ := hc x (by omega) (by omega)
      rw [List.mem_map]
      by_cases hkj : k = j
      · exact ⟨i, (List.mem_erase_of_ne hij).mpr (List.mem_range.mpr hi), by rw [e, ← hkj]; exact ek⟩
      · exact ⟨k, (List.mem_erase_of_ne hkj).mpr (List.mem_range.mpr hk), ek⟩
    rw [List.length_map, List.length_erase_of_mem (List.mem_range.mpr hj), List.length_range', List.length_range] at h3
    omega
  refine ⟨hv, fun i hi => ⟨?_, hle i hi⟩, inj⟩
  refine Classical.byContradiction fun h0 => ?_
  have h3 := nodup_le (0 :: List.range' 1 n) (dgs n v) (List.nodup_cons.mpr ⟨by rw [List.mem_range'_1]; omega, List.nodup_range'⟩) fun x hx => by
    rw [dgs_mem]
    rcases List.mem_cons.mp hx with rfl | hx
    · exact ⟨i, hi, by omega⟩
    · rw [List.mem_range'_1] at hx
      exact hc x (by omega) (by omega)
  simp [dgs] at h3
  omega
/-- the set of the first i digits, as bits -/
def msk (v : Nat) : Nat → Nat
  | 0 => 0
  | i + 1 => msk v i ||| 2 ^ dg v i
theorem msk_bit (v x : Nat) : ∀ i, (msk v i).testBit x = true ↔ ∃ j, j < i ∧ dg v j = x := by
  intro i
  induction i with
  | zero => simp [msk]
  | succ i ih =>
    rw [msk, Nat.testBit_or, Bool.or_eq_true, ih, Nat.testBit_two_pow]
    constructor
    · rintro (⟨j, h1, h2⟩ | h)
      · exact ⟨j, by omega, h2⟩
      · exact ⟨i, by omega, by simpa using h⟩
    · rintro ⟨j, h1, h2⟩
      by_cases e : j = i
      · subst e; exact Or.inr (by simpa using h2)
      · exact Or.inl ⟨j, by omega, h2⟩
theorem msk_lt {v n : Nat} (hn : n ≤ 12) (hle : ∀ i, i < n → dg v i ≤ n) : ∀ i, i ≤ n → msk v i < 2 ^ 13 := by
  intro i
  induction i with
  | zero => intro _; simp [msk]
  | succ i ih =>
    intro hi
    have := hle i (by omega)
    exact Nat.or_lt_two_pow (ih (by omega)) (Nat.pow_lt_pow_right (by decide) (by omega))
theorem msk_full {v n : Nat} (hn : n ≤ 12) (hv : v < 16 ^ n) (hle : ∀ i, i < n → dg v i ≤ n) : msk v n = 2 ^ (n + 1) - 2 ↔ Rw n v := by
  have hb : ∀ x, (2 ^ (n + 1) - 2).testBit x = true ↔ 1 ≤ x ∧ x ≤ n := by
    intro x
    have h1 : (2 : Nat) ^ (n + 1) - 2 = 2 * (2 ^ n - 1) := by rw [Nat.pow_succ]; omega
    rw [h1]
    cases x with
    | zero => simp [Nat.testBit_zero]
    | succ x =>
      rw [Nat.testBit_succ, Nat.mul_div_cancel_left _ (by decide), Nat.testBit_two_pow_sub_one]
      simp; omega
  constructor
  · intro e
    refine cover_rw hv hle fun x h1 h2 => ?_
    rw [← msk_bit, e, hb]; exact ⟨h1, h2⟩
  · intro hr
    apply Nat.eq_of_testBit_eq
    intro x
    rw [Bool.eq_iff_iff, hb, msk_bit]
    constructor
    · rintro ⟨j, h1, rfl⟩; exact hr.2.1 j h1
    · rintro ⟨h1, h2⟩; exact rw_cover hr h1 h2
theorem nI_or (a b : Nat) : nI a ||| nI b = nI (a ||| b) := by
  apply Int32.toBitVec_inj.mp
  rw [Int32.toBitVec_or]
  show BitVec.ofNat 32 a ||| BitVec.ofNat 32 b = BitVec.ofNat 32 (a ||| b)
  apply BitVec.eq_of_getLsbD_eq
  intro i hi
  simp [BitVec.getLsbD_ofNat, hi]
theorem nI_shl1 {k : Nat} (hk : k < 31) : (1 : Int32) <<< (nI k &&& 31) = nI (2 ^ k) := by
  have h1 : (2 : Nat) ^ k ≤ 2 ^ 30 := Nat.pow_le_pow_right (by decide) (by omega)
  have := pk_shlN (n := 1) (nI k &&& 31) k (s_l k (by omega)) (by omega)
  rw [Nat.one_mul] at this
  exact this
theorem row_loop {N n v : Nat} {h : Hp} (hn : n ≤ 12) (hv : v < 16 ^ n) (hle : ∀ i, i < n → dg v i ≤ n) : ∀ (r f i : Nat), i + r = n → r < f → Rows_isRow_15 N f (lN v) (nI n) (nI (msk v i)) (nI i) h = if msk v n = 2 ^ (n + 1) - 2 then some (1, h) else some (0, h) := by
  intro r
  have h63 : v < 2 ^ 63 := Nat.lt_of_lt_of_le hv (Nat.le_trans (n12 hn) (by decide))
  induction r with
  | zero =>
    intro f i hi hf
    obtain ⟨f, rfl⟩ : ∃ k, f = k + 1 := ⟨f - 1, by omega⟩
    obtain rfl : i = n := by omega
    have hm := msk_lt hn hle i (Nat.le_refl _)
    have hp : (2 : Nat) ^ (i + 1) ≤ 2 ^ 13 := Nat.pow_le_pow_right (by decide) (by omega)
    have hp2 : 2 ≤ (2 : Nat) ^ (i + 1) := by rw [Nat.pow_succ]; have := Nat.two_pow_pos i; omega
    rw [Rows_isRow_15, if_pos ((nI_leI (by omega) (by omega)).mpr (Nat.le_refl _)), show nI i + 1 = nI (i + 1) from nI_1 i, nI_shl1 (by omega), show nI (2 ^ (i + 1)) - 2 = nI (2 ^ (i + 1) - 2) from pk_sub (b := 2) hp2, rz_1, rz_0]
    by_cases e : msk v i = 2 ^ (i + 1) - 2
    · rw [if_pos e, if_pos (by rw [e])]
    · rw [if_neg e, if_neg (fun q => e ((nI_eq (by omega) (by omega)).mp q))]
  | succ r ih =>
    intro f i hi hf
    obtain ⟨f, rfl⟩ : ∃ k, f = k + 1 := ⟨f - 1, by omega⟩
    have hd := hle i (by omega)
    rw [Rows_isRow_15, if_neg (fun q => by have := (nI_leI (by omega) (by omega)).mp q; omega), Rows_digit_s h63 (by omega), cl_s]
    simp only [nm]
    rw [nI_shl1 (by omega), nI_or, nI_1]
    exact ih f (i + 1) (by omega) (by omega)
theorem Rows_isRow_s {N n : Nat} {x : Int64} {h : Hp} (hN : 12 < N) (hn : n ≤ 12) : ((∃ v, x = lN v ∧ Rw n v) ∧ Rows_isRow N x (nI n) h = some (1, h)) ∨ ((∀ v, v < 2 ^ 63 → x = lN v → ¬ Rw n v) ∧ Rows_isRow N x (nI n) h = some (0, h)) := by
  unfold Rows_isRow
  rcases Rows_isPattern_s (N := N) (n := n) (x := x) (h := h) hN hn with ⟨⟨v, rfl, hp⟩, e⟩ | ⟨hp, e⟩
  · rw [e, cl_s, if_neg (by decide)]
    have := row_loop (N := N) (h := h) hn hp.1 hp.2 n N 0 (by omega) (by omega)
    rw [show msk v 0 = 0 from rfl, nI_0] at this
    rw [this]
    by_cases q : msk v n = 2 ^ (n + 1) - 2
    · rw [if_pos q]; exact Or.inl ⟨⟨v, rfl, (msk_full hn hp.1 hp.2).mp q⟩, rfl⟩
    · rw [if_neg q]
      refine Or.inr ⟨fun w hw e2 hr => q ?_, rfl⟩
      have h63 : v < 2 ^ 63 := Nat.lt_of_lt_of_le hp.1 (Nat.le_trans (n12 hn) (by decide))
      rw [← (pk_lEQ h63 hw).mp e2] at hr
      exact (msk_full hn hp.1 hp.2).mpr hr
  · rw [e, cl_s, if_pos rfl, rz_0]
    exact Or.inr ⟨fun v hv hx hr => hp v hv hx ⟨hr.1, fun i hi => (hr.2.1 i hi).2⟩, rfl⟩
theorem M_row_loop {N n v : Nat} {h : Hp} (hM : Mn h n) (hv : v < 16 ^ n) : ∀ (r f i : Nat), i + r = n → r < f → (∀ a, a < i → 1 ≤ dg v a ∧ dg v a ≤ n) → (∀ a b, a < i → b < i → dg v a = dg v b → a = b) → (Rw n v ∧ M_isRow_26 N f (some 35) (lN v) (nI (msk v i)) (nI (i + 1)) h = some (1, h)) ∨ (¬ Rw n v ∧ M_isRow_26 N f (some 35) (lN v) (nI (msk v i)) (nI (i + 1)) h = some (0, h)) := by
  obtain ⟨o, e2, n4, hn⟩ := hM
  have h62 : v < 2 ^ 62 := Nat.lt_of_lt_of_le hv (Nat.le_trans (n12 hn) (by decide))
  intro r
  induction r with
  | zero =>
    intro f i hi hf g1 g2
    obtain ⟨f, rfl⟩ : ∃ k, f = k + 1 := ⟨f - 1, by omega⟩
    obtain rfl : i = n := by omega
    rw [M_isRow_26, gi_s o, e2, if_pos ((nI_ltI (by omega) (by omega)).mpr (by omega)), rz_1]
    exact Or.inl ⟨⟨hv, g1, g2⟩, rfl⟩
  | succ r ih =>
    intro f i hi hf g1 g2
    obtain ⟨f, rfl⟩ : ∃ k, f = k + 1 := ⟨f - 1, by omega⟩
    have hd := dg_lt v i
    rw [M_isRow_26, gi_s o, e2, if_neg (fun q => by have := (nI_ltI (by omega) (by omega)).mp q; omega), M_bell_s h62 (by omega) (by omega), cl_s, show i + 1 - 1 = i by omega]
    by_cases hb1 : dg v i < 1
    · have hlt1 : nI (dg v i) < 1 := (nI_ltI (b := 1) (by omega) (by omega)).mpr hb1
      rw [if_pos hlt1, rz_0]
      exact Or.inr ⟨fun hr => by have := hr.2.1 i (by omega); omega, rfl⟩
    · have hne : ¬ nI (dg v i) < 1 := fun q => hb1 ((nI_ltI (b := 1) (by omega) (by omega)).mp q)
      rw [if_neg hne, gi_s o, e2]
      by_cases hb2 : n < dg v i
      · rw [if_pos ((nI_ltI (by omega) (by omega)).mpr hb2), rz_0]
        exact Or.inr ⟨fun hr => by have := hr.2.1 i (by omega); omega, rfl⟩
      · have hml : msk v i < 2 ^ 13 := by
          have : ∀ j, j ≤ i → msk v j < 2 ^ 13 := by
            intro j
            induction j with
            | zero => intro _; simp [msk]
            | succ j ihj => intro hj; exact Nat.or_lt_two_pow (ihj (by omega)) (Nat.pow_lt_pow_right (by decide) (by have := g1 j (by omega); omega))
          exact this i (Nat.le_refl _)
        rw [if_neg (fun q => hb2 ((nI_ltI (by omega) (by omega)).mp q)), pk_shrN (by omega) _ (dg v i) (s_l _ (by omega)), nI_and1]
        have hbit : msk v i / 2 ^ dg v i % 2 = 1 ↔ ∃ j, j < i ∧ dg v j = dg v i := by
          rw [← msk_bit, Nat.testBit_eq_decide_div_mod_eq]; simp
        by_cases hs : msk v i / 2 ^ dg v i % 2 = 1
        · rw [hs, if_pos (show nI 1 = 1 from rfl), rz_0]
          obtain ⟨j, j1, j2⟩ := hbit.mp hs
          exact Or.inr ⟨fun hr => by have := hr.2.2 j i (by omega) (by omega) j2; omega, rfl⟩
        · have hne2 : ¬ nI (msk v i / 2 ^ dg v i % 2) = 1 := fun q => hs ((nI_eqk 1 (by omega) (by decide)).mp q)
          rw [if_neg hne2]
          simp only [nm]
          rw [nI_shl1 (by omega), nI_or, nI_1]
          refine ih f (i + 1) (by omega) (by omega) (fun a ha => ?_) (fun a b ha hb e => ?_)
          · by_cases e : a = i
            · subst e; omega
            · exact g1 a (by omega)
          · by_cases ea : a = i
            · by_cases eb : b = i
              · omega
              · exact absurd (hbit.mpr ⟨b, by omega, by rw [← e, ea]⟩) hs
            · by_cases eb : b = i
              · exact absurd (hbit.mpr ⟨a, by omega, by rw [e, eb]⟩) hs
              · exact g2 a b (by omega) (by omega) e
theorem M_isRow_s {N n : Nat} {x : Int64} {h : Hp} (hN : 12 < N) (hM : Mn h n) : ((∃ v, x = lN v ∧ Rw n v) ∧ M_isRow N (some 35) x h = some (1, h)) ∨ ((∀ v, v < 2 ^ 63 → x = lN v → ¬ Rw n v) ∧ M_isRow N (some 35) x h = some (0, h)) := by
  have hM' := hM
  obtain ⟨o, e2, n4, hn⟩ := hM'
  unfold M_isRow
  by_cases h0 : x < 0
  · rw [if_pos ((lg_lt _ _).mpr h0), rz_0]
    refine Or.inr ⟨fun v hv hx => ?_, rfl⟩
    subst hx
    have : (lN v).toInt < 0 := by simpa using Int64.lt_iff_toInt_lt.mp h0
    rw [pf_lI hv] at this
    omega
  · rw [if_neg (fun q => h0 ((lg_lt _ _).mp q))]
    obtain ⟨v, hv, rfl⟩ := pk_lOf h0
    rw [gi_s o, e2, nI_4, shr63 hv (by omega), ← p16]
    have hu : ∀ w, w < 2 ^ 63 → lN v = lN w → w = v := fun w hw e => ((pk_lEQ hv hw).mp e).symm
    by_cases h1 : v / 16 ^ n = 0
    · rw [if_pos ((lg_eq _ _).mpr (by rw [h1]; rfl))]
      have hlt : v < 16 ^ n := by
        rcases Nat.lt_or_ge v (16 ^ n) with q | q
        · exact q
        · have := (Nat.div_pos_iff (a := v) (b := 16 ^ n)).mpr ⟨p16_pos n, q⟩; omega
      have := M_row_loop (N := N) hM hlt n N 0 (by omega) (by omega) (fun a ha => by omega) (fun a b ha hb e => by omega)
      rw [show msk v 0 = 0 from rfl, nI_0, show nI (0 + 1) = 1 from rfl] at this
      rcases this with ⟨a, b⟩ | ⟨a, b⟩
      · exact Or.inl ⟨⟨v, rfl, a⟩, b⟩
      · exact Or.inr ⟨fun w hw e p => a (by rw [hu w hw e] at p; exact p), b⟩
    · rw [if_neg (fun q => h1 ((lN_eq0 (by have := Nat.div_le_self v (16 ^ n); omega)).mp ((lg_eq _ _).mp q))), rz_0]
      refine Or.inr ⟨fun w hw e p => h1 ?_, rfl⟩
      rw [hu w hw e] at p
      exact Nat.div_eq_of_lt p.1
end
section
/-! PURE: changes' codes, rounds, products, inverses -/
theorem nI_and (a b : Nat) : nI a &&& nI b = nI (a &&& b) := by
  apply Int32.toBitVec_inj.mp
  rw [Int32.toBitVec_and]
  show BitVec.ofNat 32 a &&& BitVec.ofNat 32 b = BitVec.ofNat 32 (a &&& b)
  apply BitVec.eq_of_getLsbD_eq
  intro i hi
  simp [BitVec.getLsbD_ofNat, hi]
/-- a change of n bells -/
def Ch (n c : Nat) : Prop := c < 2 ^ (n - 1) ∧ c &&& (c / 2) = 0
theorem ch_dbl (c : Nat) : c &&& (2 * c) = 0 ↔ c &&& (c / 2) = 0 := by
  have b1 : ∀ i, (c &&& (2 * c)).testBit (i + 1) = (c.testBit (i + 1) && c.testBit i) := by
    intro i
    rw [Nat.testBit_and, Nat.testBit_succ (x := 2 * c), Nat.mul_div_cancel_left _ (by decide)]
  have b2 : ∀ i, (c &&& (c / 2)).testBit i = (c.testBit i && c.testBit (i + 1)) := by
    intro i
    rw [Nat.testBit_and, Nat.testBit_succ]
  constructor
  · intro h
    apply Nat.eq_of_testBit_eq
    intro i
    rw [b2, Nat.zero_testBit, Bool.and_comm, ← b1, h, Nat.zero_testBit]
  · intro h
    apply Nat.eq_of_testBit_eq
    intro i
    rw [Nat.zero_testBit]
    cases i with
    | zero => simp [Nat.testBit_zero]
    | succ i => rw [b1, Bool.and_comm, ← b2, h, Nat.zero_testBit]
theorem i32_of {x : Int32} (h : ¬ x < 0) : ∃ c, c < 2 ^ 31 ∧ x = nI c := nI_of h
theorem i32_neg {x : Int32} (h : x < 0) {c : Nat} (hc : c < 2 ^ 31) : x ≠ nI c := fun e => by subst e; exact nI_pos hc h
theorem Rows_isChange_s {N n : Nat} {x : Int32} {h : Hp} (hn1 : 1 ≤ n) (hn : n ≤ 12) : ((∃ c, x = nI c ∧ Ch n c) ∧ Rows_isChange N x (nI n) h = some (1, h)) ∨ ((∀ c, c < 2 ^ 31 → x = nI c → ¬ Ch n c) ∧ Rows_isChange N x (nI n) h = some (0, h)) := by
  unfold Rows_isChange
  by_cases h0 : x < 0
  · rw [if_pos h0, rz_0]
    exact Or.inr ⟨fun c hc e => absurd e (i32_neg h0 hc), rfl⟩
  · obtain ⟨c, hc, rfl⟩ := i32_of h0
    have hu : ∀ w, w < 2 ^ 31 → nI c = nI w → w = c := fun w hw e => ((nI_eq hc hw).mp e).symm
    have hp : (2 : Nat) ^ (n - 1) ≤ 2 ^ 11 := Nat.pow_le_pow_right (by decide) (by omega)
    rw [if_neg h0, nI_m1 hn1, nI_shl1 (by omega)]
    by_cases h1 : 2 ^ (n - 1) ≤ c
    · rw [if_pos ((nI_leI (by omega) hc).mpr h1), rz_0]
      exact Or.inr ⟨fun w hw e q => by rw [hu w hw e] at q; have := q.1; omega, rfl⟩
    · rw [if_neg (fun q => h1 ((nI_leI (by omega) hc).mp q)), show nI c >>> ((1 : Int32) &&& 31) = nI (c / 2) from pk_shrN (by omega) _ 1 (by decide), nI_and]
      have hle : c &&& (c / 2) ≤ c := Nat.and_le_left
      by_cases h2 : c &&& (c / 2) = 0
      · rw [h2, if_pos nI_0, rz_1]
        exact Or.inl ⟨⟨c, rfl, by omega, h2⟩, rfl⟩
      · rw [if_neg (fun q => h2 ((nI_eq0 (by omega)).mp q)), rz_0]
        exact Or.inr ⟨fun w hw e q => by rw [hu w hw e] at q; exact h2 q.2, rfl⟩
theorem M_isChange_s {N n : Nat} {x : Int32} {h : Hp} (hM : Mn h n) : ((∃ c, x = nI c ∧ Ch n c) ∧ M_isChange N (some 35) x h = some (1, h)) ∨ ((∀ c, c < 2 ^ 31 → x = nI c → ¬ Ch n c) ∧ M_isChange N (some 35) x h = some (0, h)) := by
  obtain ⟨o, e2, n4, hn⟩ := hM
  unfold M_isChange
  by_cases h0 : x < 0
  · rw [if_pos h0, rz_0]
    exact Or.inr ⟨fun c hc e => absurd e (i32_neg h0 hc), rfl⟩
  · obtain ⟨c, hc, rfl⟩ := i32_of h0
    have hu : ∀ w, w < 2 ^ 31 → nI c = nI w → w = c := fun w hw e => ((nI_eq hc hw).mp e).symm
    have hp : (2 : Nat) ^ (n - 1) ≤ 2 ^ 11 := Nat.pow_le_pow_right (by decide) (by omega)
    rw [if_neg h0, gi_s o, e2, nI_m1 (by omega), pk_shrN hc _ (n - 1) (s_l _ (by omega))]
    have hdl : c / 2 ^ (n - 1) ≤ c := Nat.div_le_self _ _
    by_cases h1 : c < 2 ^ (n - 1)
    · rw [Nat.div_eq_of_lt h1, if_pos nI_0, show nI c <<< ((1 : Int32) &&& 31) = nI (c * 2 ^ 1) from pk_shlN _ 1 (by decide) (by omega), Nat.pow_one, Nat.mul_comm c 2, nI_and]
      have hle : c &&& (2 * c) ≤ c := Nat.and_le_left
      by_cases h2 : c &&& (2 * c) = 0
      · rw [h2, if_pos nI_0, rz_1]
        exact Or.inl ⟨⟨c, rfl, h1, (ch_dbl c).mp h2⟩, rfl⟩
      · rw [if_neg (fun q => h2 ((nI_eq0 (by omega)).mp q)), rz_0]
        exact Or.inr ⟨fun w hw e q => by rw [hu w hw e] at q; exact h2 ((ch_dbl c).mpr q.2), rfl⟩
    · have hpos : 0 < c / 2 ^ (n - 1) := Nat.div_pos (by omega) (Nat.two_pow_pos _)
      rw [if_neg (fun q => by have := (nI_eq0 (by omega)).mp q; omega), rz_0]
      exact Or.inr ⟨fun w hw e q => by rw [hu w hw e] at q; exact h1 q.1, rfl⟩
def rd (n : Nat) : Nat := 223928981472033 % 16 ^ n
theorem rd_dg : ∀ n, n ≤ 12 → ∀ i, i < n → dg (rd n) i = i + 1 := by decide +kernel
theorem rd_rw {n : Nat} (hn : n ≤ 12) : Rw n (rd n) := ⟨Nat.mod_lt _ (p16_pos n), fun i hi => by rw [rd_dg n hn i hi]; omega, fun i j hi hj e => by rw [rd_dg n hn i hi, rd_dg n hn j hj] at e; omega⟩
theorem rd_lt {n : Nat} (hn : n ≤ 12) : rd n < 16 ^ 12 := Nat.lt_of_lt_of_le (Nat.mod_lt _ (p16_pos n)) (n12 hn)
theorem Rows_rounds_s {N n : Nat} {h : Hp} (hn : n ≤ 12) : Rows_rounds N (nI n) h = some (lN (rd n), h) := by
  unfold Rows_rounds
  have o : (1 : Int64) = lN 1 := rfl
  have hp := p16_pos n
  rw [nI_4, o, wb_shl _ (by omega), Nat.one_mul, ← p16, show lN (16 ^ n) - lN 1 = lN (16 ^ n - 1) from lN_sub (by omega), p16, show (223928981472033 : Int64) = lN 223928981472033 from rfl, wb_mask (by decide) (by omega), rd, p16]
theorem rd_step : ∀ p, p < 12 → rd (p + 1) = (p + 1) * 16 ^ p + rd p := by decide +kernel
theorem rounds_loop {N : Nat} {h : Hp} : ∀ (p f r : Nat), p ≤ 12 → p < f → M_rounds_7 N f (lN r) (nI p) h = some (lN (r * 16 ^ p + rd p), h) := by
  intro p
  induction p with
  | zero =>
    intro f r hp hf
    obtain ⟨f, rfl⟩ : ∃ k, f = k + 1 := ⟨f - 1, by omega⟩
    rw [M_rounds_7, if_pos (by rw [nI_0]; decide)]
    simp [rd, Nat.mod_one]
  | succ p ih =>
    intro f r hp hf
    obtain ⟨f, rfl⟩ : ∃ k, f = k + 1 := ⟨f - 1, by omega⟩
    have hne : ¬ nI (p + 1) < 1 := fun q => by have := (nI_ltI (b := 1) (by omega) (by omega)).mp q; omega
    rw [M_rounds_7, if_neg hne]
    simp only [nm]
    rw [show nI (p + 1) + (-1) = nI p from pk_m1 p, nI_l (by omega), show (16 : Int64) * lN r = lN (16 * r) from lN_mul 16 r, lN_add, ih f _ (by omega) (by omega), rd_step p (by omega), Nat.pow_succ]
    congr 3
    generalize (16 : Nat) ^ p = P
    rw [Nat.add_mul, ← Nat.mul_assoc, Nat.mul_comm (r * P) 16, Nat.mul_assoc 16 r P]
    omega
theorem M_rounds_s {N n : Nat} {h : Hp} (hN : 12 < N) (hM : Mn h n) : M_rounds N (some 35) h = some (lN (rd n), h) := by
  obtain ⟨o, e2, n4, hn⟩ := hM
  unfold M_rounds
  rw [gi_s o, e2]
  have := rounds_loop (N := N) (h := h) n N 0 hn (by omega)
  rw [Nat.zero_mul, Nat.zero_add] at this
  exact this
/-- a number by its digits -/
def mk (f : Nat → Nat) : Nat → Nat
  | 0 => 0
  | i + 1 => mk f i + f i * 16 ^ i
theorem mk_lt {f : Nat → Nat} {n : Nat} (hf : ∀ i, i < n → f i < 16) : ∀ i, i ≤ n → mk f i < 16 ^ i := by
  intro i
  induction i with
  | zero => intro _; simp [mk]
  | succ i ih =>
    intro hi
    have h1 := ih (by omega)
    have h2 : f i * 16 ^ i ≤ 15 * 16 ^ i := Nat.mul_le_mul_right _ (by have := hf i (by omega); omega)
    rw [mk, Nat.pow_succ]
    omega
theorem mk_dg {f : Nat → Nat} {n : Nat} (hf : ∀ i, i < n → f i < 16) : ∀ i, i ≤ n → ∀ j, j < i → dg (mk f i) j = f j := by
  intro i
  induction i with
  | zero => intro _ j hj; omega
  | succ i ih =>
    intro hi j hj
    have h1 := mk_lt hf i (by omega)
    rw [mk]
    by_cases e : j = i
    · subst e
      rw [dg, Nat.add_mul_div_right _ _ (p16_pos j), Nat.div_eq_of_lt h1, Nat.zero_add, Nat.mod_eq_of_lt (hf j (by omega))]
    · rw [← ih (by omega) j (by omega)]
      obtain ⟨d, rfl⟩ : ∃ d, i = j + 1 + d := ⟨i - j - 1, by omega⟩
      have g : ∀ w : Nat, dg w j = w % 16 ^ (j + 1) / 16 ^ j := fun w => by rw [dg, Nat.pow_succ, Nat.mod_mul_right_div_self]
      rw [g, g, show f (j + 1 + d) * 16 ^ (j + 1 + d) = 16 ^ (j + 1) * (f (j + 1 + d) * 16 ^ d) by rw [Nat.pow_add, Nat.mul_left_comm], Nat.add_mul_mod_self_left]
theorem or_add {x y d : Nat} (hx : dg x d = 0) (hy : y < 16) : x ||| (y * 16 ^ d) = x + y * 16 ^ d := by
  have hx4 : x / 2 ^ (4 * d) % 16 = 0 := by rw [dg, p16] at hx; exact hx
  have e1 : (x ||| (y * 16 ^ d)) % 16 ^ d = x % 16 ^ d := by
    rw [p16, Nat.or_mod_two_pow, Nat.mul_mod_left, Nat.or_zero]
  have e2 : (x ||| (y * 16 ^ d)) / 16 ^ d = x / 16 ^ d + y := by
    rw [p16, Nat.or_div_two_pow, Nat.mul_div_cancel _ (Nat.two_pow_pos _)]
    obtain ⟨w, hw⟩ : ∃ w, x / 2 ^ (4 * d) = 2 ^ 4 * w := ⟨x / 2 ^ (4 * d) / 16, by omega⟩
    rw [hw, ← Nat.two_pow_add_eq_or_of_lt (i := 4) (b := y) (by omega)]
  have h1 := Nat.mod_add_div (x ||| (y * 16 ^ d)) (16 ^ d)
  have h2 := Nat.mod_add_div x (16 ^ d)
  rw [e1, e2, Nat.mul_add] at h1
  have h3 : 16 ^ d * y = y * 16 ^ d := Nat.mul_comm _ _
  omega
/-- the product of two rows -/
def tm (n a b : Nat) : Nat := mk (fun i => dg a (dg b i - 1)) n
theorem tm_lt (n a b : Nat) : tm n a b < 16 ^ n := mk_lt (n := n) (fun i _ => dg_lt _ _) n (Nat.le_refl _)
theorem tm_dg {n a b i : Nat} (hi : i < n) : dg (tm n a b) i = dg a (dg b i - 1) := mk_dg (n := n) (f := fun i => dg a (dg b i - 1)) (fun i _ => dg_lt _ _) n (Nat.le_refl _) i hi
theorem tm_rw {n a b : Nat} (ha : Rw n a) (hb : Rw n b) : Rw n (tm n a b) := by
  refine ⟨tm_lt n a b, fun i hi => ?_, fun i j hi hj e => ?_⟩
  · rw [tm_dg hi]
    have := hb.2.1 i hi
    exact ha.2.1 _ (by omega)
  · rw [tm_dg hi, tm_dg hj] at e
    have h1 := hb.2.1 i hi
    have h2 := hb.2.1 j hj
    have := ha.2.2 _ _ (by omega) (by omega) e
    exact hb.2.2 i j hi hj (by omega)
theorem times_loop {N n a b : Nat} {h : Hp} (hn : n ≤ 12) (ha : a < 16 ^ 12) (hb : Rw n b) : ∀ (r f i : Nat), i + r = n → r < f → Rows_times_6 N f (lN a) (lN b) (nI n) (lN (mk (fun i => dg a (dg b i - 1)) i)) (nI i) h = some (lN (tm n a b), h) := by
  have ha63 : a < 2 ^ 63 := Nat.lt_of_lt_of_le ha (by decide)
  have hb63 : b < 2 ^ 63 := Nat.lt_of_lt_of_le hb.1 (Nat.le_trans (n12 hn) (by decide))
  intro r
  induction r with
  | zero =>
    intro f i hi hf
    obtain ⟨f, rfl⟩ : ∃ k, f = k + 1 := ⟨f - 1, by omega⟩
    obtain rfl : i = n := by omega
    rw [Rows_times_6, if_pos ((nI_leI (by omega) (by omega)).mpr (Nat.le_refl _)), tm]
  | succ r ih =>
    intro f i hi hf
    obtain ⟨f, rfl⟩ : ∃ k, f = k + 1 := ⟨f - 1, by omega⟩
    have hd := hb.2.1 i (by omega)
    have hm := mk_lt (f := fun i => dg a (dg b i - 1)) (n := n) (fun i _ => dg_lt _ _) i (by omega)
    rw [Rows_times_6, if_neg (fun q => by have := (nI_leI (by omega) (by omega)).mp q; omega), Rows_digit_s hb63 (by omega), cl_s, nI_m1 hd.1, Rows_digit_s ha63 (by omega), cl_s]
    simp only [nm]
    have hx := dg_lt a (dg b i - 1)
    have hpi : (16 : Nat) ^ i ≤ 16 ^ 11 := Nat.pow_le_pow_right (by decide) (by omega)
    have hb2 : dg a (dg b i - 1) * 16 ^ i ≤ 15 * 16 ^ 11 := Nat.mul_le_mul (by omega) hpi
    rw [dg_l, nI_4, wb_shl _ (by omega), ← p16, wb_or (by omega) (by omega), or_add (dg_big hm (Nat.le_refl _)) hx, nI_1]
    exact ih f (i + 1) (by omega) (by omega)
theorem Rows_times_s {N n a b : Nat} {h : Hp} (hN : 12 < N) (hn : n ≤ 12) (ha : a < 16 ^ 12) (hb : Rw n b) : Rows_times N (lN a) (lN b) (nI n) h = some (lN (tm n a b), h) := by
  unfold Rows_times
  have := times_loop (N := N) (h := h) hn ha hb n N 0 (by omega) (by omega)
  rw [show mk (fun i => dg a (dg b i - 1)) 0 = 0 from rfl, nI_0] at this
  exact this
theorem M_times_loop {N n a b : Nat} {h : Hp} (hM : Mn h n) (ha : a < 16 ^ 12) (hb : Rw n b) : ∀ (r f i : Nat), i + r = n → r < f → M_times_6 N f (some 35) (lN a) (lN b) (lN (mk (fun i => dg a (dg b i - 1)) i)) (nI (i + 1)) h = some (lN (tm n a b), h) := by
  obtain ⟨o, e2, n4, hn⟩ := hM
  have ha62 : a < 2 ^ 62 := Nat.lt_of_lt_of_le ha (by decide)
  have hb62 : b < 2 ^ 62 := Nat.lt_of_lt_of_le hb.1 (Nat.le_trans (n12 hn) (by decide))
  intro r
  induction r with
  | zero =>
    intro f i hi hf
    obtain ⟨f, rfl⟩ : ∃ k, f = k + 1 := ⟨f - 1, by omega⟩
    obtain rfl : i = n := by omega
    rw [M_times_6, gi_s o, e2, if_pos ((nI_ltI (by omega) (by omega)).mpr (by omega)), tm]
  | succ r ih =>
    intro f i hi hf
    obtain ⟨f, rfl⟩ : ∃ k, f = k + 1 := ⟨f - 1, by omega⟩
    have hd := hb.2.1 i (by omega)
    rw [M_times_6, gi_s o, e2, if_neg (fun q => by have := (nI_ltI (by omega) (by omega)).mp q; omega), M_bell_s hb62 (by omega) (by omega), cl_s, show i + 1 - 1 = i by omega, M_bell_s ha62 (by omega) (by omega), cl_s]
    simp only [nm]
    rw [dg_l, nI_m1 (by omega), show i + 1 - 1 = i by omega, nI_4, wb_shl _ (by omega), ← p16, lN_add, nI_1]
    exact ih f (i + 1) (by omega) (by omega)
theorem M_times_s {N n a b : Nat} {h : Hp} (hN : 12 < N) (hM : Mn h n) (ha : a < 16 ^ 12) (hb : Rw n b) : M_times N (some 35) (lN a) (lN b) h = some (lN (tm n a b), h) := by
  unfold M_times
  have hn := hM.2.2.2
  have := M_times_loop (N := N) hM ha hb n N 0 (by omega) (by omega)
  rw [show mk (fun i => dg a (dg b i - 1)) 0 = 0 from rfl] at this
  exact this
/-- the inverse of a row, as far as it is made -/
def ivs (a : Nat) : Nat → Nat
  | 0 => 0
  | i + 1 => ivs a i + (i + 1) * 16 ^ (dg a i - 1)
theorem add_dg {x y d e : Nat} (hx : dg x d = 0) (hy : y < 16) : dg (x + y * 16 ^ d) e = if e = d then y else dg x e := by
  have hx4 : x / 16 ^ d % 16 = 0 := hx
  have hs := Nat.mod_add_div x (16 ^ d)
  have hm := Nat.mod_lt x (p16_pos d)
  have e2 : (x + y * 16 ^ d) / 16 ^ d = x / 16 ^ d + y := by rw [Nat.add_mul_div_right _ _ (p16_pos d)]
  rcases Nat.lt_trichotomy e d with h | h | h
  · rw [if_neg (by omega)]
    obtain ⟨k, rfl⟩ : ∃ k, d = e + 1 + k := ⟨d - e - 1, by omega⟩
    have g : ∀ w : Nat, dg w e = w % 16 ^ (e + 1) / 16 ^ e := fun w => by rw [dg, Nat.pow_succ, Nat.mod_mul_right_div_self]
    rw [g, g, show y * 16 ^ (e + 1 + k) = 16 ^ (e + 1) * (y * 16 ^ k) by rw [Nat.pow_add, Nat.mul_left_comm], Nat.add_mul_mod_self_left]
  · subst h
    rw [if_pos rfl, dg, e2]
    omega
  · rw [if_neg (by omega)]
    obtain ⟨k, rfl⟩ : ∃ k, e = d + 1 + k := ⟨e - d - 1, by omega⟩
    rw [dg, dg, show (16 : Nat) ^ (d + 1 + k) = 16 ^ d * (16 * 16 ^ k) by rw [Nat.pow_add, Nat.pow_succ, Nat.mul_assoc], ← Nat.div_div_eq_div_mul, ← Nat.div_div_eq_div_mul x, e2, ← Nat.div_div_eq_div_mul, ← Nat.div_div_eq_div_mul (x / 16 ^ d)]
    congr 2
    omega
theorem ivs_dg {n a : Nat} (hn : n ≤ 12) (ha : Rw n a) : ∀ i, i ≤ n → ∀ e, dg (ivs a i) e = if ∃ j, j < i ∧ dg a j - 1 = e then dg (ivs a i) e else 0 := by
  intro i
  induction i with
  | zero => intro _ e; simp [ivs, dg]
  | succ i ih =>
    intro hi e
    by_cases h : ∃ j, j < i + 1 ∧ dg a j - 1 = e
    · rw [if_pos h]
    · rw [if_neg h]
      have h0 : dg (ivs a i) (dg a i - 1) = 0 := by
        rw [ih (by omega), if_neg]
        rintro ⟨j, h1, h2⟩
        have := ha.2.1 i (by omega)
        have := ha.2.1 j (by omega)
        have := ha.2.2 j i (by omega) (by omega) (by omega)
        omega
      rw [ivs, add_dg h0 (by omega), if_neg (fun q => h ⟨i, by omega, q.symm⟩), ih (by omega), if_neg]
      rintro ⟨j, h1, h2⟩
      exact h ⟨j, by omega, h2⟩
theorem ivs_0 {n a i : Nat} (hn : n ≤ 12) (ha : Rw n a) (hi : i < n) : dg (ivs a i) (dg a i - 1) = 0 := by
  rw [ivs_dg hn ha i (by omega), if_neg]
  rintro ⟨j, h1, h2⟩
  have := ha.2.1 i (by omega)
  have := ha.2.1 j (by omega)
  have := ha.2.2 j i (by omega) (by omega) (by omega)
  omega
theorem ivs_lt {n a : Nat} (hn : n ≤ 12) (ha : Rw n a) : ∀ i, i ≤ n → ivs a i < 16 ^ 12 := by
  intro i hi
  have key : ∀ k, k ≤ n → ivs a k ≤ k * (12 * 16 ^ 11) := by
    intro k
    induction k with
    | zero => intro _; simp [ivs]
    | succ k ih =>
      intro hk
      have h1 := ha.2.1 k (by omega)
      have h2 : (16 : Nat) ^ (dg a k - 1) ≤ 16 ^ 11 := Nat.pow_le_pow_right (by decide) (by omega)
      have h3 : (k + 1) * 16 ^ (dg a k - 1) ≤ 12 * 16 ^ 11 := Nat.mul_le_mul (by omega) h2
      have h4 := ih (by omega)
      have h5 : (k + 1) * (12 * 16 ^ 11) = k * (12 * 16 ^ 11) + 12 * 16 ^ 11 := by rw [Nat.add_mul, Nat.one_mul]
      rw [ivs, h5]
      exact Nat.add_le_add h4 h3
  -- the digits say more: beyond the twelfth there is none
  refine Classical.byContradiction fun hge => ?_
  have hpos : 0 < ivs a i / 16 ^ 12 := Nat.div_pos (by omega) (by decide)
  have hk := key i hi
  have hsm : ivs a i / 16 ^ 12 < 16 := by
    have : i * (12 * 16 ^ 11) ≤ 12 * (12 * 16 ^ 11) := Nat.mul_le_mul_right _ (by omega)
    omega
  have : dg (ivs a i) 12 = 0 := by
    rw [ivs_dg hn ha i hi, if_neg]
    rintro ⟨j, h1, h2⟩
    have := ha.2.1 j (by omega)
    omega
  rw [dg, Nat.mod_eq_of_lt hsm] at this
  omega
theorem inv_loop {N n a : Nat} {h : Hp} (hn : n ≤ 12) (ha : Rw n a) : ∀ (r f i : Nat), i + r = n → r < f → Rows_inverseOf_5 N f (lN a) (nI n) (lN (ivs a i)) (nI i) h = some (lN (ivs a n), h) := by
  have ha63 : a < 2 ^ 63 := Nat.lt_of_lt_of_le ha.1 (Nat.le_trans (n12 hn) (by decide))
  intro r
  induction r with
  | zero =>
    intro f i hi hf
    obtain ⟨f, rfl⟩ : ∃ k, f = k + 1 := ⟨f - 1, by omega⟩
    obtain rfl : i = n := by omega
    rw [Rows_inverseOf_5, if_pos ((nI_leI (by omega) (by omega)).mpr (Nat.le_refl _))]
  | succ r ih =>
    intro f i hi hf
    obtain ⟨f, rfl⟩ : ∃ k, f = k + 1 := ⟨f - 1, by omega⟩
    have hd := ha.2.1 i (by omega)
    have hl := ivs_lt hn ha i (by omega)
    rw [Rows_inverseOf_5, if_neg (fun q => by have := (nI_leI (by omega) (by omega)).mp q; omega), Rows_digit_s ha63 (by omega), cl_s]
    simp only [nm]
    have hp : (16 : Nat) ^ (dg a i - 1) ≤ 16 ^ 11 := Nat.pow_le_pow_right (by decide) (by omega)
    have hp2 : (i + 1) * 16 ^ (dg a i - 1) ≤ 12 * 16 ^ 11 := Nat.mul_le_mul (by omega) hp
    rw [nI_m1 hd.1, nI_4, nI_l (by omega), lN_1, wb_shl _ (by omega), ← p16, wb_or (by omega) (by omega), or_add (ivs_0 hn ha (by omega)) (by omega), nI_1]
    exact ih f (i + 1) (by omega) (by omega)
theorem Rows_inverseOf_s {N n a : Nat} {h : Hp} (hN : 12 < N) (hn : n ≤ 12) (ha : Rw n a) : Rows_inverseOf N (lN a) (nI n) h = some (lN (ivs a n), h) := by
  unfold Rows_inverseOf
  have := inv_loop (N := N) (h := h) hn ha n N 0 (by omega) (by omega)
  exact this
theorem M_inv_loop {N n a : Nat} {h : Hp} (hM : Mn h n) (ha : Rw n a) : ∀ (r f i : Nat), i + r = n → r < f → M_inverse_28 N f (some 35) (lN a) (lN (ivs a i)) (nI (i + 1)) h = some (lN (ivs a n), h) := by
  obtain ⟨o, e2, n4, hn⟩ := hM
  have ha62 : a < 2 ^ 62 := Nat.lt_of_lt_of_le ha.1 (Nat.le_trans (n12 hn) (by decide))
  intro r
  induction r with
  | zero =>
    intro f i hi hf
    obtain ⟨f, rfl⟩ : ∃ k, f = k + 1 := ⟨f - 1, by omega⟩
    obtain rfl : i = n := by omega
    rw [M_inverse_28, gi_s o, e2, if_pos ((nI_ltI (by omega) (by omega)).mpr (by omega))]
  | succ r ih =>
    intro f i hi hf
    obtain ⟨f, rfl⟩ : ∃ k, f = k + 1 := ⟨f - 1, by omega⟩
    have hd := ha.2.1 i (by omega)
    rw [M_inverse_28, gi_s o, e2, if_neg (fun q => by have := (nI_ltI (by omega) (by omega)).mp q; omega), M_bell_s ha62 (by omega) (by omega), cl_s, show i + 1 - 1 = i by omega]
    simp only [nm]
    rw [nI_m1 hd.1, nI_4, nI_l (by omega), wb_shl _ (by omega), ← p16, lN_add, nI_1]
    exact ih f (i + 1) (by omega) (by omega)
end
section
/-! PURE: a row's order; none of twelve bells has an order above 60 -/
def it (g : Nat → Nat) : Nat → Nat → Nat
  | 0, i => i
  | k + 1, i => it g k (g i)
theorem it_add (g : Nat → Nat) : ∀ a b i, it g (a + b) i = it g b (it g a i) := by
  intro a
  induction a with
  | zero => intro b i; rw [Nat.zero_add]; rfl
  | succ a ih => intro b i; rw [show a + 1 + b = (a + b) + 1 by omega]; exact ih b (g i)
theorem it_succ (g : Nat → Nat) (k i : Nat) : it g (k + 1) i = g (it g k i) := by rw [it_add g k 1]; rfl
section ORD
variable {n : Nat} {g : Nat → Nat} (hg : ∀ i, i < n → g i < n) (hinj : ∀ i j, i < n → j < n → g i = g j → i = j)
theorem it_lt (hg : ∀ i, i < n → g i < n) : ∀ k i, i < n → it g k i < n := by
  intro k
  induction k with
  | zero => intro i hi; exact hi
  | succ k ih => intro i hi; exact ih _ (hg i hi)
theorem it_inj (hg : ∀ i, i < n → g i < n) (hinj : ∀ i j, i < n → j < n → g i = g j → i = j) : ∀ k i j, i < n → j < n → it g k i = it g k j → i = j := by
  intro k
  induction k with
  | zero => intro i j _ _ e; exact e
  | succ k ih => intro i j hi hj e; exact hinj i j hi hj (ih _ _ (hg i hi) (hg j hj) e)
/-- m is the first time that i comes back -/
def Per (g : Nat → Nat) (i m : Nat) : Prop := 1 ≤ m ∧ it g m i = i ∧ ∀ j, 1 ≤ j → j < m → it g j i ≠ i
theorem nodup_map {f : Nat → Nat} {k : Nat} (h : ∀ a b, a < k → b < k → f a = f b → a = b) : ((List.range k).map f).Nodup := by
  rw [List.nodup_iff_pairwise_ne, List.pairwise_map]
  refine List.Pairwise.imp_of_mem ?_ (List.nodup_iff_pairwise_ne.mp List.nodup_range)
  intro a b ha hb hab e
  exact hab (h a b (List.mem_range.mp ha) (List.mem_range.mp hb) e)
theorem per_ex (hg : ∀ i, i < n → g i < n) (hinj : ∀ i j, i < n → j < n → g i = g j → i = j) {i : Nat} (hi : i < n) : ∃ m, m ≤ n ∧ Per g i m := by
  have hex : ∃ m, 1 ≤ m ∧ m ≤ n ∧ it g m i = i := by
    refine Classical.byContradiction fun hno => ?_
    have h3 := nodup_le ((List.range (n + 1)).map (fun k => it g k i)) (List.range n) (nodup_map fun a b ha hb e => ?_) fun y hy => ?_
    · rw [List.length_map, List.length_range, List.length_range] at h3; omega
    · refine Classical.byContradiction fun hab => ?_
      have key : ∀ a b, a < b → b < n + 1 → it g a i = it g b i → False := by
        intro a b hab hb e
        refine hno ⟨b - a, by omega, by omega, ?_⟩
        have e1 : it g b i = it g a (it g (b - a) i) := by rw [← it_add]; congr 1; omega
        rw [e1] at e
        exact (it_inj hg hinj a _ _ hi (it_lt hg _ _ hi) e).symm
      rcases Nat.lt_or_gt_of_ne hab with q | q
      · exact key a b q hb e
      · exact key b a q ha e.symm
    · obtain ⟨k, hk, rfl⟩ := List.mem_map.mp hy
      exact List.mem_range.mpr (it_lt hg k i hi)
  obtain ⟨m, ⟨h1, h2, h3⟩, h4⟩ := pk_least (fun m => 1 ≤ m ∧ m ≤ n ∧ it g m i = i) hex
  exact ⟨m, h2, h1, h3, fun j q1 q2 e => h4 j q2 ⟨q1, by omega, e⟩⟩
theorem per_uniq {i m m' : Nat} (h : Per g i m) (h' : Per g i m') : m = m' := by
  rcases Nat.lt_trichotomy m m' with q | q | q
  · exact absurd h.2.1 (h'.2.2 m h.1 q)
  · exact q
  · exact absurd h'.2.1 (h.2.2 m' h'.1 q)
theorem per_orb (hg : ∀ i, i < n → g i < n) (hinj : ∀ i j, i < n → j < n → g i = g j → i = j) {i m : Nat} (hi : i < n) (h : Per g i m) (k : Nat) : Per g (it g k i) m := by
  refine ⟨h.1, ?_, fun j h1 h2 e => h.2.2 j h1 h2 ?_⟩
  · rw [← it_add, Nat.add_comm, it_add, h.2.1]
  · rw [← it_add, Nat.add_comm, it_add] at e
    exact it_inj hg hinj k _ _ (it_lt hg j i hi) hi e
theorem per_dist {i m : Nat} (hg : ∀ i, i < n → g i < n) (hinj : ∀ i j, i < n → j < n → g i = g j → i = j) (hi : i < n) (h : Per g i m) : ∀ a b, a < m → b < m → it g a i = it g b i → a = b := by
  have key : ∀ a b, a < b → b < m → it g a i = it g b i → False := by
    intro a b hab hb e
    have e1 : it g b i = it g a (it g (b - a) i) := by rw [← it_add]; congr 1; omega
    rw [e1] at e
    exact h.2.2 (b - a) (by omega) (by omega) (it_inj hg hinj a _ _ hi (it_lt hg _ _ hi) e).symm
  intro a b ha hb e
  rcases Nat.lt_trichotomy a b with q | q | q
  · exact absurd (key a b q hb e) id
  · exact q
  · exact absurd (key b a q ha e.symm) id
theorem per_mul {i m : Nat} (h : Per g i m) : ∀ k, it g (m * k) i = i := by
  intro k
  induction k with
  | zero => rfl
  | succ k ih => rw [Nat.mul_succ, it_add, ih]; exact h.2.1
def lcmL : List Nat → Nat
  | [] => 1
  | x :: l => Nat.lcm x (lcmL l)
theorem dvd_lcmL {x : Nat} : ∀ {l : List Nat}, x ∈ l → x ∣ lcmL l := by
  intro l
  induction l with
  | nil => intro h; cases h
  | cons y l ih =>
    intro h
    rcases List.mem_cons.mp h with rfl | h
    · exact Nat.dvd_lcm_left _ _
    · exact Nat.dvd_trans (ih h) (Nat.dvd_lcm_right _ _)
def wl12 (b : Nat → Bool) (e : Nat) : List Nat := [1, 2, 3, 4, 5, 6, 7, 8, 9, 10, 11, 12].map (fun m => if b m = true then m else e)
theorem landau : ∀ b1 b2 b3 b4 b5 b6 b7 b8 b9 b10 b11 b12 : Bool, [if b1 = true then 1 else 0, if b2 = true then 2 else 0, if b3 = true then 3 else 0, if b4 = true then 4 else 0, if b5 = true then 5 else 0, if b6 = true then 6 else 0, if b7 = true then 7 else 0, if b8 = true then 8 else 0, if b9 = true then 9 else 0, if b10 = true then 10 else 0, if b11 = true then 11 else 0, if b12 = true then 12 else 0].sum ≤ 12 →
    1 ≤ lcmL [if b1 = true then 1 else 1, if b2 = true then 2 else 1, if b3 = true then 3 else 1, if b4 = true then 4 else 1, if b5 = true then 5 else 1, if b6 = true then 6 else 1, if b7 = true then 7 else 1, if b8 = true then 8 else 1, if b9 = true then 9 else 1, if b10 = true then 10 else 1, if b11 = true then 11 else 1, if b12 = true then 12 else 1] ∧ lcmL [if b1 = true then 1 else 1, if b2 = true then 2 else 1, if b3 = true then 3 else 1, if b4 = true then 4 else 1, if b5 = true then 5 else 1, if b6 = true then 6 else 1, if b7 = true then 7 else 1, if b8 = true then 8 else 1, if b9 = true then 9 else 1, if b10 = true then 10 else 1, if b11 = true then 11 else 1, if b12 = true then 12 else 1] ≤ 60 := by decide +kernel
theorem order_ex (hn : n ≤ 12) (hg : ∀ i, i < n → g i < n) (hinj : ∀ i j, i < n → j < n → g i = g j → i = j) : ∃ k, k < 60 ∧ ∀ i, i < n → it g (k + 1) i = i := by
  have hch : ∀ m, ∃ q : Bool × Nat, (q.1 = true → q.2 < n ∧ Per g q.2 m) ∧ (q.1 = false → ∀ i, i < n → ¬ Per g i m) := by
    intro m
    by_cases h : ∃ i, i < n ∧ Per g i m
    · obtain ⟨i, h1, h2⟩ := h
      exact ⟨(true, i), fun _ => ⟨h1, h2⟩, fun q => by cases q⟩
    · exact ⟨(false, 0), (fun q => by cases q), fun _ i hi hp => h ⟨i, hi, hp⟩⟩
  obtain ⟨F, hF⟩ := Classical.axiomOfChoice hch
  have hlen := nodup_le ([1, 2, 3, 4, 5, 6, 7, 8, 9, 10, 11, 12].flatMap (fun m => if (F m).1 = true then (List.range m).map (fun k => it g k (F m).2) else [])) (List.range n) ?_ ?_
  · rw [List.length_range, List.length_flatMap] at hlen
    have hl : ∀ m, (if (F m).1 = true then (List.range m).map (fun k => it g k (F m).2) else []).length = if (F m).1 = true then m else 0 := by
      intro m
      by_cases h : (F m).1 = true
      · rw [if_pos h, if_pos h, List.length_map, List.length_range]
      · rw [if_neg h, if_neg h]; rfl
    simp only [List.map_cons, List.map_nil, hl] at hlen
    obtain ⟨L1, L2⟩ := landau (F 1).1 (F 2).1 (F 3).1 (F 4).1 (F 5).1 (F 6).1 (F 7).1 (F 8).1 (F 9).1 (F 10).1 (F 11).1 (F 12).1 (Nat.le_trans hlen hn)
    generalize hLL : lcmL _ = LL at L1 L2
    refine ⟨LL - 1, by omega, fun i hi => ?_⟩
    rw [show LL - 1 + 1 = LL by omega]
    obtain ⟨m, hm, hp⟩ := per_ex hg hinj hi
    have hb : (F m).1 = true := by
      cases h : (F m).1 with
      | true => rfl
      | false => exact absurd hp ((hF m).2 h i hi)
    have hdvd : m ∣ LL := by
      rw [← hLL]
      refine dvd_lcmL ?_
      have h1 := hp.1
      have hc : m = 1 ∨ m = 2 ∨ m = 3 ∨ m = 4 ∨ m = 5 ∨ m = 6 ∨ m = 7 ∨ m = 8 ∨ m = 9 ∨ m = 10 ∨ m = 11 ∨ m = 12 := by omega
      rcases hc with rfl | rfl | rfl | rfl | rfl | rfl | rfl | rfl | rfl | rfl | rfl | rfl <;> simp [hb]
    obtain ⟨k, rfl⟩ := hdvd
    exact per_mul hp k
  · rw [List.nodup_iff_pairwise_ne, List.pairwise_flatMap]
    constructor
    · intro m _
      by_cases h : (F m).1 = true
      · rw [if_pos h]
        obtain ⟨h1, h2⟩ := (hF m).1 h
        exact List.nodup_iff_pairwise_ne.mp (nodup_map fun a b ha hb e => per_dist hg hinj h1 h2 a b ha hb e)
      · rw [if_neg h]; exact List.Pairwise.nil
    · have hd : List.Pairwise (fun a b : Nat => a ≠ b) [1, 2, 3, 4, 5, 6, 7, 8, 9, 10, 11, 12] := by decide
      refine hd.imp fun {a b} hab x hx y hy e => ?_
      by_cases ha : (F a).1 = true
      · by_cases hb : (F b).1 = true
        · rw [if_pos ha] at hx
          rw [if_pos hb] at hy
          obtain ⟨k1, -, rfl⟩ := List.mem_map.mp hx
          obtain ⟨k2, -, e2⟩ := List.mem_map.mp hy
          obtain ⟨a1, a2⟩ := (hF a).1 ha
          obtain ⟨b1, b2⟩ := (hF b).1 hb
          have p1 := per_orb hg hinj a1 a2 k1
          have p2 := per_orb hg hinj b1 b2 k2
          rw [e2, ← e] at p2
          exact hab (per_uniq p1 p2)
        · rw [if_neg hb] at hy; cases hy
      · rw [if_neg ha] at hx; cases hx
  · intro x hx
    obtain ⟨m, -, hx⟩ := List.mem_flatMap.mp hx
    by_cases h : (F m).1 = true
    · rw [if_pos h] at hx
      obtain ⟨k, -, rfl⟩ := List.mem_map.mp hx
      exact List.mem_range.mpr (it_lt hg k _ ((hF m).1 h).1)
    · rw [if_neg h] at hx; cases hx
end ORD
/-- the powers of a row, from the first on -/
def pwr (n a : Nat) : Nat → Nat
  | 0 => a
  | k + 1 => tm n (pwr n a k) a
theorem pwr_rw {n a : Nat} (ha : Rw n a) : ∀ k, Rw n (pwr n a k) := by
  intro k
  induction k with
  | zero => exact ha
  | succ k ih => exact tm_rw ih ha
theorem pwr_dg {n a : Nat} (ha : Rw n a) : ∀ k i, i < n → dg (pwr n a k) i = it (fun i => dg a i - 1) (k + 1) i + 1 := by
  intro k
  induction k with
  | zero =>
    intro i hi
    have := ha.2.1 i hi
    show dg a i = (dg a i - 1) + 1
    omega
  | succ k ih =>
    intro i hi
    have := ha.2.1 i hi
    rw [pwr, tm_dg hi, ih _ (by omega)]
    rfl
theorem pwr_rd {n a : Nat} (hn : n ≤ 12) (ha : Rw n a) (k : Nat) (h : ∀ i, i < n → it (fun i => dg a i - 1) (k + 1) i = i) : pwr n a k = rd n := by
  refine dg_ext n _ _ (pwr_rw ha k).1 (rd_rw hn).1 fun i hi => ?_
  rw [pwr_dg ha k i hi, h i hi, rd_dg n hn i hi]
/-- the order of a row is K + 1 -/
def Od (n a K : Nat) : Prop := K < 60 ∧ pwr n a K = rd n ∧ ∀ j, j < K → pwr n a j ≠ rd n
theorem od_ex {n a : Nat} (hn : n ≤ 12) (ha : Rw n a) : ∃ K, Od n a K := by
  obtain ⟨k, h1, h2⟩ := order_ex (g := fun i => dg a i - 1) hn (fun i hi => by have := ha.2.1 i hi; omega) (fun i j hi hj e => by
    have h1 := ha.2.1 i hi
    have h2 := ha.2.1 j hj
    exact ha.2.2 i j hi hj (by omega))
  obtain ⟨K, h3, h4⟩ := pk_least (fun k => pwr n a k = rd n) ⟨k, pwr_rd hn ha k h2⟩
  refine ⟨K, ?_, h3, h4⟩
  rcases Nat.lt_or_ge k K with q | q
  · exact absurd (pwr_rd hn ha k h2) (h4 k q)
  · omega
theorem lN_lt12 {n a : Nat} (hn : n ≤ 12) (ha : a < 16 ^ n) : a < 16 ^ 12 := Nat.lt_of_lt_of_le ha (n12 hn)
theorem order_loop {N n a K : Nat} {h : Hp} (hN : 100 < N) (hn : n ≤ 12) (ha : Rw n a) (hO : Od n a K) : ∀ (r f k : Nat), k + r = K → r < f → Rows_orderOf_11 N f (lN a) (nI n) (lN (rd n)) (lN (pwr n a k)) (nI (k + 1)) h = some (nI (K + 1), h) := by
  obtain ⟨o1, o2, o3⟩ := hO
  have hr := rd_lt hn
  intro r
  induction r with
  | zero =>
    intro f k hk hf
    obtain ⟨f, rfl⟩ : ∃ j, f = j + 1 := ⟨f - 1, by omega⟩
    obtain rfl : k = K := by omega
    rw [Rows_orderOf_11, o2, if_pos ((lg_eq _ _).mpr rfl)]
  | succ r ih =>
    intro f k hk hf
    obtain ⟨f, rfl⟩ : ∃ j, f = j + 1 := ⟨f - 1, by omega⟩
    have hp := lN_lt12 hn (pwr_rw ha k).1
    have hne : ¬ lg_cmp (lN (pwr n a k)) (lN (rd n)) = 0 := fun q => o3 k (by omega) ((pk_lEQ (by omega) (by omega)).mp ((lg_eq _ _).mp q))
    have h60 : ¬ (60 : Int32) ≤ nI (k + 1) := fun q => by have := (nI_leI (a := 60) (by omega) (by omega)).mp q; omega
    rw [Rows_orderOf_11, if_neg hne, if_neg h60, Rows_times_s (by omega) hn hp ha, cl_s]
    simp only [nm]
    rw [nI_1]
    exact ih f (k + 1) (by omega) (by omega)
theorem Rows_orderOf_s {N n a K : Nat} {h : Hp} (hN : 100 < N) (hn : n ≤ 12) (ha : Rw n a) (hO : Od n a K) : Rows_orderOf N (lN a) (nI n) h = some (nI (K + 1), h) := by
  unfold Rows_orderOf
  rw [Rows_rounds_s hn, cl_s]
  have := order_loop (N := N) (h := h) hN hn ha hO K N 0 (by omega) (by have := hO.1; omega)
  exact this
theorem M_order_loop {N n a K : Nat} {h : Hp} (hN : 100 < N) (hM : Mn h n) (ha : Rw n a) (hO : Od n a K) : ∀ (r f k : Nat), k + r = K → r < f → M_orderOf_5 N f (some 35) (lN a) (lN (pwr n a k)) (nI (k + 1)) h = some (nI (K + 1), h) := by
  obtain ⟨o1, o2, o3⟩ := hO
  have hn := hM.2.2.2
  have hr := rd_lt hn
  intro r
  induction r with
  | zero =>
    intro f k hk hf
    obtain ⟨f, rfl⟩ : ∃ j, f = j + 1 := ⟨f - 1, by omega⟩
    obtain rfl : k = K := by omega
    rw [M_orderOf_5, ds_1 hM.1, M_rounds_s (by omega) hM, cl_s, o2, if_pos ((lg_eq _ _).mpr rfl)]
  | succ r ih =>
    intro f k hk hf
    obtain ⟨f, rfl⟩ : ∃ j, f = j + 1 := ⟨f - 1, by omega⟩
    have hp := lN_lt12 hn (pwr_rw ha k).1
    have hne : ¬ lg_cmp (lN (pwr n a k)) (lN (rd n)) = 0 := fun q => o3 k (by omega) ((pk_lEQ (by omega) (by omega)).mp ((lg_eq _ _).mp q))
    rw [M_orderOf_5, ds_1 hM.1, M_rounds_s (by omega) hM, cl_s, if_neg hne, ds_1 hM.1, M_times_s (by omega) hM hp ha, cl_s]
    simp only [nm]
    rw [nI_1]
    exact ih f (k + 1) (by omega) (by omega)
theorem M_orderOf_s {N n a K : Nat} {h : Hp} (hN : 100 < N) (hM : Mn h n) (ha : Rw n a) (hO : Od n a K) : M_orderOf N (some 35) (lN a) h = some (nI (K + 1), h) := by
  unfold M_orderOf
  exact M_order_loop (N := N) hN hM ha hO K N 0 (by omega) (by have := hO.1; omega)
end
section
/-! PURE: the number of a row, on both sides -/
def pc (m : Nat) : Nat := ((List.range 13).filter (fun x => m.testBit x)).length
def bcE (l0 : Int32) : Int32 :=
  let x1 := l0 - ((UInt32.toInt32 (Int32.toUInt32 l0 >>> (Int32.toUInt32 (1 : Int32) &&& Int32.toUInt32 31))) &&& (1431655765 : Int32))
  let x2 := (x1 &&& (858993459 : Int32)) + ((UInt32.toInt32 (Int32.toUInt32 x1 >>> (Int32.toUInt32 (2 : Int32) &&& Int32.toUInt32 31))) &&& (858993459 : Int32))
  let x3 := (x2 + (UInt32.toInt32 (Int32.toUInt32 x2 >>> (Int32.toUInt32 (4 : Int32) &&& Int32.toUInt32 31)))) &&& (252645135 : Int32)
  let x4 := x3 + (UInt32.toInt32 (Int32.toUInt32 x3 >>> (Int32.toUInt32 (8 : Int32) &&& Int32.toUInt32 31)))
  let x5 := x4 + (UInt32.toInt32 (Int32.toUInt32 x4 >>> (Int32.toUInt32 (16 : Int32) &&& Int32.toUInt32 31)))
  x5 &&& (63 : Int32)
theorem bc_e (N : Nat) (x : Int32) (h : Hp) : Jk_bitCount N x h = some (bcE x, h) := rfl
theorem bc_two : ∀ a, a < 64 → ∀ b, b < 128 → bcE (nI (128 * a + b)) = nI (pc (128 * a + b)) := by decide +kernel
theorem bc_all (m : Nat) (h : m < 8192) : bcE (nI m) = nI (pc m) := by
  have := bc_two (m / 128) (by omega) (m % 128) (by omega)
  rw [Nat.div_add_mod] at this
  exact this
theorem bitCount_s {N m : Nat} {h : Hp} (hm : m < 2 ^ 13) : Jk_bitCount N (nI m) h = some (nI (pc m), h) := by rw [bc_e, bc_all m hm]
theorem nI_andnot {a b c : Nat} (h : ∀ x, x < 32 → c.testBit x = (a.testBit x && !b.testBit x)) : nI a &&& (nI b ^^^ (-1 : Int32)) = nI c := by
  apply Int32.toBitVec_inj.mp
  rw [Int32.toBitVec_and, Int32.toBitVec_xor]
  apply BitVec.eq_of_getLsbD_eq
  intro i hi
  show (BitVec.ofNat 32 a &&& (BitVec.ofNat 32 b ^^^ BitVec.allOnes 32)).getLsbD i = (BitVec.ofNat 32 c).getLsbD i
  rw [BitVec.getLsbD_and, BitVec.getLsbD_xor, BitVec.getLsbD_ofNat, BitVec.getLsbD_ofNat, BitVec.getLsbD_ofNat, BitVec.getLsbD_allOnes, h i hi]
  simp [hi]
/-- how many behind i are less -/
def lsl (n v i : Nat) : List Nat := (List.range n).filter (fun j => decide (i < j) && decide (dg v j < dg v i))
def num (n v : Nat) : Nat → Nat
  | 0 => 0
  | i + 1 => num n v i * (n - i) + (lsl n v i).length
theorem lsl_step (n v i : Nat) : (lsl (n + 1) v i).length = (lsl n v i).length + if i < n ∧ dg v n < dg v i then 1 else 0 := by
  unfold lsl
  rw [List.range_succ, List.filter_append, List.length_append]
  congr 1
  by_cases h : i < n ∧ dg v n < dg v i
  · rw [if_pos h]; simp [h.1, h.2]
  · rw [if_neg h]
    have : (decide (i < n) && decide (dg v n < dg v i)) = false := by
      rw [Bool.and_eq_false_iff]
      rcases Nat.lt_or_ge i n with q | q
      · exact Or.inr (by simpa using fun r => h ⟨q, r⟩)
      · exact Or.inl (by simpa using q)
    simp [this]
theorem lsl_0 (v i : Nat) : ∀ k, k ≤ i + 1 → (lsl k v i).length = 0 := by
  intro k
  induction k with
  | zero => intro _; rfl
  | succ k ih => intro hk; rw [lsl_step, ih (by omega), if_neg (by omega)]
/-- the bells left behind the first i -/
def lft (n v i : Nat) : Nat := (2 ^ (n + 1) - 2) ^^^ msk v i
theorem full_bit (n x : Nat) : (2 ^ (n + 1) - 2).testBit x = (decide (1 ≤ x) && decide (x ≤ n)) := by
  have h1 : (2 : Nat) ^ (n + 1) - 2 = 2 * (2 ^ n - 1) := by rw [Nat.pow_succ]; omega
  rw [h1]
  cases x with
  | zero => simp [Nat.testBit_zero]
  | succ x =>
    rw [Nat.testBit_succ, Nat.mul_div_cancel_left _ (by decide), Nat.testBit_two_pow_sub_one]
    simp; omega
theorem lft_bit {n v : Nat} (hr : Rw n v) {i : Nat} (hi : i ≤ n) (x : Nat) : (lft n v i).testBit x = true ↔ ∃ j, i ≤ j ∧ j < n ∧ dg v j = x := by
  unfold lft
  rw [Nat.testBit_xor, full_bit]
  have hm := msk_bit v x i
  by_cases h1 : 1 ≤ x ∧ x ≤ n
  · rw [decide_eq_true h1.1, decide_eq_true h1.2]
    obtain ⟨k, hk, rfl⟩ := rw_cover hr h1.1 h1.2
    cases hb : (msk v i).testBit (dg v k) with
    | true =>
      obtain ⟨j, j1, j2⟩ := hm.mp hb
      have := hr.2.2 j k (by omega) hk j2
      simp
      rintro j' q1 q2 q3
      have := hr.2.2 j' k q2 hk q3
      omega
    | false =>
      have hki : ¬ k < i := fun q => by rw [hm.mpr ⟨k, q, rfl⟩] at hb; cases hb
      simp
      exact ⟨k, by omega, hk, rfl⟩
  · have hb : (msk v i).testBit x = false := by
      cases hb : (msk v i).testBit x with
      | false => rfl
      | true => obtain ⟨j, j1, j2⟩ := hm.mp hb; have := hr.2.1 j (by omega); omega
    have hf : (decide (1 ≤ x) && decide (x ≤ n)) = false := by
      rw [Bool.and_eq_false_iff]
      rcases Nat.lt_or_ge x 1 with q | q
      · exact Or.inl (by simpa using q)
      · exact Or.inr (by simp; omega)
    rw [hb, hf]
    simp
    rintro j q1 q2 q3
    have := hr.2.1 j q2
    omega
theorem lft_lt {n v : Nat} (hn : n ≤ 12) (hr : Rw n v) {i : Nat} (hi : i ≤ n) : lft n v i < 2 ^ 13 := by
  have h1 : (2 : Nat) ^ (n + 1) ≤ 2 ^ 13 := Nat.pow_le_pow_right (by decide) (by omega)
  have h2 := Nat.two_pow_pos (n + 1)
  exact Nat.xor_lt_two_pow (by omega) (msk_lt hn (fun i hi => (hr.2.1 i hi).2) i hi)
theorem lft_less {n v : Nat} (hn : n ≤ 12) (hr : Rw n v) {i : Nat} (hi : i < n) : pc (lft n v (i + 1) % 2 ^ dg v i) = (lsl n v i).length := by
  have hd := hr.2.1 i hi
  have hmem : ∀ x, x ∈ (List.range 13).filter (fun x => (lft n v (i + 1) % 2 ^ dg v i).testBit x) ↔ ∃ j, i < j ∧ j < n ∧ dg v j = x ∧ x < dg v i := by
    intro x
    rw [List.mem_filter, List.mem_range, Nat.testBit_mod_two_pow, Bool.and_eq_true, decide_eq_true_eq, lft_bit hr (by omega)]
    constructor
    · rintro ⟨-, h1, j, h2, h3, h4⟩; exact ⟨j, by omega, h3, h4, h1⟩
    · rintro ⟨j, h2, h3, h4, h1⟩; exact ⟨by omega, h1, j, by omega, h3, h4⟩
  have hmem2 : ∀ x, x ∈ (lsl n v i).map (dg v) ↔ ∃ j, i < j ∧ j < n ∧ dg v j = x ∧ x < dg v i := by
    intro x
    unfold lsl
    rw [List.mem_map]
    constructor
    · rintro ⟨j, h1, rfl⟩
      rw [List.mem_filter, List.mem_range, Bool.and_eq_true, decide_eq_true_eq, decide_eq_true_eq] at h1
      exact ⟨j, h1.2.1, h1.1, rfl, h1.2.2⟩
    · rintro ⟨j, h1, h2, rfl, h3⟩
      exact ⟨j, by rw [List.mem_filter, List.mem_range, Bool.and_eq_true, decide_eq_true_eq, decide_eq_true_eq]; exact ⟨h2, h1, h3⟩, rfl⟩
  have n1 : ((List.range 13).filter (fun x => (lft n v (i + 1) % 2 ^ dg v i).testBit x)).Nodup := List.nodup_range.filter _
  have n2 : ((lsl n v i).map (dg v)).Nodup := by
    rw [List.nodup_iff_pairwise_ne, List.pairwise_map]
    have n3 : (lsl n v i).Nodup := List.nodup_range.filter _
    refine List.Pairwise.imp_of_mem ?_ (List.nodup_iff_pairwise_ne.mp n3)
    intro a b ha hb hab e
    unfold lsl at ha hb
    rw [List.mem_filter, List.mem_range] at ha hb
    exact hab (hr.2.2 a b ha.1 hb.1 e)
  have l1 := nodup_le _ _ n1 fun x hx => (hmem2 x).mpr ((hmem x).mp hx)
  have l2 := nodup_le _ _ n2 fun x hx => (hmem x).mpr ((hmem2 x).mp hx)
  rw [List.length_map] at l1 l2
  exact Nat.le_antisymm l1 l2
theorem number_loop {N n v : Nat} {h : Hp} (hn : n ≤ 12) (hr : Rw n v) : ∀ (r f i : Nat), i + r = n → r < f → Rows_numberOf_14 N f (lN v) (nI n) (nI (num n v i)) (nI (lft n v i)) (nI i) h = some (nI (num n v n), h) := by
  have h63 : v < 2 ^ 63 := Nat.lt_of_lt_of_le hr.1 (Nat.le_trans (n12 hn) (by decide))
  intro r
  induction r with
  | zero =>
    intro f i hi hf
    obtain ⟨f, rfl⟩ : ∃ k, f = k + 1 := ⟨f - 1, by omega⟩
    obtain rfl : i = n := by omega
    rw [Rows_numberOf_14, if_pos ((nI_leI (by omega) (by omega)).mpr (Nat.le_refl _))]
  | succ r ih =>
    intro f i hi hf
    obtain ⟨f, rfl⟩ : ∃ k, f = k + 1 := ⟨f - 1, by omega⟩
    have hd := hr.2.1 i (by omega)
    have hl := lft_lt hn hr (i := i + 1) (by omega)
    have hp := Nat.two_pow_pos (dg v i)
    rw [Rows_numberOf_14, if_neg (fun q => by have := (nI_leI (by omega) (by omega)).mp q; omega), Rows_digit_s h63 (by omega), cl_s]
    simp only [nm]
    rw [nI_shl1 (by omega), nI_andnot (c := lft n v (i + 1)), show nI (2 ^ dg v i) - 1 = nI (2 ^ dg v i - 1) from pk_sub (b := 1) hp, nI_and, Nat.and_two_pow_sub_one_eq_mod, bitCount_s (Nat.lt_of_le_of_lt (Nat.mod_le _ _) hl), cl_s, lft_less hn hr (by omega), pk_sub (by omega), pk_mul, nI_add, nI_1]
    · exact ih f (i + 1) (by omega) (by omega)
    · intro x hx
      rw [Bool.eq_iff_iff, lft_bit hr (by omega), Bool.and_eq_true, lft_bit hr (by omega), Nat.testBit_two_pow]
      constructor
      · rintro ⟨j, h1, h2, rfl⟩
        refine ⟨⟨j, by omega, h2, rfl⟩, ?_⟩
        have : dg v i ≠ dg v j := fun e => by have := hr.2.2 i j (by omega) h2 e; omega
        simp [this]
      · rintro ⟨⟨j, h1, h2, rfl⟩, h3⟩
        refine ⟨j, ?_, h2, rfl⟩
        rcases Nat.lt_or_ge i j with q | q
        · omega
        · obtain rfl : i = j := by omega
          simp at h3
theorem Rows_numberOf_s {N n v : Nat} {h : Hp} (hN : 12 < N) (hn : n ≤ 12) (hr : Rw n v) : Rows_numberOf N (lN v) (nI n) h = some (nI (num n v n), h) := by
  unfold Rows_numberOf
  have hp2 : 2 ≤ (2 : Nat) ^ (n + 1) := by rw [Nat.pow_succ]; have := Nat.two_pow_pos n; omega
  simp only [nm]
  rw [show nI n + 1 = nI (n + 1) from nI_1 n, nI_shl1 (by omega), show nI (2 ^ (n + 1)) - 2 = nI (2 ^ (n + 1) - 2) from pk_sub (b := 2) hp2]
  have := number_loop (N := N) (h := h) hn hr n N 0 (by omega) (by omega)
  rw [show lft n v 0 = 2 ^ (n + 1) - 2 from Nat.xor_zero _] at this
  exact this
theorem M_num_in {N n v : Nat} {h : Hp} {re : Option Nat → Int64 → Int32 → Int32 → Hp → Option (Int32 × Hp)} (hM : Mn h n) (hr : Rw n v) {i : Nat} (hi : i < n) {a : Nat} : ∀ (r f k : Nat), k + r = n → r < f → i < k → M_numberOf_23 N re f (some 35) (lN v) (nI a) (nI (i + 1)) (nI (lsl k v i).length) (nI (k + 1)) h = re (some 35) (lN v) (nI (a * (n - i) + (lsl n v i).length)) (nI (i + 2)) h := by
  obtain ⟨o, e2, n4, hn⟩ := hM
  have h62 : v < 2 ^ 62 := Nat.lt_of_lt_of_le hr.1 (Nat.le_trans (n12 hn) (by decide))
  intro r
  induction r with
  | zero =>
    intro f k hk hf hik
    obtain ⟨f, rfl⟩ : ∃ k, f = k + 1 := ⟨f - 1, by omega⟩
    obtain rfl : k = n := by omega
    rw [M_numberOf_23, gi_s o, e2, if_pos ((nI_ltI (by omega) (by omega)).mpr (by omega)), gi_s o, e2]
    simp only [nm]
    rw [pk_sub (by omega), nI_1, show k - (i + 1) + 1 = k - i by omega, pk_mul, nI_add, nI_1]
  | succ r ih =>
    intro f k hk hf hik
    obtain ⟨f, rfl⟩ : ∃ k, f = k + 1 := ⟨f - 1, by omega⟩
    have d1 := dg_lt v k
    have d2 := dg_lt v i
    rw [M_numberOf_23, gi_s o, e2, if_neg (fun q => by have := (nI_ltI (by omega) (by omega)).mp q; omega), M_bell_s h62 (by omega) (by omega), cl_s, M_bell_s h62 (by omega) (by omega), cl_s, show k + 1 - 1 = k by omega, show i + 1 - 1 = i by omega]
    have ihh := ih f (k + 1) (by omega) (by omega) (by omega)
    rw [lsl_step] at ihh
    by_cases hlt : dg v k < dg v i
    · rw [if_pos ⟨hik, hlt⟩] at ihh
      rw [if_neg (fun q => by have := (nI_leI (by omega) (by omega)).mp q; omega), M_numberOf_54]
      simp only [nm]
      rw [nI_1, nI_1]
      exact ihh
    · rw [if_neg (fun q => hlt q.2), Nat.add_zero] at ihh
      rw [if_pos ((nI_leI (by omega) (by omega)).mpr (by omega)), M_numberOf_54]
      simp only [nm]
      rw [show nI (lsl k v i).length + 0 = nI (lsl k v i).length from Int32.add_zero _, nI_1]
      exact ihh
theorem M_num_out {N n v : Nat} {h : Hp} (hN : 20 < N) (hM : Mn h n) (hr : Rw n v) : ∀ (r f i : Nat), i + r = n → r < f → M_numberOf_5 N f (some 35) (lN v) (nI (num n v i)) (nI (i + 1)) h = some (nI (num n v n), h) := by
  have hM' := hM
  obtain ⟨o, e2, n4, hn⟩ := hM'
  intro r
  induction r with
  | zero =>
    intro f i hi hf
    obtain ⟨f, rfl⟩ : ∃ k, f = k + 1 := ⟨f - 1, by omega⟩
    obtain rfl : i = n := by omega
    rw [M_numberOf_5, gi_s o, e2, if_pos ((nI_ltI (by omega) (by omega)).mpr (by omega))]
  | succ r ih =>
    intro f i hi hf
    obtain ⟨f, rfl⟩ : ∃ k, f = k + 1 := ⟨f - 1, by omega⟩
    rw [M_numberOf_5, gi_s o, e2, if_neg (fun q => by have := (nI_ltI (by omega) (by omega)).mp q; omega)]
    simp only [nm]
    rw [nI_1]
    have := M_num_in (N := N) (re := M_numberOf_5 N f) hM hr (i := i) (by omega) (a := num n v i) (n - (i + 1)) N (i + 1) (by omega) (by omega) (by omega)
    rw [lsl_0 v i (i + 1) (Nat.le_refl _), nI_0] at this
    rw [this]
    exact ih f (i + 1) (by omega) (by omega)
theorem M_numberOf_s {N n v : Nat} {h : Hp} (hN : 20 < N) (hM : Mn h n) (hr : Rw n v) : M_numberOf N (some 35) (lN v) h = some (nI (num n v n), h) := by
  unfold M_numberOf
  have hn := hM.2.2.2
  exact M_num_out (N := N) hN hM hr n N 0 (by omega) (by omega)
end
section
/-! PURE: the row of a number, on both sides -/
def fc : Nat → Nat
  | 0 => 1
  | k + 1 => (k + 1) * fc k
theorem fc_pos : ∀ k, 0 < fc k := by
  intro k
  induction k with
  | zero => decide
  | succ k ih => exact Nat.mul_pos (by omega) ih
theorem fc_le : ∀ k, k ≤ 12 → fc k ≤ 479001600 := by decide
/-- how many places are skipped at place i -/
def dk (n m i : Nat) : Nat := m / fc (n - 1 - i) % (n - i)
def cu (U : Nat) : Nat → Nat → Nat
  | 0, _ => 0
  | f + 1, b => (if U.testBit b = true then 0 else 1) + cu U f (b + 1)
def pick (U : Nat) : Nat → Nat → Nat → Nat
  | 0, b, _ => b
  | f + 1, b, k => if U.testBit b = true then pick U f (b + 1) k else if k = 0 then b else pick U f (b + 1) (k - 1)
theorem pick_ok (U : Nat) : ∀ f b k, k < cu U f b → b ≤ pick U f b k ∧ pick U f b k < b + f ∧ U.testBit (pick U f b k) = false := by
  intro f
  induction f with
  | zero => intro b k h; simp [cu] at h
  | succ f ih =>
    intro b k h
    unfold cu at h
    unfold pick
    by_cases hb : U.testBit b = true
    · rw [if_pos hb] at h ⊢
      obtain ⟨h1, h2, h3⟩ := ih (b + 1) k (by omega)
      exact ⟨by omega, by omega, h3⟩
    · rw [if_neg hb] at h ⊢
      by_cases hk : k = 0
      · rw [if_pos hk]; exact ⟨Nat.le_refl _, by omega, by simpa using hb⟩
      · rw [if_neg hk]
        obtain ⟨h1, h2, h3⟩ := ih (b + 1) (k - 1) (by omega)
        exact ⟨by omega, by omega, h3⟩
theorem cu_add {U x : Nat} (hx : U.testBit x = false) : ∀ f b, b ≤ x → x < b + f → cu U f b = cu (U ||| 2 ^ x) f b + 1 := by
  have key : ∀ f b, x < b → cu U f b = cu (U ||| 2 ^ x) f b := by
    intro f
    induction f with
    | zero => intro b _; rfl
    | succ f ih =>
      intro b hb
      unfold cu
      rw [ih (b + 1) (by omega), Nat.testBit_or, Nat.testBit_two_pow, decide_eq_false (show ¬ x = b by omega), Bool.or_false]
  intro f
  induction f with
  | zero => intro b h1 h2; omega
  | succ f ih =>
    intro b h1 h2
    unfold cu
    rw [Nat.testBit_or, Nat.testBit_two_pow]
    by_cases e : x = b
    · subst e
      rw [hx, key f (x + 1) (by omega), decide_eq_true rfl]
      simp
      omega
    · rw [ih (b + 1) (by omega) (by omega), decide_eq_false e, Bool.or_false]
      omega
/-- the bells used and the row so far, behind i places -/
def rof (n m : Nat) : Nat → Nat × Nat
  | 0 => (0, 0)
  | i + 1 => ((rof n m i).1 ||| 2 ^ pick (rof n m i).1 n 1 (dk n m i), (rof n m i).2 + pick (rof n m i).1 n 1 (dk n m i) * 16 ^ i)
theorem cu_0 : ∀ f b, cu 0 f b = f := by
  intro f
  induction f with
  | zero => intro b; rfl
  | succ f ih => intro b; unfold cu; rw [ih, Nat.zero_testBit]; simp; omega
theorem rof_ok {n m : Nat} (hn : n ≤ 12) : ∀ i, i ≤ n → cu (rof n m i).1 n 1 = n - i ∧ (rof n m i).1 < 2 ^ 13 ∧ (rof n m i).2 < 16 ^ i := by
  intro i
  induction i with
  | zero => intro _; exact ⟨cu_0 n 1, Nat.two_pow_pos 13, Nat.one_pos⟩
  | succ i ih =>
    intro hi
    obtain ⟨h1, h2, h3⟩ := ih (by omega)
    have hd : dk n m i < n - i := Nat.mod_lt _ (by omega)
    obtain ⟨p1, p2, p3⟩ := pick_ok (rof n m i).1 n 1 (dk n m i) (by omega)
    refine ⟨?_, ?_, ?_⟩
    · have := cu_add p3 n 1 p1 p2
      show cu ((rof n m i).1 ||| 2 ^ pick (rof n m i).1 n 1 (dk n m i)) n 1 = _
      omega
    · exact Nat.or_lt_two_pow h2 (Nat.pow_lt_pow_right (by decide) (by omega))
    · show (rof n m i).2 + pick (rof n m i).1 n 1 (dk n m i) * 16 ^ i < 16 ^ (i + 1)
      have : pick (rof n m i).1 n 1 (dk n m i) * 16 ^ i ≤ 15 * 16 ^ i := Nat.mul_le_mul_right _ (by omega)
      rw [Nat.pow_succ]
      omega
theorem rof_pick {n m i : Nat} (hn : n ≤ 12) (hi : i < n) : dk n m i < cu (rof n m i).1 n 1 ∧ 1 ≤ pick (rof n m i).1 n 1 (dk n m i) ∧ pick (rof n m i).1 n 1 (dk n m i) ≤ n := by
  have h1 := (rof_ok (m := m) hn i (by omega)).1
  have hd : dk n m i < n - i := Nat.mod_lt _ (by omega)
  obtain ⟨p1, p2, p3⟩ := pick_ok (rof n m i).1 n 1 (dk n m i) (by omega)
  exact ⟨by omega, p1, by omega⟩
theorem bit_s {U b : Nat} (hU : U < 2 ^ 31) (hb : b < 31) : (nI U >>> (nI b &&& 31)) &&& 1 = if U.testBit b = true then 1 else 0 := by
  rw [pk_shrN hU _ b (s_l b (by omega)), nI_and1, Nat.testBit_eq_decide_div_mod_eq]
  by_cases h : U / 2 ^ b % 2 = 1
  · rw [decide_eq_true h, if_pos rfl, h]; exact (rfl : nI 1 = 1)
  · rw [decide_eq_false h, if_neg Bool.false_ne_true, show U / 2 ^ b % 2 = 0 by omega]; exact nI_0
theorem nmE {α β : Type} (x : α) (f : α → Option β) : nm x f = f x := rfl
theorem bl_12 {b : Nat} (h : b ≤ 12) : ¬ (12 : Int32) < nI b := by
  have e : (12 : Int32) = nI 12 := rfl
  rw [e]
  exact nI_nlt h (by decide)
theorem bl_used {N lf b : Nat} {k : Int32} {g : Nat} {h : Hp} (hb : b ≤ 12) (hl : lf < 2 ^ 31) (hu : lf.testBit b = false) : Rows_bellLeft_4 N (g + 1) (nI lf) k (nI b) h = Rows_bellLeft_4 N g (nI lf) k (nI (b + 1)) h := by
  rw [Rows_bellLeft_4, if_neg (bl_12 hb), bit_s hl (by omega), hu, if_neg Bool.false_ne_true, if_pos rfl, Rows_bellLeft_27]
  simp only [nm]
  rw [nI_1]
theorem bl_stop {N lf b : Nat} {g : Nat} {h : Hp} (hb : b ≤ 12) (hl : lf < 2 ^ 31) (hu : lf.testBit b = true) : Rows_bellLeft_4 N (g + 1) (nI lf) 0 (nI b) h = some (nI b, h) := by
  rw [Rows_bellLeft_4, if_neg (bl_12 hb), bit_s hl (by omega), hu, if_pos rfl, if_neg (by decide), if_pos rfl]
theorem one_ne : ¬ (1 : Int32) = 0 := by decide
theorem bl_m1 (k : Nat) : nI (k + 1) + (-1) = nI k := pk_m1 k
theorem bl_ne {k : Nat} (hk : k < 100) : ¬ nI (k + 1) = 0 := nI_ne0 (by omega) (by omega)
theorem bl_skip {N lf b k : Nat} {g : Nat} {h : Hp} (hb : b ≤ 12) (hl : lf < 2 ^ 31) (hu : lf.testBit b = true) (hk : k < 100) : Rows_bellLeft_4 N (g + 1) (nI lf) (nI (k + 1)) (nI b) h = Rows_bellLeft_4 N g (nI lf) (nI k) (nI (b + 1)) h := by
  have e1 := bit_s (U := lf) (b := b) hl (by omega)
  rw [hu, if_pos rfl] at e1
  have e2 := bl_m1 k
  have e3 := bl_ne hk
  have e4 : nI b + 1 = nI (b + 1) := nI_1 b
  generalize nI (k + 1) = kk at e2 e3 ⊢
  generalize nI k = k0 at e2 ⊢
  rw [Rows_bellLeft_4, if_neg (bl_12 hb), e1, if_neg one_ne, if_neg e3]
  rw [nmE, e2, Rows_bellLeft_27, nmE, e4]
theorem bellLeft_loop {N n U lf : Nat} {h : Hp} (hn : n ≤ 12) (hl : lf < 2 ^ 31) (hb : ∀ x, 1 ≤ x → x ≤ n → lf.testBit x = !U.testBit x) : ∀ (f g b k : Nat), 1 ≤ b → b + f = n + 1 → f < g → k < cu U f b → k < 100 → Rows_bellLeft_4 N g (nI lf) (nI k) (nI b) h = some (nI (pick U f b k), h) := by
  intro f
  induction f with
  | zero => intro g b k _ _ _ hk; exact absurd hk (Nat.not_lt_zero _)
  | succ f ih =>
    intro g b k h1 hf hg hk hk2
    obtain ⟨g, rfl⟩ : ∃ j, g = j + 1 := ⟨g - 1, by omega⟩
    have hbb := hb b h1 (by omega)
    rw [cu] at hk
    rw [pick]
    by_cases hu : U.testBit b = true
    · rw [if_pos hu] at hk
      rw [if_pos hu, bl_used (by omega) hl (by rw [hbb, hu]; rfl)]
      exact ih g (b + 1) k (by omega) (by omega) (by omega) (by omega) hk2
    · have hu' : U.testBit b = false := by simpa using hu
      rw [if_neg hu] at hk
      rw [if_neg hu]
      cases k with
      | zero => rw [if_pos rfl, nI_0, bl_stop (by omega) hl (by rw [hbb, hu']; rfl)]
      | succ k =>
        rw [if_neg (by omega), bl_skip (by omega) hl (by rw [hbb, hu']; rfl) (by omega)]
        exact ih g (b + 1) k (by omega) (by omega) (by omega) (by omega) (by omega)
/-- the places skipped, written as digits -/
def blw (m : Nat) : Nat → Nat
  | 0 => 0
  | c + 1 => blw m c * 16 + m / fc c % (c + 1)
theorem blw_lt (m : Nat) : ∀ c, c ≤ 12 → blw m c < 16 ^ c := by
  intro c
  induction c with
  | zero => intro _; exact Nat.one_pos
  | succ c ih =>
    intro hc
    have h1 := ih (by omega)
    have h2 : m / fc c % (c + 1) < c + 1 := Nat.mod_lt _ (by omega)
    rw [blw, Nat.pow_succ]
    omega
theorem blw_dg (m : Nat) : ∀ c, c ≤ 12 → ∀ i, i < c → dg (blw m c) i = m / fc (c - 1 - i) % (c - i) := by
  intro c
  induction c with
  | zero => intro _ i hi; omega
  | succ c ih =>
    intro hc i hi
    have h2 : m / fc c % (c + 1) < c + 1 := Nat.mod_lt _ (by omega)
    cases i with
    | zero =>
      rw [dg, Nat.pow_zero, Nat.div_one, blw, Nat.add_sub_cancel, Nat.sub_zero, Nat.sub_zero]
      omega
    | succ i =>
      rw [dg, Nat.pow_succ, Nat.mul_comm, ← Nat.div_div_eq_div_mul, show blw m (c + 1) / 16 = blw m c by rw [blw]; omega]
      have := ih (by omega) i (by omega)
      rw [dg] at this
      rw [this, show c + 1 - 1 - (i + 1) = c - 1 - i by omega, show c + 1 - (i + 1) = c - i by omega]
theorem taken_loop {N n m : Nat} {h : Hp} (hN : 20 < N) (hn : n ≤ 12) (hm : m < 2 ^ 31) : ∀ (r f i : Nat), i + r = n → r < f → Rows_taken_14 N f (lN (blw m n)) (nI n) (lN (rof n m i).2) (nI ((2 ^ (n + 1) - 2) ^^^ (rof n m i).1)) (nI i) h = some (lN (rof n m n).2, h) := by
  have hb := blw_lt m n hn
  have h63 : blw m n < 2 ^ 63 := Nat.lt_of_lt_of_le hb (Nat.le_trans (n12 hn) (by decide))
  intro r
  induction r with
  | zero =>
    intro f i hi hf
    obtain ⟨f, rfl⟩ : ∃ k, f = k + 1 := ⟨f - 1, by omega⟩
    obtain rfl : i = n := by omega
    rw [Rows_taken_14, if_pos ((nI_leI (by omega) (by omega)).mpr (Nat.le_refl _))]
  | succ r ih =>
    intro f i hi hf
    obtain ⟨f, rfl⟩ : ∃ k, f = k + 1 := ⟨f - 1, by omega⟩
    obtain ⟨o1, o2, o3⟩ := rof_ok (m := m) hn i (by omega)
    obtain ⟨q1, q2, q3⟩ := rof_pick (m := m) hn (show i < n by omega)
    have hd : dg (blw m n) i = dk n m i := blw_dg m n hn i (by omega)
    have hp1 : (2 : Nat) ^ (n + 1) ≤ 2 ^ 13 := Nat.pow_le_pow_right (by decide) (by omega)
    have hpp := Nat.two_pow_pos (n + 1)
    have hlf : (2 ^ (n + 1) - 2) ^^^ (rof n m i).1 < 2 ^ 13 := Nat.xor_lt_two_pow (by omega) o2
    have hk16 : dk n m i < 16 := by rw [← hd]; exact dg_lt _ _
    rw [Rows_taken_14, if_neg (fun q => by have := (nI_leI (by omega) (by omega)).mp q; omega), Rows_digit_s h63 (by omega), cl_s, hd, Rows_bellLeft]
    have hbl := bellLeft_loop (N := N) (n := n) (U := (rof n m i).1) (lf := (2 ^ (n + 1) - 2) ^^^ (rof n m i).1) (h := h) hn (by omega) (fun x h1 h2 => by rw [Nat.testBit_xor, full_bit, decide_eq_true h1, decide_eq_true h2]; simp) n N 1 (dk n m i) (Nat.le_refl _) (by omega) (by omega) q1 (by omega)
    rw [show nI 1 = 1 from rfl] at hbl
    rw [hbl, cl_s]
    simp only [nm]
    have hpi : (16 : Nat) ^ i ≤ 16 ^ 11 := Nat.pow_le_pow_right (by decide) (by omega)
    have hb2 : pick (rof n m i).1 n 1 (dk n m i) * 16 ^ i ≤ 15 * 16 ^ 11 := Nat.mul_le_mul (by omega) hpi
    rw [nI_l (by omega), nI_4, wb_shl _ (by omega), ← p16, wb_or (by omega) (by omega), or_add (dg_big o3 (Nat.le_refl _)) (by omega), nI_shl1 (by omega), nI_andnot (c := (2 ^ (n + 1) - 2) ^^^ (rof n m (i + 1)).1), nI_1]
    · exact ih f (i + 1) (by omega) (by omega)
    · intro x hx
      show ((2 ^ (n + 1) - 2) ^^^ ((rof n m i).1 ||| 2 ^ pick (rof n m i).1 n 1 (dk n m i))).testBit x = _
      have hun := (pick_ok (rof n m i).1 n 1 (dk n m i) q1).2.2
      rw [Nat.testBit_xor, Nat.testBit_xor, Nat.testBit_or, Nat.testBit_two_pow, full_bit]
      by_cases e : pick (rof n m i).1 n 1 (dk n m i) = x
      · rw [← e, hun, decide_eq_true rfl, decide_eq_true q2, decide_eq_true q3]; rfl
      · rw [decide_eq_false e]; simp
theorem rowOf_loop {N n m : Nat} {h : Hp} (hN : 20 < N) (hn : n ≤ 12) (hm : m < 2 ^ 31) : ∀ (r f c : Nat), c + r = n → r < f → Rows_rowOf_14 N f (nI n) (lN (blw m c)) (nI (m / fc c)) (nI (c + 1)) h = if m / fc n = 0 then some (lN (rof n m n).2, h) else some (0, h) := by
  intro r
  induction r with
  | zero =>
    intro f c hc hf
    obtain ⟨f, rfl⟩ : ∃ k, f = k + 1 := ⟨f - 1, by omega⟩
    obtain rfl : c = n := by omega
    have hle : m / fc c ≤ m := Nat.div_le_self _ _
    rw [Rows_rowOf_14, if_pos ((nI_ltI (by omega) (by omega)).mpr (by omega))]
    by_cases h0 : m / fc c = 0
    · have hp2 : 2 ≤ (2 : Nat) ^ (c + 1) := by rw [Nat.pow_succ]; have := Nat.two_pow_pos c; omega
      rw [if_pos h0, if_pos (by rw [h0]; exact nI_0), Rows_taken]
      simp only [nm]
      rw [show nI c + 1 = nI (c + 1) from nI_1 c, nI_shl1 (by omega), show nI (2 ^ (c + 1)) - 2 = nI (2 ^ (c + 1) - 2) from pk_sub (b := 2) hp2]
      have := taken_loop (N := N) (h := h) hN hn hm c N 0 (by omega) (by omega)
      rw [show (rof c m 0).1 = 0 from rfl, show (rof c m 0).2 = 0 from rfl, Nat.xor_zero, nI_0] at this
      rw [show (0 : Int64) = lN 0 from rfl, this, cl_s]
    · rw [if_neg h0, if_neg (fun q => h0 ((nI_eq0 (by omega)).mp q))]
  | succ r ih =>
    intro f c hc hf
    obtain ⟨f, rfl⟩ : ∃ k, f = k + 1 := ⟨f - 1, by omega⟩
    have hle : m / fc c ≤ m := Nat.div_le_self _ _
    have hne : ¬ nI (c + 1) = 0 := fun q => by have := (nI_eq0 (by omega)).mp q; omega
    have hb := blw_lt m c (by omega)
    have hpc : (16 : Nat) ^ c ≤ 16 ^ 11 := Nat.pow_le_pow_right (by decide) (by omega)
    have hmd : m / fc c % (c + 1) < c + 1 := Nat.mod_lt _ (by omega)
    rw [Rows_rowOf_14, if_neg (fun q => by have := (nI_ltI (by omega) (by omega)).mp q; omega), nz, if_neg hne]
    simp only [nm]
    rw [nz, if_neg hne, pk_rem (by omega) (by omega) (by omega), pk_div (by omega) (by omega) (by omega), nI_l (by omega), show (4 : Int32) = nI 4 from rfl, wb_shl _ (by decide), wb_or (by omega) (by omega), nI_1]
    have ho := or_add (x := blw m c * 2 ^ 4) (y := m / fc c % (c + 1)) (d := 0) (by rw [dg]; omega) (by omega)
    rw [Nat.pow_zero, Nat.mul_one] at ho
    rw [ho, show m / fc c / (c + 1) = m / fc (c + 1) by rw [Nat.div_div_eq_div_mul, fc, Nat.mul_comm]]
    exact ih f (c + 1) (by omega) (by omega)
theorem Rows_rowOf_s {N n m : Nat} {h : Hp} (hN : 20 < N) (hn : n ≤ 12) (hm : m < 2 ^ 31) : Rows_rowOf N (nI m) (nI n) h = if m / fc n = 0 then some (lN (rof n m n).2, h) else some (0, h) := by
  unfold Rows_rowOf
  rw [if_pos (nI_pos' hm)]
  have := rowOf_loop (N := N) (h := h) hN hn hm n N 0 (by omega) (by omega)
  rw [show fc 0 = 1 from rfl, Nat.div_one] at this
  exact this
end
section
/-! PURE: the model's row of a number -/
theorem all_loop {N n : Nat} {h : Hp} (hM : Mn h n) : ∀ (r f k : Nat), k + r = n → 1 ≤ k → r < f → M_all_4 N f (some 35) (nI (fc k)) (nI (k + 1)) h = some (nI (fc n), h) := by
  obtain ⟨o, e2, n4, hn⟩ := hM
  intro r
  induction r with
  | zero =>
    intro f k hk h1 hf
    obtain ⟨f, rfl⟩ : ∃ j, f = j + 1 := ⟨f - 1, by omega⟩
    obtain rfl : k = n := by omega
    rw [M_all_4, gi_s o, e2, if_pos ((nI_ltI (by omega) (by omega)).mpr (by omega))]
  | succ r ih =>
    intro f k hk h1 hf
    obtain ⟨f, rfl⟩ : ∃ j, f = j + 1 := ⟨f - 1, by omega⟩
    rw [M_all_4, gi_s o, e2, if_neg (fun q => by have := (nI_ltI (by omega) (by omega)).mp q; omega), nmE, pk_mul, nmE, nI_1, Nat.mul_comm (fc k)]
    exact ih f (k + 1) (by omega) (by omega) (by omega)
theorem M_all_s {N n : Nat} {h : Hp} (hN : 20 < N) (hM : Mn h n) : M_all N (some 35) h = some (nI (fc n), h) := by
  have h4 := hM.2.2.1
  have h12 := hM.2.2.2
  unfold M_all
  exact all_loop (N := N) hM (n - 1) N 1 (by omega) (by omega) (by omega)
theorem mr_skip {N U b k : Nat} {g : Nat} {h : Hp} {re17 : Option Nat → Int64 → Int32 → Int32 → Int32 → Int32 → Hp → Option (Int64 × Hp)} {l0 : Option Nat} {l2 : Int64} {l4 l5 l7 : Int32} (hU : U < 2 ^ 31) (hb : b < 31) (hu : U.testBit b = true) : M_rowOf_57 N re17 (g + 1) l0 l2 l4 l5 (nI U) l7 (nI k) (nI b) h = M_rowOf_57 N re17 g l0 l2 l4 l5 (nI U) l7 (nI k) (nI (b + 1)) h := by
  have e1 := bit_s (U := U) (b := b) hU hb
  rw [hu, if_pos rfl] at e1
  have e4 : nI b + 1 = nI (b + 1) := nI_1 b
  have e5 : nI k - 0 = nI k := Int32.sub_zero _
  rw [M_rowOf_57, e1, if_pos rfl, M_rowOf_73, e1, if_pos rfl, M_rowOf_91, nmE, nmE, e4, e5]
theorem mr_next {N U b k : Nat} {g : Nat} {h : Hp} {re17 : Option Nat → Int64 → Int32 → Int32 → Int32 → Int32 → Hp → Option (Int64 × Hp)} {l0 : Option Nat} {l2 : Int64} {l4 l5 l7 : Int32} (hU : U < 2 ^ 31) (hb : b < 31) (hu : U.testBit b = false) (hk : k < 100) : M_rowOf_57 N re17 (g + 1) l0 l2 l4 l5 (nI U) l7 (nI (k + 1)) (nI b) h = M_rowOf_57 N re17 g l0 l2 l4 l5 (nI U) l7 (nI k) (nI (b + 1)) h := by
  have e1 := bit_s (U := U) (b := b) hU hb
  rw [hu, if_neg Bool.false_ne_true] at e1
  have z : ¬ (0 : Int32) = 1 := by decide
  have e4 : nI b + 1 = nI (b + 1) := nI_1 b
  have e5 : nI (k + 1) - 1 = nI k := nI_pred k
  have e6 : ¬ nI (k + 1) ≤ 0 := nI_nle (by omega) (by omega)
  rw [M_rowOf_57, e1, if_neg z, if_neg e6, M_rowOf_73, e1, if_neg z, M_rowOf_91, nmE, nmE, e4, e5]
theorem mr_stop {N U b : Nat} {g : Nat} {h : Hp} {re17 : Option Nat → Int64 → Int32 → Int32 → Int32 → Int32 → Hp → Option (Int64 × Hp)} {l0 : Option Nat} {r i : Nat} {l4 l5 : Int32} (hU : U < 2 ^ 31) (hb : b < 16) (hu : U.testBit b = false) (hi : i < 12) : M_rowOf_57 N re17 (g + 1) l0 (lN r) l4 l5 (nI U) (nI (i + 1)) 0 (nI b) h = re17 l0 (lN (r + b * 16 ^ i)) l4 l5 (nI (U ||| 2 ^ b)) (nI (i + 2)) h := by
  have e1 := bit_s (U := U) (b := b) hU (by omega)
  rw [hu, if_neg Bool.false_ne_true] at e1
  have z : ¬ (0 : Int32) = 1 := by decide
  have z2 : (0 : Int32) ≤ 0 := by decide
  have e4 : nI (i + 1) + 1 = nI (i + 2) := nI_1 (i + 1)
  have e5 : nI (i + 1) - 1 = nI i := nI_pred i
  rw [M_rowOf_57, e1, if_neg z, if_pos z2, nmE, nmE, nmE, e4, e5, nI_shl1 (by omega), nI_or, nI_l (by omega), nI_4, wb_shl _ (by omega), ← p16, lN_add]
theorem mr_pick {N U : Nat} {h : Hp} {re17 : Option Nat → Int64 → Int32 → Int32 → Int32 → Int32 → Hp → Option (Int64 × Hp)} {l0 : Option Nat} {r i n : Nat} {l4 l5 : Int32} (hU : U < 2 ^ 31) (hn : n ≤ 12) (hi : i < 12) : ∀ (f g b k : Nat), 1 ≤ b → b + f = n + 1 → f < g → k < cu U f b → k < 100 → M_rowOf_57 N re17 g l0 (lN r) l4 l5 (nI U) (nI (i + 1)) (nI k) (nI b) h = re17 l0 (lN (r + pick U f b k * 16 ^ i)) l4 l5 (nI (U ||| 2 ^ pick U f b k)) (nI (i + 2)) h := by
  intro f
  induction f with
  | zero => intro g b k _ _ _ hk; exact absurd hk (Nat.not_lt_zero _)
  | succ f ih =>
    intro g b k h1 hf hg hk hk2
    obtain ⟨g, rfl⟩ : ∃ j, g = j + 1 := ⟨g - 1, by omega⟩
    rw [cu] at hk
    rw [pick]
    by_cases hu : U.testBit b = true
    · rw [if_pos hu] at hk
      rw [if_pos hu, mr_skip hU (by omega) hu]
      exact ih g (b + 1) k (by omega) (by omega) (by omega) (by omega) hk2
    · have hu' : U.testBit b = false := by simpa using hu
      rw [if_neg hu] at hk
      rw [if_neg hu]
      cases k with
      | zero => rw [if_pos rfl, nI_0, mr_stop hU (by omega) hu' hi]
      | succ k =>
        rw [if_neg (by omega), mr_next hU (by omega) hu' (by omega)]
        exact ih g (b + 1) k (by omega) (by omega) (by omega) (by omega) (by omega)
theorem M_row_of_loop {N n m : Nat} {h : Hp} (hN : 20 < N) (hM : Mn h n) (hm : m < fc n) : ∀ (r f i : Nat), i + r = n → r < f → M_rowOf_17 N f (some 35) (lN (rof n m i).2) (nI (m % fc (n - i))) (nI (fc (n - i))) (nI (rof n m i).1) (nI (i + 1)) h = some (lN (rof n m n).2, h) := by
  obtain ⟨o, e2, n4, hn⟩ := hM
  intro r
  induction r with
  | zero =>
    intro f i hi hf
    obtain ⟨f, rfl⟩ : ∃ j, f = j + 1 := ⟨f - 1, by omega⟩
    obtain rfl : i = n := by omega
    rw [M_rowOf_17, gi_s o, e2, if_pos ((nI_ltI (by omega) (by omega)).mpr (by omega))]
  | succ r ih =>
    intro f i hi hf
    obtain ⟨f, rfl⟩ : ∃ j, f = j + 1 := ⟨f - 1, by omega⟩
    obtain ⟨o1, o2, o3⟩ := rof_ok (m := m) hn i (by omega)
    obtain ⟨q1, q2, q3⟩ := rof_pick (m := m) hn (show i < n by omega)
    have hfl := fc_le (n - i) (by omega)
    have hfl2 := fc_le (n - 1 - i) (by omega)
    have hp := fc_pos (n - 1 - i)
    have hfs : fc (n - i) = (n - i) * fc (n - 1 - i) := by rw [show n - i = (n - 1 - i) + 1 by omega]; rfl
    have hml : m % fc (n - i) < fc (n - i) := Nat.mod_lt _ (fc_pos _)
    have hx : nI n - nI (i + 1) + 1 = nI (n - i) := by rw [pk_sub (by omega), nI_1]; congr 1; omega
    have hne : ¬ nI (n - i) = 0 := nI_ne0 (by omega) (by omega)
    have hne2 : ¬ nI (fc (n - 1 - i)) = 0 := nI_ne0 hp (by omega)
    have hdv : nI (fc (n - i)) / nI (n - i) = nI (fc (n - 1 - i)) := by rw [pk_div (by omega) (by omega) (by omega), hfs, Nat.mul_div_cancel_left _ (by omega)]
    have hsk : m % fc (n - i) / fc (n - 1 - i) = dk n m i := by rw [hfs, Nat.mul_comm, Nat.mod_mul_right_div_self, dk]
    have hlf : m % fc (n - i) % fc (n - 1 - i) = m % fc (n - 1 - i) := by rw [hfs, Nat.mul_comm, Nat.mod_mul_right_mod]
    have hdk : dk n m i < 100 := by have : dk n m i < n - i := Nat.mod_lt _ (by omega); omega
    rw [M_rowOf_17, gi_s o, e2, if_neg (fun q => by have := (nI_ltI (by omega) (by omega)).mp q; omega), gi_s o, e2, hx, nz, if_neg hne, nmE, hdv, nz, if_neg hne2, nmE, nz, if_neg hne2, nmE, pk_rem (a := m % fc (n - i)) (by omega) hp (by omega), pk_div (a := m % fc (n - i)) (by omega) hp (by omega), hsk, hlf]
    have := mr_pick (N := N) (U := (rof n m i).1) (h := h) (re17 := M_rowOf_17 N f) (l0 := some 35) (r := (rof n m i).2) (i := i) (n := n) (l4 := nI (m % fc (n - 1 - i))) (l5 := nI (fc (n - 1 - i))) (by omega) hn (by omega) n N 1 (dk n m i) (Nat.le_refl _) (by omega) (by omega) q1 hdk
    rw [show nI 1 = 1 from rfl] at this
    rw [this]
    have ihh := ih f (i + 1) (by omega) (by omega)
    rw [show n - (i + 1) = n - 1 - i by omega] at ihh
    exact ihh
theorem M_rowOf_s {N n m : Nat} {h : Hp} (hN : 20 < N) (hM : Mn h n) (hm : m < fc n) : M_rowOf N (some 35) (nI m) h = some (lN (rof n m n).2, h) := by
  have hn := hM.2.2.2
  unfold M_rowOf
  rw [ds_1 hM.1, M_all_s hN hM, cl_s]
  have := M_row_of_loop (N := N) hN hM hm n N 0 (by omega) (by omega)
  rw [Nat.sub_zero, Nat.mod_eq_of_lt hm, show (rof n m 0).1 = 0 from rfl, show (rof n m 0).2 = 0 from rfl, nI_0] at this
  exact this
theorem rof_ne {n m : Nat} (hn : n ≤ 12) (h1 : 1 ≤ n) : (rof n m n).2 ≠ 0 := by
  have key : ∀ i, 1 ≤ i → i ≤ n → 1 ≤ (rof n m i).2 := by
    intro i
    induction i with
    | zero => intro h _; omega
    | succ i ih =>
      intro _ hi
      have q := (rof_pick (m := m) hn (show i < n by omega)).2.1
      show 1 ≤ (rof n m i).2 + pick (rof n m i).1 n 1 (dk n m i) * 16 ^ i
      have : 1 * 1 ≤ pick (rof n m i).1 n 1 (dk n m i) * 16 ^ i := Nat.mul_le_mul q (p16_pos i)
      omega
  have := key n h1 (Nat.le_refl _)
  omega
end
section
/-! PURE: fitting of patterns -/
/-- row v fits pattern w at the first n places -/
def Ft (n v w : Nat) : Prop := ∀ i, i < n → dg w i ≠ 0 → dg w i = dg v i
/-- the digits that a pattern tells -/
def tld (w : Nat) : Nat → Nat
  | 0 => 0
  | i + 1 => tld w i + (if dg w i = 0 then 0 else 15) * 16 ^ i
theorem tld_mk (w : Nat) : ∀ i, tld w i = mk (fun i => if dg w i = 0 then 0 else 15) i := by
  intro i
  induction i with
  | zero => rfl
  | succ i ih => rw [tld, mk, ih]
theorem tld_lt (w i : Nat) : tld w i < 16 ^ i := by
  rw [tld_mk]; exact mk_lt (n := i) (fun j _ => by split <;> omega) i (Nat.le_refl _)
theorem tld_dg {w i j : Nat} (hj : j < i) : dg (tld w i) j = if dg w j = 0 then 0 else 15 := by
  rw [tld_mk]; exact mk_dg (n := i) (f := fun i => if dg w i = 0 then 0 else 15) (fun j _ => by split <;> omega) i (Nat.le_refl _) j hj
theorem and_dg (a b i : Nat) : dg (a &&& b) i = dg a i &&& dg b i := by
  unfold dg
  rw [p16, Nat.and_div_two_pow, show (16 : Nat) = 2 ^ 4 by decide, Nat.and_mod_two_pow]
theorem told_loop {N w : Nat} {h : Hp} (hw : w < 2 ^ 63) : ∀ (r f i : Nat), i + r = 12 → r < f → Rows_toldDigits_5 N f (lN w) (lN (tld w i)) (nI i) h = some (lN (tld w 12), h) := by
  intro r
  induction r with
  | zero =>
    intro f i hi hf
    obtain ⟨f, rfl⟩ : ∃ k, f = k + 1 := ⟨f - 1, by omega⟩
    obtain rfl : i = 12 := by omega
    rw [Rows_toldDigits_5, if_pos (by decide)]
  | succ r ih =>
    intro f i hi hf
    obtain ⟨f, rfl⟩ : ∃ k, f = k + 1 := ⟨f - 1, by omega⟩
    have h12 : ¬ (12 : Int32) ≤ nI i := fun q => by have := (nI_leI (a := 12) (by omega) (by omega)).mp q; omega
    have hd := dg_lt w i
    have ht := tld_lt w i
    have hpi : (16 : Nat) ^ i ≤ 16 ^ 11 := Nat.pow_le_pow_right (by decide) (by omega)
    have e4 : nI i + 1 = nI (i + 1) := nI_1 i
    have ihh := ih f (i + 1) (by omega) (by omega)
    rw [Rows_toldDigits_5, if_neg h12, Rows_digit_s hw (by omega), cl_s]
    by_cases h0 : dg w i = 0
    · rw [tld, if_pos h0, Nat.zero_mul, Nat.add_zero] at ihh
      rw [if_pos (by rw [h0]; exact nI_0), Rows_toldDigits_32, nmE, e4]
      exact ihh
    · rw [tld, if_neg h0] at ihh
      have e15 : (15 : Int64) = lN 15 := rfl
      rw [if_neg (fun q => h0 ((nI_eq0 (by omega)).mp q)), nmE, Rows_toldDigits_32, nmE, e4, e15, nI_4, wb_shl _ (by omega), ← p16, wb_or (by omega) (by omega), or_add (dg_big ht (Nat.le_refl _)) (by decide)]
      exact ihh
theorem Rows_toldDigits_s {N w : Nat} {h : Hp} (hN : 20 < N) (hw : w < 2 ^ 63) : Rows_toldDigits N (lN w) h = some (lN (tld w 12), h) := by
  unfold Rows_toldDigits
  exact told_loop (N := N) (h := h) hw 12 N 0 (by omega) (by omega)
/-- what the class asks: the told digits of the row are the pattern -/
theorem fit_and {n v w : Nat} (hn : n ≤ 12) (hv : v < 16 ^ 12) (hw : w < 16 ^ n) : v &&& tld w 12 = w ↔ Ft n v w := by
  have hw12 : w < 16 ^ 12 := lN_lt12 hn hw
  have key : ∀ x, x < 16 → x &&& 15 = x := by decide
  constructor
  · intro e i hi h0
    have e1 : dg (v &&& tld w 12) i = dg w i := by rw [e]
    rw [and_dg, tld_dg (by omega), if_neg h0, key _ (dg_lt v i)] at e1
    exact e1.symm
  · intro hf
    refine dg_ext 12 _ _ (Nat.lt_of_le_of_lt Nat.and_le_left hv) hw12 fun i hi => ?_
    rw [and_dg, tld_dg hi]
    by_cases h0 : dg w i = 0
    · rw [if_pos h0, h0, Nat.and_zero]
    · rw [if_neg h0, key _ (dg_lt v i)]
      by_cases hin : i < n
      · exact (hf i hin h0).symm
      · exact absurd (dg_big hw (by omega)) h0
theorem M_fit_loop {N n v w : Nat} {h : Hp} (hM : Mn h n) (hv : v < 2 ^ 62) (hw : w < 2 ^ 62) : ∀ (r f i : Nat), i + r = n → r < f → (∀ j, j < i → dg w j ≠ 0 → dg w j = dg v j) → (Ft n v w ∧ M_isFitting_3 N f (some 35) (lN v) (lN w) (nI (i + 1)) h = some (1, h)) ∨ (¬ Ft n v w ∧ M_isFitting_3 N f (some 35) (lN v) (lN w) (nI (i + 1)) h = some (0, h)) := by
  obtain ⟨o, e2, n4, hn⟩ := hM
  intro r
  induction r with
  | zero =>
    intro f i hi hf hj
    obtain ⟨f, rfl⟩ : ∃ k, f = k + 1 := ⟨f - 1, by omega⟩
    obtain rfl : i = n := by omega
    rw [M_isFitting_3, gi_s o, e2, if_pos ((nI_ltI (by omega) (by omega)).mpr (by omega)), rz_1]
    exact Or.inl ⟨hj, rfl⟩
  | succ r ih =>
    intro f i hi hf hj
    obtain ⟨f, rfl⟩ : ∃ k, f = k + 1 := ⟨f - 1, by omega⟩
    have d1 := dg_lt w i
    have d2 := dg_lt v i
    have e4 : nI (i + 1) + 1 = nI (i + 2) := nI_1 (i + 1)
    rw [M_isFitting_3, gi_s o, e2, if_neg (fun q => by have := (nI_ltI (by omega) (by omega)).mp q; omega), M_bell_s hw (by omega) (by omega), cl_s, show i + 1 - 1 = i by omega]
    by_cases h0 : dg w i = 0
    · rw [if_pos (by rw [h0]; exact nI_0), M_isFitting_38, nmE, e4]
      exact ih f (i + 1) (by omega) (by omega) (fun j h1 h2 => by by_cases e : j = i; · rw [e] at h2; exact absurd h0 h2
                                                                  · exact hj j (by omega) h2)
    · rw [if_neg (fun q => h0 ((nI_eq0 (by omega)).mp q)), M_bell_s hw (by omega) (by omega), cl_s, M_bell_s hv (by omega) (by omega), cl_s, show i + 1 - 1 = i by omega]
      by_cases h1 : dg w i = dg v i
      · rw [if_pos (by rw [h1]), M_isFitting_38, nmE, e4]
        exact ih f (i + 1) (by omega) (by omega) (fun j h3 h2 => by by_cases e : j = i; · rw [e]; exact h1
                                                                    · exact hj j (by omega) h2)
      · rw [if_neg (fun q => h1 ((nI_eq (by omega) (by omega)).mp q)), rz_0]
        exact Or.inr ⟨fun hf => h1 (hf i (by omega) h0), rfl⟩
theorem M_isFitting_s {N n v w : Nat} {h : Hp} (hN : 20 < N) (hM : Mn h n) (hv : v < 2 ^ 62) (hw : w < 2 ^ 62) : (Ft n v w ∧ M_isFitting N (some 35) (lN v) (lN w) h = some (1, h)) ∨ (¬ Ft n v w ∧ M_isFitting N (some 35) (lN v) (lN w) h = some (0, h)) := by
  have hn := hM.2.2.2
  unfold M_isFitting
  exact M_fit_loop (N := N) hM hv hw n N 0 (by omega) (by omega) (fun j hj => by omega)
end
