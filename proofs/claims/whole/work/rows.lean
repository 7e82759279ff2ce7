section
-- ===== PART A: goes FIRST, ahead of the names: the tables' words, and 'selects' of the private methods out of them =====
/-- a private method of a class that the tables say can be made, by its rows of tables_1 -/
def lw_okq (q : MethodName × Nat) : Prop := (q.1.cls ≠ "java/lang/invoke/MethodHandle" ∧ q.1.cls ≠ "java/lang/invoke/VarHandle") ∧ Cond.instantiable q.1.cls q.2 ∈ tables_1 ∧ Cond.privateMethod q.1 ∈ tables_1 ∧ Cond.instanceMethod q.1 ∈ tables_1
theorem lw_p0 : lw_okq (⟨"RingingChamber", "newMethod", "(I)LRingingChamber$Method;"⟩, 11) := ⟨⟨by decide +kernel, by decide +kernel⟩, List.mem_of_getElem? (i := 20) (by decide +kernel), List.mem_of_getElem? (i := 351) (by decide +kernel), List.mem_of_getElem? (i := 352) (by decide +kernel)⟩
theorem lw_p1 : lw_okq (⟨"RingingChamber", "methodAt", "(I)LRingingChamber$Method;"⟩, 11) := ⟨⟨by decide +kernel, by decide +kernel⟩, List.mem_of_getElem? (i := 20) (by decide +kernel), List.mem_of_getElem? (i := 498) (by decide +kernel), List.mem_of_getElem? (i := 499) (by decide +kernel)⟩
theorem lw_p2 : lw_okq (⟨"RingingChamber", "finds", "(II)I"⟩, 11) := ⟨⟨by decide +kernel, by decide +kernel⟩, List.mem_of_getElem? (i := 20) (by decide +kernel), List.mem_of_getElem? (i := 502) (by decide +kernel), List.mem_of_getElem? (i := 503) (by decide +kernel)⟩
theorem lw_p3 : lw_okq (⟨"RingingChamber$Tape", "takes", "(II)Z"⟩, 8) := ⟨⟨by decide +kernel, by decide +kernel⟩, List.mem_of_getElem? (i := 28) (by decide +kernel), List.mem_of_getElem? (i := 510) (by decide +kernel), List.mem_of_getElem? (i := 511) (by decide +kernel)⟩
theorem lw_p4 : lw_okq (⟨"RingingChamber$Tape", "takesCross", "(I)Z"⟩, 8) := ⟨⟨by decide +kernel, by decide +kernel⟩, List.mem_of_getElem? (i := 28) (by decide +kernel), List.mem_of_getElem? (i := 514) (by decide +kernel), List.mem_of_getElem? (i := 515) (by decide +kernel)⟩
theorem lw_p5 : lw_okq (⟨"RingingChamber$Tape", "closePlaces", "(I)V"⟩, 8) := ⟨⟨by decide +kernel, by decide +kernel⟩, List.mem_of_getElem? (i := 28) (by decide +kernel), List.mem_of_getElem? (i := 518) (by decide +kernel), List.mem_of_getElem? (i := 519) (by decide +kernel)⟩
theorem lw_p6 : lw_okq (⟨"RingingChamber$Tape", "tell", "(I)V"⟩, 8) := ⟨⟨by decide +kernel, by decide +kernel⟩, List.mem_of_getElem? (i := 28) (by decide +kernel), List.mem_of_getElem? (i := 525) (by decide +kernel), List.mem_of_getElem? (i := 526) (by decide +kernel)⟩
theorem lw_p7 : lw_okq (⟨"RingingChamber$Tape", "takesDot", "(I)Z"⟩, 8) := ⟨⟨by decide +kernel, by decide +kernel⟩, List.mem_of_getElem? (i := 28) (by decide +kernel), List.mem_of_getElem? (i := 529) (by decide +kernel), List.mem_of_getElem? (i := 530) (by decide +kernel)⟩
theorem lw_p8 : lw_okq (⟨"RingingChamber$Tape", "takesComma", "(I)Z"⟩, 8) := ⟨⟨by decide +kernel, by decide +kernel⟩, List.mem_of_getElem? (i := 28) (by decide +kernel), List.mem_of_getElem? (i := 533) (by decide +kernel), List.mem_of_getElem? (i := 534) (by decide +kernel)⟩
theorem lw_p9 : lw_okq (⟨"RingingChamber$Tape", "canCloseBlock", "()Z"⟩, 8) := ⟨⟨by decide +kernel, by decide +kernel⟩, List.mem_of_getElem? (i := 28) (by decide +kernel), List.mem_of_getElem? (i := 537) (by decide +kernel), List.mem_of_getElem? (i := 538) (by decide +kernel)⟩
theorem lw_p10 : lw_okq (⟨"RingingChamber$Tape", "takesPlace", "(II)Z"⟩, 8) := ⟨⟨by decide +kernel, by decide +kernel⟩, List.mem_of_getElem? (i := 28) (by decide +kernel), List.mem_of_getElem? (i := 544) (by decide +kernel), List.mem_of_getElem? (i := 545) (by decide +kernel)⟩
theorem lw_p11 : lw_okq (⟨"RingingChamber$Tape", "write", "(LRingingChamber$Lead;)V"⟩, 8) := ⟨⟨by decide +kernel, by decide +kernel⟩, List.mem_of_getElem? (i := 28) (by decide +kernel), List.mem_of_getElem? (i := 548) (by decide +kernel), List.mem_of_getElem? (i := 549) (by decide +kernel)⟩
theorem lw_p12 : lw_okq (⟨"RingingChamber$Spliced", "partOf", "(I)LRingingChamber$Method;"⟩, 8) := ⟨⟨by decide +kernel, by decide +kernel⟩, List.mem_of_getElem? (i := 472) (by decide +kernel), List.mem_of_getElem? (i := 627) (by decide +kernel), List.mem_of_getElem? (i := 628) (by decide +kernel)⟩
theorem lw_p13 : lw_okq (⟨"RingingChamber$Little", "trebleKeepsOffLastPlace", "(LRingingChamber$Lead;)Z"⟩, 6) := ⟨⟨by decide +kernel, by decide +kernel⟩, List.mem_of_getElem? (i := 420) (by decide +kernel), List.mem_of_getElem? (i := 671) (by decide +kernel), List.mem_of_getElem? (i := 672) (by decide +kernel)⟩
theorem lw_p14 : lw_okq (⟨"RingingChamber$Treble", "trebleIsAsOftenAtEachPlace", "(LRingingChamber$Lead;)Z"⟩, 6) := ⟨⟨by decide +kernel, by decide +kernel⟩, List.mem_of_getElem? (i := 433) (by decide +kernel), List.mem_of_getElem? (i := 698) (by decide +kernel), List.mem_of_getElem? (i := 699) (by decide +kernel)⟩
theorem lw_p15 : lw_okq (⟨"RingingChamber$Surprise", "hasPlacesWhereTrebleCrosses", "(LRingingChamber$Lead;)Z"⟩, 6) := ⟨⟨by decide +kernel, by decide +kernel⟩, List.mem_of_getElem? (i := 446) (by decide +kernel), List.mem_of_getElem? (i := 704) (by decide +kernel), List.mem_of_getElem? (i := 705) (by decide +kernel)⟩
def lw_privs_1 : List (MethodName × Nat) := [(⟨"RingingChamber", "newMethod", "(I)LRingingChamber$Method;"⟩, 11), (⟨"RingingChamber", "methodAt", "(I)LRingingChamber$Method;"⟩, 11), (⟨"RingingChamber", "finds", "(II)I"⟩, 11), (⟨"RingingChamber$Tape", "takes", "(II)Z"⟩, 8), (⟨"RingingChamber$Tape", "takesCross", "(I)Z"⟩, 8), (⟨"RingingChamber$Tape", "closePlaces", "(I)V"⟩, 8), (⟨"RingingChamber$Tape", "tell", "(I)V"⟩, 8), (⟨"RingingChamber$Tape", "takesDot", "(I)Z"⟩, 8), (⟨"RingingChamber$Tape", "takesComma", "(I)Z"⟩, 8), (⟨"RingingChamber$Tape", "canCloseBlock", "()Z"⟩, 8), (⟨"RingingChamber$Tape", "takesPlace", "(II)Z"⟩, 8), (⟨"RingingChamber$Tape", "write", "(LRingingChamber$Lead;)V"⟩, 8), (⟨"RingingChamber$Spliced", "partOf", "(I)LRingingChamber$Method;"⟩, 8), (⟨"RingingChamber$Little", "trebleKeepsOffLastPlace", "(LRingingChamber$Lead;)Z"⟩, 6), (⟨"RingingChamber$Treble", "trebleIsAsOftenAtEachPlace", "(LRingingChamber$Lead;)Z"⟩, 6), (⟨"RingingChamber$Surprise", "hasPlacesWhereTrebleCrosses", "(LRingingChamber$Lead;)Z"⟩, 6)]
theorem lw_r1 : ∀ q ∈ lw_privs_1, lw_okq q := List.forall_mem_cons.mpr ⟨lw_p0, List.forall_mem_cons.mpr ⟨lw_p1, List.forall_mem_cons.mpr ⟨lw_p2, List.forall_mem_cons.mpr ⟨lw_p3, List.forall_mem_cons.mpr ⟨lw_p4, List.forall_mem_cons.mpr ⟨lw_p5, List.forall_mem_cons.mpr ⟨lw_p6, List.forall_mem_cons.mpr ⟨lw_p7, List.forall_mem_cons.mpr ⟨lw_p8, List.forall_mem_cons.mpr ⟨lw_p9, List.forall_mem_cons.mpr ⟨lw_p10, List.forall_mem_cons.mpr ⟨lw_p11, List.forall_mem_cons.mpr ⟨lw_p12, List.forall_mem_cons.mpr ⟨lw_p13, List.forall_mem_cons.mpr ⟨lw_p14, List.forall_mem_cons.mpr ⟨lw_p15, fun _ h => absurd h List.not_mem_nil⟩⟩⟩⟩⟩⟩⟩⟩⟩⟩⟩⟩⟩⟩⟩⟩
theorem lw_p16 : lw_okq (⟨"RingingChamber$Surprise", "hasInnerPlace", "(I)Z"⟩, 6) := ⟨⟨by decide +kernel, by decide +kernel⟩, List.mem_of_getElem? (i := 446) (by decide +kernel), List.mem_of_getElem? (i := 713) (by decide +kernel), List.mem_of_getElem? (i := 714) (by decide +kernel)⟩
theorem lw_p17 : lw_okq (⟨"RingingChamber", "findsRow", "(J)J"⟩, 11) := ⟨⟨by decide +kernel, by decide +kernel⟩, List.mem_of_getElem? (i := 20) (by decide +kernel), List.mem_of_getElem? (i := 732) (by decide +kernel), List.mem_of_getElem? (i := 733) (by decide +kernel)⟩
theorem lw_p18 : lw_okq (⟨"RingingChamber", "sharedRows", "(LRingingChamber$Lead;J)I"⟩, 11) := ⟨⟨by decide +kernel, by decide +kernel⟩, List.mem_of_getElem? (i := 20) (by decide +kernel), List.mem_of_getElem? (i := 772) (by decide +kernel), List.mem_of_getElem? (i := 773) (by decide +kernel)⟩
theorem lw_p19 : lw_okq (⟨"RingingChamber$Touch", "ringRow", "()V"⟩, 16) := ⟨⟨by decide +kernel, by decide +kernel⟩, List.mem_of_getElem? (i := 64) (by decide +kernel), List.mem_of_getElem? (i := 861) (by decide +kernel), List.mem_of_getElem? (i := 862) (by decide +kernel)⟩
theorem lw_p20 : lw_okq (⟨"RingingChamber$Touch", "beginItem", "()I"⟩, 16) := ⟨⟨by decide +kernel, by decide +kernel⟩, List.mem_of_getElem? (i := 64) (by decide +kernel), List.mem_of_getElem? (i := 871) (by decide +kernel), List.mem_of_getElem? (i := 872) (by decide +kernel)⟩
theorem lw_p21 : lw_okq (⟨"RingingChamber$Touch", "orderNumbers", "()I"⟩, 16) := ⟨⟨by decide +kernel, by decide +kernel⟩, List.mem_of_getElem? (i := 64) (by decide +kernel), List.mem_of_getElem? (i := 897) (by decide +kernel), List.mem_of_getElem? (i := 898) (by decide +kernel)⟩
theorem lw_p22 : lw_okq (⟨"RingingChamber$Touch", "provableRows", "()I"⟩, 16) := ⟨⟨by decide +kernel, by decide +kernel⟩, List.mem_of_getElem? (i := 64) (by decide +kernel), List.mem_of_getElem? (i := 901) (by decide +kernel), List.mem_of_getElem? (i := 902) (by decide +kernel)⟩
theorem lw_p23 : lw_okq (⟨"RingingChamber$Touch", "heapSort", "(I)V"⟩, 16) := ⟨⟨by decide +kernel, by decide +kernel⟩, List.mem_of_getElem? (i := 64) (by decide +kernel), List.mem_of_getElem? (i := 906) (by decide +kernel), List.mem_of_getElem? (i := 907) (by decide +kernel)⟩
theorem lw_p24 : lw_okq (⟨"RingingChamber$Touch", "sink", "(II)V"⟩, 16) := ⟨⟨by decide +kernel, by decide +kernel⟩, List.mem_of_getElem? (i := 64) (by decide +kernel), List.mem_of_getElem? (i := 910) (by decide +kernel), List.mem_of_getElem? (i := 911) (by decide +kernel)⟩
theorem lw_p25 : lw_okq (⟨"RingingChamber$Search", "openPlace", "()V"⟩, 20) := ⟨⟨by decide +kernel, by decide +kernel⟩, List.mem_of_getElem? (i := 191) (by decide +kernel), List.mem_of_getElem? (i := 979) (by decide +kernel), List.mem_of_getElem? (i := 980) (by decide +kernel)⟩
theorem lw_p26 : lw_okq (⟨"RingingChamber$Search", "ringRow", "(LRingingChamber$Lead;)V"⟩, 20) := ⟨⟨by decide +kernel, by decide +kernel⟩, List.mem_of_getElem? (i := 191) (by decide +kernel), List.mem_of_getElem? (i := 992) (by decide +kernel), List.mem_of_getElem? (i := 993) (by decide +kernel)⟩
theorem lw_p27 : lw_okq (⟨"RingingChamber$Search", "leaveItem", "()V"⟩, 20) := ⟨⟨by decide +kernel, by decide +kernel⟩, List.mem_of_getElem? (i := 191) (by decide +kernel), List.mem_of_getElem? (i := 999) (by decide +kernel), List.mem_of_getElem? (i := 1000) (by decide +kernel)⟩
theorem lw_p28 : lw_okq (⟨"RingingChamber$Search", "takesNextChoice", "()Z"⟩, 20) := ⟨⟨by decide +kernel, by decide +kernel⟩, List.mem_of_getElem? (i := 191) (by decide +kernel), List.mem_of_getElem? (i := 1003) (by decide +kernel), List.mem_of_getElem? (i := 1004) (by decide +kernel)⟩
theorem lw_p29 : lw_okq (⟨"RingingChamber$Search", "lookAtItem", "(ILRingingChamber$Method;)V"⟩, 20) := ⟨⟨by decide +kernel, by decide +kernel⟩, List.mem_of_getElem? (i := 191) (by decide +kernel), List.mem_of_getElem? (i := 1007) (by decide +kernel), List.mem_of_getElem? (i := 1008) (by decide +kernel)⟩
theorem lw_p30 : lw_okq (⟨"RingingChamberModel", "begin", "(I)V"⟩, 59) := ⟨⟨by decide +kernel, by decide +kernel⟩, List.mem_of_getElem? (i := 1033) (by decide +kernel), List.mem_of_getElem? (i := 1039) (by decide +kernel), List.mem_of_getElem? (i := 1040) (by decide +kernel)⟩
theorem lw_p31 : lw_okq (⟨"RingingChamberModel", "anew", "()V"⟩, 59) := ⟨⟨by decide +kernel, by decide +kernel⟩, List.mem_of_getElem? (i := 1033) (by decide +kernel), List.mem_of_getElem? (i := 1043) (by decide +kernel), List.mem_of_getElem? (i := 1044) (by decide +kernel)⟩
def lw_privs_2 : List (MethodName × Nat) := [(⟨"RingingChamber$Surprise", "hasInnerPlace", "(I)Z"⟩, 6), (⟨"RingingChamber", "findsRow", "(J)J"⟩, 11), (⟨"RingingChamber", "sharedRows", "(LRingingChamber$Lead;J)I"⟩, 11), (⟨"RingingChamber$Touch", "ringRow", "()V"⟩, 16), (⟨"RingingChamber$Touch", "beginItem", "()I"⟩, 16), (⟨"RingingChamber$Touch", "orderNumbers", "()I"⟩, 16), (⟨"RingingChamber$Touch", "provableRows", "()I"⟩, 16), (⟨"RingingChamber$Touch", "heapSort", "(I)V"⟩, 16), (⟨"RingingChamber$Touch", "sink", "(II)V"⟩, 16), (⟨"RingingChamber$Search", "openPlace", "()V"⟩, 20), (⟨"RingingChamber$Search", "ringRow", "(LRingingChamber$Lead;)V"⟩, 20), (⟨"RingingChamber$Search", "leaveItem", "()V"⟩, 20), (⟨"RingingChamber$Search", "takesNextChoice", "()Z"⟩, 20), (⟨"RingingChamber$Search", "lookAtItem", "(ILRingingChamber$Method;)V"⟩, 20), (⟨"RingingChamberModel", "begin", "(I)V"⟩, 59), (⟨"RingingChamberModel", "anew", "()V"⟩, 59)]
theorem lw_r2 : ∀ q ∈ lw_privs_2, lw_okq q := List.forall_mem_cons.mpr ⟨lw_p16, List.forall_mem_cons.mpr ⟨lw_p17, List.forall_mem_cons.mpr ⟨lw_p18, List.forall_mem_cons.mpr ⟨lw_p19, List.forall_mem_cons.mpr ⟨lw_p20, List.forall_mem_cons.mpr ⟨lw_p21, List.forall_mem_cons.mpr ⟨lw_p22, List.forall_mem_cons.mpr ⟨lw_p23, List.forall_mem_cons.mpr ⟨lw_p24, List.forall_mem_cons.mpr ⟨lw_p25, List.forall_mem_cons.mpr ⟨lw_p26, List.forall_mem_cons.mpr ⟨lw_p27, List.forall_mem_cons.mpr ⟨lw_p28, List.forall_mem_cons.mpr ⟨lw_p29, List.forall_mem_cons.mpr ⟨lw_p30, List.forall_mem_cons.mpr ⟨lw_p31, fun _ h => absurd h List.not_mem_nil⟩⟩⟩⟩⟩⟩⟩⟩⟩⟩⟩⟩⟩⟩⟩⟩
theorem lw_p32 : lw_okq (⟨"RingingChamberModel", "rounds", "()J"⟩, 59) := ⟨⟨by decide +kernel, by decide +kernel⟩, List.mem_of_getElem? (i := 1033) (by decide +kernel), List.mem_of_getElem? (i := 1047) (by decide +kernel), List.mem_of_getElem? (i := 1048) (by decide +kernel)⟩
theorem lw_p33 : lw_okq (⟨"RingingChamberModel", "isMethod", "(I)Z"⟩, 59) := ⟨⟨by decide +kernel, by decide +kernel⟩, List.mem_of_getElem? (i := 1033) (by decide +kernel), List.mem_of_getElem? (i := 1251) (by decide +kernel), List.mem_of_getElem? (i := 1252) (by decide +kernel)⟩
theorem lw_p34 : lw_okq (⟨"RingingChamberModel", "finds", "(I)Z"⟩, 59) := ⟨⟨by decide +kernel, by decide +kernel⟩, List.mem_of_getElem? (i := 1033) (by decide +kernel), List.mem_of_getElem? (i := 1255) (by decide +kernel), List.mem_of_getElem? (i := 1256) (by decide +kernel)⟩
theorem lw_p35 : lw_okq (⟨"RingingChamberModel", "block", "(I)Z"⟩, 59) := ⟨⟨by decide +kernel, by decide +kernel⟩, List.mem_of_getElem? (i := 1033) (by decide +kernel), List.mem_of_getElem? (i := 1259) (by decide +kernel), List.mem_of_getElem? (i := 1260) (by decide +kernel)⟩
theorem lw_p36 : lw_okq (⟨"RingingChamberModel", "cross", "()I"⟩, 59) := ⟨⟨by decide +kernel, by decide +kernel⟩, List.mem_of_getElem? (i := 1033) (by decide +kernel), List.mem_of_getElem? (i := 1266) (by decide +kernel), List.mem_of_getElem? (i := 1267) (by decide +kernel)⟩
theorem lw_p37 : lw_okq (⟨"RingingChamberModel", "places", "()Z"⟩, 59) := ⟨⟨by decide +kernel, by decide +kernel⟩, List.mem_of_getElem? (i := 1033) (by decide +kernel), List.mem_of_getElem? (i := 1270) (by decide +kernel), List.mem_of_getElem? (i := 1271) (by decide +kernel)⟩
theorem lw_p38 : lw_okq (⟨"RingingChamberModel", "turned", "(I)V"⟩, 59) := ⟨⟨by decide +kernel, by decide +kernel⟩, List.mem_of_getElem? (i := 1033) (by decide +kernel), List.mem_of_getElem? (i := 1274) (by decide +kernel), List.mem_of_getElem? (i := 1275) (by decide +kernel)⟩
theorem lw_p39 : lw_okq (⟨"RingingChamberModel", "isChange", "(I)Z"⟩, 59) := ⟨⟨by decide +kernel, by decide +kernel⟩, List.mem_of_getElem? (i := 1033) (by decide +kernel), List.mem_of_getElem? (i := 1286) (by decide +kernel), List.mem_of_getElem? (i := 1287) (by decide +kernel)⟩
theorem lw_p40 : lw_okq (⟨"RingingChamberModel", "calledOf", "(III)Z"⟩, 59) := ⟨⟨by decide +kernel, by decide +kernel⟩, List.mem_of_getElem? (i := 1033) (by decide +kernel), List.mem_of_getElem? (i := 1298) (by decide +kernel), List.mem_of_getElem? (i := 1299) (by decide +kernel)⟩
theorem lw_p41 : lw_okq (⟨"RingingChamberModel", "count", "(II)V"⟩, 59) := ⟨⟨by decide +kernel, by decide +kernel⟩, List.mem_of_getElem? (i := 1033) (by decide +kernel), List.mem_of_getElem? (i := 1302) (by decide +kernel), List.mem_of_getElem? (i := 1303) (by decide +kernel)⟩
theorem lw_p42 : lw_okq (⟨"RingingChamberModel", "isAmiss", "(I)Z"⟩, 59) := ⟨⟨by decide +kernel, by decide +kernel⟩, List.mem_of_getElem? (i := 1033) (by decide +kernel), List.mem_of_getElem? (i := 1306) (by decide +kernel), List.mem_of_getElem? (i := 1307) (by decide +kernel)⟩
theorem lw_p43 : lw_okq (⟨"RingingChamberModel", "partOf", "(II)I"⟩, 59) := ⟨⟨by decide +kernel, by decide +kernel⟩, List.mem_of_getElem? (i := 1033) (by decide +kernel), List.mem_of_getElem? (i := 1310) (by decide +kernel), List.mem_of_getElem? (i := 1311) (by decide +kernel)⟩
theorem lw_p44 : lw_okq (⟨"RingingChamberModel", "leadOf", "(II)Z"⟩, 59) := ⟨⟨by decide +kernel, by decide +kernel⟩, List.mem_of_getElem? (i := 1033) (by decide +kernel), List.mem_of_getElem? (i := 1314) (by decide +kernel), List.mem_of_getElem? (i := 1315) (by decide +kernel)⟩
theorem lw_p45 : lw_okq (⟨"RingingChamberModel", "judgeOf", "(I)I"⟩, 59) := ⟨⟨by decide +kernel, by decide +kernel⟩, List.mem_of_getElem? (i := 1033) (by decide +kernel), List.mem_of_getElem? (i := 1322) (by decide +kernel), List.mem_of_getElem? (i := 1323) (by decide +kernel)⟩
theorem lw_p46 : lw_okq (⟨"RingingChamberModel", "behind", "(JI)J"⟩, 59) := ⟨⟨by decide +kernel, by decide +kernel⟩, List.mem_of_getElem? (i := 1033) (by decide +kernel), List.mem_of_getElem? (i := 1326) (by decide +kernel), List.mem_of_getElem? (i := 1327) (by decide +kernel)⟩
theorem lw_p47 : lw_okq (⟨"RingingChamberModel", "hunt", "()V"⟩, 59) := ⟨⟨by decide +kernel, by decide +kernel⟩, List.mem_of_getElem? (i := 1033) (by decide +kernel), List.mem_of_getElem? (i := 1336) (by decide +kernel), List.mem_of_getElem? (i := 1337) (by decide +kernel)⟩
def lw_privs_3 : List (MethodName × Nat) := [(⟨"RingingChamberModel", "rounds", "()J"⟩, 59), (⟨"RingingChamberModel", "isMethod", "(I)Z"⟩, 59), (⟨"RingingChamberModel", "finds", "(I)Z"⟩, 59), (⟨"RingingChamberModel", "block", "(I)Z"⟩, 59), (⟨"RingingChamberModel", "cross", "()I"⟩, 59), (⟨"RingingChamberModel", "places", "()Z"⟩, 59), (⟨"RingingChamberModel", "turned", "(I)V"⟩, 59), (⟨"RingingChamberModel", "isChange", "(I)Z"⟩, 59), (⟨"RingingChamberModel", "calledOf", "(III)Z"⟩, 59), (⟨"RingingChamberModel", "count", "(II)V"⟩, 59), (⟨"RingingChamberModel", "isAmiss", "(I)Z"⟩, 59), (⟨"RingingChamberModel", "partOf", "(II)I"⟩, 59), (⟨"RingingChamberModel", "leadOf", "(II)Z"⟩, 59), (⟨"RingingChamberModel", "judgeOf", "(I)I"⟩, 59), (⟨"RingingChamberModel", "behind", "(JI)J"⟩, 59), (⟨"RingingChamberModel", "hunt", "()V"⟩, 59)]
theorem lw_r3 : ∀ q ∈ lw_privs_3, lw_okq q := List.forall_mem_cons.mpr ⟨lw_p32, List.forall_mem_cons.mpr ⟨lw_p33, List.forall_mem_cons.mpr ⟨lw_p34, List.forall_mem_cons.mpr ⟨lw_p35, List.forall_mem_cons.mpr ⟨lw_p36, List.forall_mem_cons.mpr ⟨lw_p37, List.forall_mem_cons.mpr ⟨lw_p38, List.forall_mem_cons.mpr ⟨lw_p39, List.forall_mem_cons.mpr ⟨lw_p40, List.forall_mem_cons.mpr ⟨lw_p41, List.forall_mem_cons.mpr ⟨lw_p42, List.forall_mem_cons.mpr ⟨lw_p43, List.forall_mem_cons.mpr ⟨lw_p44, List.forall_mem_cons.mpr ⟨lw_p45, List.forall_mem_cons.mpr ⟨lw_p46, List.forall_mem_cons.mpr ⟨lw_p47, fun _ h => absurd h List.not_mem_nil⟩⟩⟩⟩⟩⟩⟩⟩⟩⟩⟩⟩⟩⟩⟩⟩
theorem lw_p48 : lw_okq (⟨"RingingChamberModel", "placeOfOne", "(J)I"⟩, 59) := ⟨⟨by decide +kernel, by decide +kernel⟩, List.mem_of_getElem? (i := 1033) (by decide +kernel), List.mem_of_getElem? (i := 1340) (by decide +kernel), List.mem_of_getElem? (i := 1341) (by decide +kernel)⟩
theorem lw_p49 : lw_okq (⟨"RingingChamberModel", "isEven", "()Z"⟩, 59) := ⟨⟨by decide +kernel, by decide +kernel⟩, List.mem_of_getElem? (i := 1033) (by decide +kernel), List.mem_of_getElem? (i := 1344) (by decide +kernel), List.mem_of_getElem? (i := 1345) (by decide +kernel)⟩
theorem lw_p50 : lw_okq (⟨"RingingChamberModel", "isSurprising", "()Z"⟩, 59) := ⟨⟨by decide +kernel, by decide +kernel⟩, List.mem_of_getElem? (i := 1033) (by decide +kernel), List.mem_of_getElem? (i := 1348) (by decide +kernel), List.mem_of_getElem? (i := 1349) (by decide +kernel)⟩
theorem lw_p51 : lw_okq (⟨"RingingChamberModel", "staysWithin", "(I)Z"⟩, 59) := ⟨⟨by decide +kernel, by decide +kernel⟩, List.mem_of_getElem? (i := 1033) (by decide +kernel), List.mem_of_getElem? (i := 1353) (by decide +kernel), List.mem_of_getElem? (i := 1354) (by decide +kernel)⟩
theorem lw_p52 : lw_okq (⟨"RingingChamberModel", "orderOf", "(J)I"⟩, 59) := ⟨⟨by decide +kernel, by decide +kernel⟩, List.mem_of_getElem? (i := 1033) (by decide +kernel), List.mem_of_getElem? (i := 1365) (by decide +kernel), List.mem_of_getElem? (i := 1366) (by decide +kernel)⟩
theorem lw_p53 : lw_okq (⟨"RingingChamberModel", "times", "(JJ)J"⟩, 59) := ⟨⟨by decide +kernel, by decide +kernel⟩, List.mem_of_getElem? (i := 1033) (by decide +kernel), List.mem_of_getElem? (i := 1369) (by decide +kernel), List.mem_of_getElem? (i := 1370) (by decide +kernel)⟩
theorem lw_p54 : lw_okq (⟨"RingingChamberModel", "isRow", "(J)Z"⟩, 59) := ⟨⟨by decide +kernel, by decide +kernel⟩, List.mem_of_getElem? (i := 1033) (by decide +kernel), List.mem_of_getElem? (i := 1377) (by decide +kernel), List.mem_of_getElem? (i := 1378) (by decide +kernel)⟩
theorem lw_p55 : lw_okq (⟨"RingingChamberModel", "numberOf", "(J)I"⟩, 59) := ⟨⟨by decide +kernel, by decide +kernel⟩, List.mem_of_getElem? (i := 1033) (by decide +kernel), List.mem_of_getElem? (i := 1393) (by decide +kernel), List.mem_of_getElem? (i := 1394) (by decide +kernel)⟩
theorem lw_p56 : lw_okq (⟨"RingingChamberModel", "all", "()I"⟩, 59) := ⟨⟨by decide +kernel, by decide +kernel⟩, List.mem_of_getElem? (i := 1033) (by decide +kernel), List.mem_of_getElem? (i := 1401) (by decide +kernel), List.mem_of_getElem? (i := 1402) (by decide +kernel)⟩
theorem lw_p57 : lw_okq (⟨"RingingChamberModel", "rowOf", "(I)J"⟩, 59) := ⟨⟨by decide +kernel, by decide +kernel⟩, List.mem_of_getElem? (i := 1033) (by decide +kernel), List.mem_of_getElem? (i := 1405) (by decide +kernel), List.mem_of_getElem? (i := 1406) (by decide +kernel)⟩
theorem lw_p58 : lw_okq (⟨"RingingChamberModel", "rings", "()Z"⟩, 59) := ⟨⟨by decide +kernel, by decide +kernel⟩, List.mem_of_getElem? (i := 1033) (by decide +kernel), List.mem_of_getElem? (i := 1437) (by decide +kernel), List.mem_of_getElem? (i := 1438) (by decide +kernel)⟩
theorem lw_p59 : lw_okq (⟨"RingingChamberModel", "meant", "()I"⟩, 59) := ⟨⟨by decide +kernel, by decide +kernel⟩, List.mem_of_getElem? (i := 1033) (by decide +kernel), List.mem_of_getElem? (i := 1453) (by decide +kernel), List.mem_of_getElem? (i := 1454) (by decide +kernel)⟩
theorem lw_p60 : lw_okq (⟨"RingingChamberModel", "numbers", "([I)V"⟩, 59) := ⟨⟨by decide +kernel, by decide +kernel⟩, List.mem_of_getElem? (i := 1033) (by decide +kernel), List.mem_of_getElem? (i := 1462) (by decide +kernel), List.mem_of_getElem? (i := 1463) (by decide +kernel)⟩
theorem lw_p61 : lw_okq (⟨"RingingChamberModel", "isPattern", "(J)Z"⟩, 59) := ⟨⟨by decide +kernel, by decide +kernel⟩, List.mem_of_getElem? (i := 1033) (by decide +kernel), List.mem_of_getElem? (i := 1490) (by decide +kernel), List.mem_of_getElem? (i := 1491) (by decide +kernel)⟩
theorem lw_p62 : lw_okq (⟨"RingingChamberModel", "isFitting", "(JJ)Z"⟩, 59) := ⟨⟨by decide +kernel, by decide +kernel⟩, List.mem_of_getElem? (i := 1033) (by decide +kernel), List.mem_of_getElem? (i := 1494) (by decide +kernel), List.mem_of_getElem? (i := 1495) (by decide +kernel)⟩
theorem lw_p63 : lw_okq (⟨"RingingChamberModel", "go", "(I)V"⟩, 59) := ⟨⟨by decide +kernel, by decide +kernel⟩, List.mem_of_getElem? (i := 1033) (by decide +kernel), List.mem_of_getElem? (i := 1511) (by decide +kernel), List.mem_of_getElem? (i := 1512) (by decide +kernel)⟩
def lw_privs_4 : List (MethodName × Nat) := [(⟨"RingingChamberModel", "placeOfOne", "(J)I"⟩, 59), (⟨"RingingChamberModel", "isEven", "()Z"⟩, 59), (⟨"RingingChamberModel", "isSurprising", "()Z"⟩, 59), (⟨"RingingChamberModel", "staysWithin", "(I)Z"⟩, 59), (⟨"RingingChamberModel", "orderOf", "(J)I"⟩, 59), (⟨"RingingChamberModel", "times", "(JJ)J"⟩, 59), (⟨"RingingChamberModel", "isRow", "(J)Z"⟩, 59), (⟨"RingingChamberModel", "numberOf", "(J)I"⟩, 59), (⟨"RingingChamberModel", "all", "()I"⟩, 59), (⟨"RingingChamberModel", "rowOf", "(I)J"⟩, 59), (⟨"RingingChamberModel", "rings", "()Z"⟩, 59), (⟨"RingingChamberModel", "meant", "()I"⟩, 59), (⟨"RingingChamberModel", "numbers", "([I)V"⟩, 59), (⟨"RingingChamberModel", "isPattern", "(J)Z"⟩, 59), (⟨"RingingChamberModel", "isFitting", "(JJ)Z"⟩, 59), (⟨"RingingChamberModel", "go", "(I)V"⟩, 59)]
theorem lw_r4 : ∀ q ∈ lw_privs_4, lw_okq q := List.forall_mem_cons.mpr ⟨lw_p48, List.forall_mem_cons.mpr ⟨lw_p49, List.forall_mem_cons.mpr ⟨lw_p50, List.forall_mem_cons.mpr ⟨lw_p51, List.forall_mem_cons.mpr ⟨lw_p52, List.forall_mem_cons.mpr ⟨lw_p53, List.forall_mem_cons.mpr ⟨lw_p54, List.forall_mem_cons.mpr ⟨lw_p55, List.forall_mem_cons.mpr ⟨lw_p56, List.forall_mem_cons.mpr ⟨lw_p57, List.forall_mem_cons.mpr ⟨lw_p58, List.forall_mem_cons.mpr ⟨lw_p59, List.forall_mem_cons.mpr ⟨lw_p60, List.forall_mem_cons.mpr ⟨lw_p61, List.forall_mem_cons.mpr ⟨lw_p62, List.forall_mem_cons.mpr ⟨lw_p63, fun _ h => absurd h List.not_mem_nil⟩⟩⟩⟩⟩⟩⟩⟩⟩⟩⟩⟩⟩⟩⟩⟩
theorem lw_p64 : lw_okq (⟨"RingingChamberModel", "begins", "()Z"⟩, 59) := ⟨⟨by decide +kernel, by decide +kernel⟩, List.mem_of_getElem? (i := 1033) (by decide +kernel), List.mem_of_getElem? (i := 1515) (by decide +kernel), List.mem_of_getElem? (i := 1516) (by decide +kernel)⟩
theorem lw_p65 : lw_okq (⟨"RingingChamberModel", "isComposed", "()Z"⟩, 59) := ⟨⟨by decide +kernel, by decide +kernel⟩, List.mem_of_getElem? (i := 1033) (by decide +kernel), List.mem_of_getElem? (i := 1519) (by decide +kernel), List.mem_of_getElem? (i := 1520) (by decide +kernel)⟩
theorem lw_p66 : lw_okq (⟨"RingingChamberModel", "tell", "()V"⟩, 59) := ⟨⟨by decide +kernel, by decide +kernel⟩, List.mem_of_getElem? (i := 1033) (by decide +kernel), List.mem_of_getElem? (i := 1523) (by decide +kernel), List.mem_of_getElem? (i := 1524) (by decide +kernel)⟩
theorem lw_p67 : lw_okq (⟨"RingingChamberModel", "isThere", "(J)Z"⟩, 59) := ⟨⟨by decide +kernel, by decide +kernel⟩, List.mem_of_getElem? (i := 1033) (by decide +kernel), List.mem_of_getElem? (i := 1527) (by decide +kernel), List.mem_of_getElem? (i := 1528) (by decide +kernel)⟩
def lw_privs_5 : List (MethodName × Nat) := [(⟨"RingingChamberModel", "begins", "()Z"⟩, 59), (⟨"RingingChamberModel", "isComposed", "()Z"⟩, 59), (⟨"RingingChamberModel", "tell", "()V"⟩, 59), (⟨"RingingChamberModel", "isThere", "(J)Z"⟩, 59)]
theorem lw_r5 : ∀ q ∈ lw_privs_5, lw_okq q := List.forall_mem_cons.mpr ⟨lw_p64, List.forall_mem_cons.mpr ⟨lw_p65, List.forall_mem_cons.mpr ⟨lw_p66, List.forall_mem_cons.mpr ⟨lw_p67, fun _ h => absurd h List.not_mem_nil⟩⟩⟩⟩
def lw_privs : List (MethodName × Nat) := lw_privs_1 ++ (lw_privs_2 ++ (lw_privs_3 ++ (lw_privs_4 ++ (lw_privs_5))))
def lw_tbl : List Cond := k2_sels lw_privs ++ tables_1
theorem lw_privs_ok : ∀ q ∈ lw_privs, lw_okq q := by
  show ∀ q ∈ lw_privs_1 ++ (lw_privs_2 ++ (lw_privs_3 ++ (lw_privs_4 ++ (lw_privs_5)))), lw_okq q
  exact List.forall_mem_append.mpr ⟨lw_r1, List.forall_mem_append.mpr ⟨lw_r2, List.forall_mem_append.mpr ⟨lw_r3, List.forall_mem_append.mpr ⟨lw_r4, lw_r5⟩⟩⟩⟩
-- ===== end of PART A; then your names; then what follows =====
end
section
/-! class tables: fields in order (declaring class, name, descriptor, final) -/
def kT0 : u_T := fun k => match k with
  | 0 => ("RingingChamber$Lead", "changes", "[I", true)
  | 1 => ("RingingChamber$Lead", "size", "I", false)
  | _ => ("RingingChamber$Lead", "amiss", "I", false)
def kY0 : Nat → FieldType := fun k => match k with
  | 0 => .array (.int)
  | 1 => .int
  | _ => .int
def kT1 : u_T := fun k => match k with
  | 0 => ("RingingChamber$Method", "bells", "I", true)
  | 1 => ("RingingChamber$Method", "begun", "[I", true)
  | 2 => ("RingingChamber$Method", "own", "LRingingChamber$Lead;", true)
  | 3 => ("RingingChamber$Method", "callPlaces", "[I", true)
  | 4 => ("RingingChamber$Method", "callChanges", "[I", true)
  | _ => ("RingingChamber$Method", "allowedCalls", "I", false)
def kY1 : Nat → FieldType := fun k => match k with
  | 0 => .int
  | 1 => .array (.int)
  | 2 => .object "RingingChamber$Lead"
  | 3 => .array (.int)
  | 4 => .array (.int)
  | _ => .int
def kT2 : u_T := fun k => match k with
  | 0 => ("RingingChamber$Method", "bells", "I", true)
  | 1 => ("RingingChamber$Method", "begun", "[I", true)
  | 2 => ("RingingChamber$Method", "own", "LRingingChamber$Lead;", true)
  | 3 => ("RingingChamber$Method", "callPlaces", "[I", true)
  | 4 => ("RingingChamber$Method", "callChanges", "[I", true)
  | _ => ("RingingChamber$Method", "allowedCalls", "I", false)
def kY2 : Nat → FieldType := fun k => match k with
  | 0 => .int
  | 1 => .array (.int)
  | 2 => .object "RingingChamber$Lead"
  | 3 => .array (.int)
  | 4 => .array (.int)
  | _ => .int
def kT3 : u_T := fun k => match k with
  | 0 => ("RingingChamber$Method", "bells", "I", true)
  | 1 => ("RingingChamber$Method", "begun", "[I", true)
  | 2 => ("RingingChamber$Method", "own", "LRingingChamber$Lead;", true)
  | 3 => ("RingingChamber$Method", "callPlaces", "[I", true)
  | 4 => ("RingingChamber$Method", "callChanges", "[I", true)
  | _ => ("RingingChamber$Method", "allowedCalls", "I", false)
def kY3 : Nat → FieldType := fun k => match k with
  | 0 => .int
  | 1 => .array (.int)
  | 2 => .object "RingingChamber$Lead"
  | 3 => .array (.int)
  | 4 => .array (.int)
  | _ => .int
def kT4 : u_T := fun k => match k with
  | 0 => ("RingingChamber$Rows", "codes", "[J", true)
  | 1 => ("RingingChamber$Rows", "links", "[I", true)
  | 2 => ("RingingChamber$Rows", "heads", "[I", true)
  | _ => ("RingingChamber$Rows", "size", "I", false)
def kY4 : Nat → FieldType := fun k => match k with
  | 0 => .array (.long)
  | 1 => .array (.int)
  | 2 => .array (.int)
  | _ => .int
def kT5 : u_T := fun k => match k with
  | 0 => ("RingingChamber$Search", "choices", "[I", true)
  | 1 => ("RingingChamber$Search", "choiceMethods", "[LRingingChamber$Method;", true)
  | 2 => ("RingingChamber$Search", "choiceCount", "I", false)
  | 3 => ("RingingChamber$Search", "length", "I", false)
  | 4 => ("RingingChamber$Search", "wanted", "I", false)
  | 5 => ("RingingChamber$Search", "pattern", "J", false)
  | 6 => ("RingingChamber$Search", "toldDigits", "J", false)
  | 7 => ("RingingChamber$Search", "rounds", "J", false)
  | 8 => ("RingingChamber$Search", "leads", "[LRingingChamber$Lead;", true)
  | 9 => ("RingingChamber$Search", "usable", "[I", true)
  | 10 => ("RingingChamber$Search", "rows", "LRingingChamber$Rows;", true)
  | 11 => ("RingingChamber$Search", "fitting", "[I", true)
  | 12 => ("RingingChamber$Search", "taken", "[I", true)
  | 13 => ("RingingChamber$Search", "firstRows", "[I", true)
  | 14 => ("RingingChamber$Search", "depth", "I", false)
  | 15 => ("RingingChamber$Search", "current", "LRingingChamber$Lead;", false)
  | 16 => ("RingingChamber$Search", "changesDone", "I", false)
  | 17 => ("RingingChamber$Search", "answer", "I", false)
  | 18 => ("RingingChamber$Search", "steps", "I", false)
  | _ => ("RingingChamber$Search", "isVoid", "Z", false)
def kY5 : Nat → FieldType := fun k => match k with
  | 0 => .array (.int)
  | 1 => .array (.object "RingingChamber$Method")
  | 2 => .int
  | 3 => .int
  | 4 => .int
  | 5 => .long
  | 6 => .long
  | 7 => .long
  | 8 => .array (.object "RingingChamber$Lead")
  | 9 => .array (.int)
  | 10 => .object "RingingChamber$Rows"
  | 11 => .array (.int)
  | 12 => .array (.int)
  | 13 => .array (.int)
  | 14 => .int
  | 15 => .object "RingingChamber$Lead"
  | 16 => .int
  | 17 => .int
  | 18 => .int
  | _ => .boolean
def kT6 : u_T := fun k => match k with
  | 0 => ("RingingChamber$Method", "bells", "I", true)
  | 1 => ("RingingChamber$Method", "begun", "[I", true)
  | 2 => ("RingingChamber$Method", "own", "LRingingChamber$Lead;", true)
  | 3 => ("RingingChamber$Method", "callPlaces", "[I", true)
  | 4 => ("RingingChamber$Method", "callChanges", "[I", true)
  | 5 => ("RingingChamber$Method", "allowedCalls", "I", false)
  | 6 => ("RingingChamber$Spliced", "parts", "[LRingingChamber$Method;", true)
  | _ => ("RingingChamber$Spliced", "partCount", "I", false)
def kY6 : Nat → FieldType := fun k => match k with
  | 0 => .int
  | 1 => .array (.int)
  | 2 => .object "RingingChamber$Lead"
  | 3 => .array (.int)
  | 4 => .array (.int)
  | 5 => .int
  | 6 => .array (.object "RingingChamber$Method")
  | _ => .int
def kT7 : u_T := fun k => match k with
  | 0 => ("RingingChamber$Method", "bells", "I", true)
  | 1 => ("RingingChamber$Method", "begun", "[I", true)
  | 2 => ("RingingChamber$Method", "own", "LRingingChamber$Lead;", true)
  | 3 => ("RingingChamber$Method", "callPlaces", "[I", true)
  | 4 => ("RingingChamber$Method", "callChanges", "[I", true)
  | _ => ("RingingChamber$Method", "allowedCalls", "I", false)
def kY7 : Nat → FieldType := fun k => match k with
  | 0 => .int
  | 1 => .array (.int)
  | 2 => .object "RingingChamber$Lead"
  | 3 => .array (.int)
  | 4 => .array (.int)
  | _ => .int
def kT8 : u_T := fun k => match k with
  | 0 => ("RingingChamber$Tape", "bytes", "[B", true)
  | 1 => ("RingingChamber$Tape", "length", "I", false)
  | 2 => ("RingingChamber$Tape", "told", "[I", true)
  | 3 => ("RingingChamber$Tape", "toldCount", "I", false)
  | 4 => ("RingingChamber$Tape", "firstBlock", "I", false)
  | 5 => ("RingingChamber$Tape", "state", "I", false)
  | 6 => ("RingingChamber$Tape", "lastPlace", "I", false)
  | _ => ("RingingChamber$Tape", "openChange", "I", false)
def kY8 : Nat → FieldType := fun k => match k with
  | 0 => .array (.byte)
  | 1 => .int
  | 2 => .array (.int)
  | 3 => .int
  | 4 => .int
  | 5 => .int
  | 6 => .int
  | _ => .int
def kT9 : u_T := fun k => match k with
  | 0 => ("RingingChamber$Touch", "itemMethods", "[LRingingChamber$Method;", true)
  | 1 => ("RingingChamber$Touch", "itemCalls", "[I", true)
  | 2 => ("RingingChamber$Touch", "itemCount", "I", false)
  | 3 => ("RingingChamber$Touch", "bells", "I", false)
  | 4 => ("RingingChamber$Touch", "rounds", "J", false)
  | 5 => ("RingingChamber$Touch", "rows", "LRingingChamber$Rows;", true)
  | 6 => ("RingingChamber$Touch", "current", "LRingingChamber$Lead;", true)
  | 7 => ("RingingChamber$Touch", "changesDone", "I", false)
  | 8 => ("RingingChamber$Touch", "nextItem", "I", false)
  | 9 => ("RingingChamber$Touch", "hasStopped", "Z", false)
  | 10 => ("RingingChamber$Touch", "roundAt", "I", false)
  | 11 => ("RingingChamber$Touch", "firstFalse", "I", false)
  | 12 => ("RingingChamber$Touch", "numbers", "[I", true)
  | 13 => ("RingingChamber$Touch", "numberedRows", "I", false)
  | 14 => ("RingingChamber$Touch", "proven", "[I", true)
  | _ => ("RingingChamber$Touch", "proofSize", "I", false)
def kY9 : Nat → FieldType := fun k => match k with
  | 0 => .array (.object "RingingChamber$Method")
  | 1 => .array (.int)
  | 2 => .int
  | 3 => .int
  | 4 => .long
  | 5 => .object "RingingChamber$Rows"
  | 6 => .object "RingingChamber$Lead"
  | 7 => .int
  | 8 => .int
  | 9 => .boolean
  | 10 => .int
  | 11 => .int
  | 12 => .array (.int)
  | 13 => .int
  | 14 => .array (.int)
  | _ => .int
def kT10 : u_T := fun k => match k with
  | 0 => ("RingingChamber$Method", "bells", "I", true)
  | 1 => ("RingingChamber$Method", "begun", "[I", true)
  | 2 => ("RingingChamber$Method", "own", "LRingingChamber$Lead;", true)
  | 3 => ("RingingChamber$Method", "callPlaces", "[I", true)
  | 4 => ("RingingChamber$Method", "callChanges", "[I", true)
  | _ => ("RingingChamber$Method", "allowedCalls", "I", false)
def kY10 : Nat → FieldType := fun k => match k with
  | 0 => .int
  | 1 => .array (.int)
  | 2 => .object "RingingChamber$Lead"
  | 3 => .array (.int)
  | 4 => .array (.int)
  | _ => .int
def kT11 : u_T := fun k => match k with
  | 0 => ("RingingChamber", "tape", "LRingingChamber$Tape;", true)
  | 1 => ("RingingChamber", "begun", "[I", true)
  | 2 => ("RingingChamber", "methods", "[LRingingChamber$Method;", true)
  | 3 => ("RingingChamber", "methodCount", "I", false)
  | 4 => ("RingingChamber", "bellCount", "I", false)
  | 5 => ("RingingChamber", "rungBells", "I", false)
  | 6 => ("RingingChamber", "finding", "I", false)
  | 7 => ("RingingChamber", "ringing", "LRingingChamber$Touch;", true)
  | 8 => ("RingingChamber", "seeking", "LRingingChamber$Search;", true)
  | 9 => ("RingingChamber", "looked", "LRingingChamber$Lead;", true)
  | _ => ("RingingChamber", "others", "LRingingChamber$Rows;", true)
def kY11 : Nat → FieldType := fun k => match k with
  | 0 => .object "RingingChamber$Tape"
  | 1 => .array (.int)
  | 2 => .array (.object "RingingChamber$Method")
  | 3 => .int
  | 4 => .int
  | 5 => .int
  | 6 => .int
  | 7 => .object "RingingChamber$Touch"
  | 8 => .object "RingingChamber$Search"
  | 9 => .object "RingingChamber$Lead"
  | _ => .object "RingingChamber$Rows"
def kT12 : u_T := fun k => match k with
  | 0 => ("RingingChamberModel", "tape", "[I", true)
  | 1 => ("RingingChamberModel", "taped", "I", false)
  | 2 => ("RingingChamberModel", "n", "I", false)
  | 3 => ("RingingChamberModel", "finding", "I", false)
  | 4 => ("RingingChamberModel", "trace", "[I", true)
  | 5 => ("RingingChamberModel", "methods", "I", false)
  | 6 => ("RingingChamberModel", "kind", "[I", true)
  | 7 => ("RingingChamberModel", "lengths", "[I", true)
  | 8 => ("RingingChamberModel", "leads", "[I", true)
  | 9 => ("RingingChamberModel", "callPlace", "[I", true)
  | 10 => ("RingingChamberModel", "callChange", "[I", true)
  | 11 => ("RingingChamberModel", "partMany", "[I", true)
  | 12 => ("RingingChamberModel", "parts", "[I", true)
  | 13 => ("RingingChamberModel", "out", "[I", true)
  | 14 => ("RingingChamberModel", "outMany", "I", false)
  | 15 => ("RingingChamberModel", "amiss", "I", false)
  | 16 => ("RingingChamberModel", "isCounted", "Z", false)
  | 17 => ("RingingChamberModel", "itemMethod", "[I", true)
  | 18 => ("RingingChamberModel", "itemCall", "[I", true)
  | 19 => ("RingingChamberModel", "items", "I", false)
  | 20 => ("RingingChamberModel", "rows", "[J", true)
  | 21 => ("RingingChamberModel", "rowMany", "I", false)
  | 22 => ("RingingChamberModel", "nextItem", "I", false)
  | 23 => ("RingingChamberModel", "now", "[I", true)
  | 24 => ("RingingChamberModel", "nowMany", "I", false)
  | 25 => ("RingingChamberModel", "nowAt", "I", false)
  | 26 => ("RingingChamberModel", "stops", "Z", false)
  | 27 => ("RingingChamberModel", "came", "I", false)
  | 28 => ("RingingChamberModel", "proof", "[I", true)
  | 29 => ("RingingChamberModel", "other", "[I", true)
  | 30 => ("RingingChamberModel", "proofMany", "I", false)
  | 31 => ("RingingChamberModel", "nobody", "[Z", true)
  | 32 => ("RingingChamberModel", "allowed", "[I", true)
  | 33 => ("RingingChamberModel", "isSearch", "Z", false)
  | 34 => ("RingingChamberModel", "isVoid", "Z", false)
  | 35 => ("RingingChamberModel", "result", "I", false)
  | 36 => ("RingingChamberModel", "length", "I", false)
  | 37 => ("RingingChamberModel", "wanted", "I", false)
  | 38 => ("RingingChamberModel", "pattern", "J", false)
  | 39 => ("RingingChamberModel", "steps", "I", false)
  | 40 => ("RingingChamberModel", "candidates", "[I", true)
  | 41 => ("RingingChamberModel", "candidateMany", "I", false)
  | 42 => ("RingingChamberModel", "known", "[B", true)
  | 43 => ("RingingChamberModel", "depth", "I", false)
  | 44 => ("RingingChamberModel", "isIn", "Z", false)
  | 45 => ("RingingChamberModel", "chosen", "[I", true)
  | 46 => ("RingingChamberModel", "begun", "[I", true)
  | 47 => ("RingingChamberModel", "rung", "[J", true)
  | 48 => ("RingingChamberModel", "top", "I", false)
  | 49 => ("RingingChamberModel", "going", "[I", true)
  | 50 => ("RingingChamberModel", "goingMany", "I", false)
  | 51 => ("RingingChamberModel", "goingAt", "I", false)
  | 52 => ("RingingChamberModel", "foundItems", "[I", true)
  | 53 => ("RingingChamberModel", "foundMany", "I", false)
  | 54 => ("RingingChamberModel", "read", "[I", true)
  | 55 => ("RingingChamberModel", "readMany", "I", false)
  | 56 => ("RingingChamberModel", "readAt", "I", false)
  | 57 => ("RingingChamberModel", "places", "[I", true)
  | _ => ("RingingChamberModel", "some", "[J", true)
def kY12 : Nat → FieldType := fun k => match k with
  | 0 => .array (.int)
  | 1 => .int
  | 2 => .int
  | 3 => .int
  | 4 => .array (.int)
  | 5 => .int
  | 6 => .array (.int)
  | 7 => .array (.int)
  | 8 => .array (.int)
  | 9 => .array (.int)
  | 10 => .array (.int)
  | 11 => .array (.int)
  | 12 => .array (.int)
  | 13 => .array (.int)
  | 14 => .int
  | 15 => .int
  | 16 => .boolean
  | 17 => .array (.int)
  | 18 => .array (.int)
  | 19 => .int
  | 20 => .array (.long)
  | 21 => .int
  | 22 => .int
  | 23 => .array (.int)
  | 24 => .int
  | 25 => .int
  | 26 => .boolean
  | 27 => .int
  | 28 => .array (.int)
  | 29 => .array (.int)
  | 30 => .int
  | 31 => .array (.boolean)
  | 32 => .array (.int)
  | 33 => .boolean
  | 34 => .boolean
  | 35 => .int
  | 36 => .int
  | 37 => .int
  | 38 => .long
  | 39 => .int
  | 40 => .array (.int)
  | 41 => .int
  | 42 => .array (.byte)
  | 43 => .int
  | 44 => .boolean
  | 45 => .array (.int)
  | 46 => .array (.int)
  | 47 => .array (.long)
  | 48 => .int
  | 49 => .array (.int)
  | 50 => .int
  | 51 => .int
  | 52 => .array (.int)
  | 53 => .int
  | 54 => .array (.int)
  | 55 => .int
  | 56 => .int
  | 57 => .array (.int)
  | _ => .array (.long)
abbrev kCL : List vw_C := [("RingingChamber$Lead", kT0, 3), ("RingingChamber$Little", kT1, 6), ("RingingChamber$Plain", kT2, 6), ("RingingChamber$Principle", kT3, 6), ("RingingChamber$Rows", kT4, 4), ("RingingChamber$Search", kT5, 20), ("RingingChamber$Spliced", kT6, 8), ("RingingChamber$Surprise", kT7, 6), ("RingingChamber$Tape", kT8, 8), ("RingingChamber$Touch", kT9, 16), ("RingingChamber$Treble", kT10, 6), ("RingingChamber", kT11, 11), ("RingingChamberModel", kT12, 59)]
def kFT : List (List Nat) := [[2, 0, 0], [0, 2, 2, 2, 2, 0], [0, 2, 2, 2, 2, 0], [0, 2, 2, 2, 2, 0], [2, 2, 2, 0], [2, 2, 0, 0, 0, 1, 1, 1, 2, 2, 2, 2, 2, 2, 0, 2, 0, 0, 0, 0], [0, 2, 2, 2, 2, 0, 2, 0], [0, 2, 2, 2, 2, 0], [2, 0, 2, 0, 0, 0, 0, 0], [2, 2, 0, 0, 1, 2, 2, 0, 0, 0, 0, 0, 2, 0, 2, 0], [0, 2, 2, 2, 2, 0], [2, 2, 2, 0, 0, 0, 0, 2, 2, 2, 2], [2, 0, 0, 0, 2, 0, 2, 2, 2, 2, 2, 2, 2, 2, 0, 0, 0, 2, 2, 0, 2, 0, 0, 2, 0, 0, 0, 0, 2, 2, 0, 2, 2, 0, 0, 0, 0, 0, 1, 0, 2, 0, 2, 0, 0, 2, 2, 2, 0, 2, 0, 0, 2, 0, 2, 0, 0, 2, 2]]
def fty (t k : Nat) : Nat := (kFT.getD t []).getD k 0
def nfl (t : Nat) : Nat := (kFT.getD t []).length
def kTY (t : Nat) : Nat → FieldType := match t with
  | 0 => kY0
  | 1 => kY1
  | 2 => kY2
  | 3 => kY3
  | 4 => kY4
  | 5 => kY5
  | 6 => kY6
  | 7 => kY7
  | 8 => kY8
  | 9 => kY9
  | 10 => kY10
  | 11 => kY11
  | _ => kY12
def GT : List Cond := lw_tbl.filter goodWord
theorem gt_mem {w : Cond} (h : w ∈ lw_tbl) (g : goodWord w = true) : w ∈ GT := List.mem_filter.mpr ⟨h, g⟩
theorem gt_in {w : Cond} (h : w ∈ GT) : w ∈ lw_tbl := (List.mem_filter.mp h).1
theorem gt_good {w : Cond} (h : w ∈ GT) : goodWord w = true := (List.mem_filter.mp h).2
theorem gt_ws {ws : List Cond} (h : ws.all (fun w => goodWord w && lw_tbl.contains w) = true) : ∀ w ∈ ws, w ∈ GT := fun w hw => by
  have h1 := List.all_eq_true.mp h w hw
  rw [Bool.and_eq_true] at h1
  exact gt_mem (List.contains_iff_mem.mp h1.2) h1.1
theorem kW0 : ∀ w ∈ u_ws "RingingChamber$Lead" kT0 3, w ∈ GT := gt_ws (by decide +kernel)
theorem kW1 : ∀ w ∈ u_ws "RingingChamber$Little" kT1 6, w ∈ GT := gt_ws (by decide +kernel)
theorem kW2 : ∀ w ∈ u_ws "RingingChamber$Plain" kT2 6, w ∈ GT := gt_ws (by decide +kernel)
theorem kW3 : ∀ w ∈ u_ws "RingingChamber$Principle" kT3 6, w ∈ GT := gt_ws (by decide +kernel)
theorem kW4 : ∀ w ∈ u_ws "RingingChamber$Rows" kT4 4, w ∈ GT := gt_ws (by decide +kernel)
theorem kW5 : ∀ w ∈ u_ws "RingingChamber$Search" kT5 20, w ∈ GT := gt_ws (by decide +kernel)
theorem kW6 : ∀ w ∈ u_ws "RingingChamber$Spliced" kT6 8, w ∈ GT := gt_ws (by decide +kernel)
theorem kW7 : ∀ w ∈ u_ws "RingingChamber$Surprise" kT7 6, w ∈ GT := gt_ws (by decide +kernel)
theorem kW8 : ∀ w ∈ u_ws "RingingChamber$Tape" kT8 8, w ∈ GT := gt_ws (by decide +kernel)
theorem kW9 : ∀ w ∈ u_ws "RingingChamber$Touch" kT9 16, w ∈ GT := gt_ws (by decide +kernel)
theorem kW10 : ∀ w ∈ u_ws "RingingChamber$Treble" kT10 6, w ∈ GT := gt_ws (by decide +kernel)
theorem kW11 : ∀ w ∈ u_ws "RingingChamber" kT11 11, w ∈ GT := gt_ws (by decide +kernel)
theorem kW12 : ∀ w ∈ u_ws "RingingChamberModel" kT12 59, w ∈ GT := gt_ws (by decide +kernel)
theorem k_cases {P : Nat → vw_C → Prop} (h0 : P 0 ("RingingChamber$Lead", kT0, 3)) (h1 : P 1 ("RingingChamber$Little", kT1, 6)) (h2 : P 2 ("RingingChamber$Plain", kT2, 6)) (h3 : P 3 ("RingingChamber$Principle", kT3, 6)) (h4 : P 4 ("RingingChamber$Rows", kT4, 4)) (h5 : P 5 ("RingingChamber$Search", kT5, 20)) (h6 : P 6 ("RingingChamber$Spliced", kT6, 8)) (h7 : P 7 ("RingingChamber$Surprise", kT7, 6)) (h8 : P 8 ("RingingChamber$Tape", kT8, 8)) (h9 : P 9 ("RingingChamber$Touch", kT9, 16)) (h10 : P 10 ("RingingChamber$Treble", kT10, 6)) (h11 : P 11 ("RingingChamber", kT11, 11)) (h12 : P 12 ("RingingChamberModel", kT12, 59)) : ∀ (t : Nat) (r : vw_C), kCL[t]? = some r → P t r := by
  intro t r h
  match t, h with
  | 0, h => cases h; exact h0
  | 1, h => cases h; exact h1
  | 2, h => cases h; exact h2
  | 3, h => cases h; exact h3
  | 4, h => cases h; exact h4
  | 5, h => cases h; exact h5
  | 6, h => cases h; exact h6
  | 7, h => cases h; exact h7
  | 8, h => cases h; exact h8
  | 9, h => cases h; exact h9
  | 10, h => cases h; exact h10
  | 11, h => cases h; exact h11
  | 12, h => cases h; exact h12
  | n + 13, h => simp [kCL] at h
theorem k_in : ∀ (t : Nat) (r : vw_C), kCL[t]? = some r → ∀ w ∈ u_ws r.1 r.2.1 r.2.2, w ∈ GT := k_cases kW0 kW1 kW2 kW3 kW4 kW5 kW6 kW7 kW8 kW9 kW10 kW11 kW12
theorem k_ty : ∀ (t : Nat) (r : vw_C), kCL[t]? = some r → ∀ k, k < r.2.2 → parseFieldDescriptor (r.2.1 k).2.2.1 = some (kTY t k) := k_cases (by decide +kernel) (by decide +kernel) (by decide +kernel) (by decide +kernel) (by decide +kernel) (by decide +kernel) (by decide +kernel) (by decide +kernel) (by decide +kernel) (by decide +kernel) (by decide +kernel) (by decide +kernel) (by decide +kernel)
theorem k_nm : ∀ (t : Nat) (r : vw_C), kCL[t]? = some r → ∀ a, a < r.2.2 → ∀ b, b < r.2.2 → a ≠ b → (r.2.1 a).2.1 ≠ (r.2.1 b).2.1 := k_cases (by decide +kernel) (by decide +kernel) (by decide +kernel) (by decide +kernel) (by decide +kernel) (by decide +kernel) (by decide +kernel) (by decide +kernel) (by decide +kernel) (by decide +kernel) (by decide +kernel) (by decide +kernel) (by decide +kernel)
theorem k_n : ∀ (t : Nat) (r : vw_C), kCL[t]? = some r → r.2.2 = nfl t := k_cases (by decide +kernel) (by decide +kernel) (by decide +kernel) (by decide +kernel) (by decide +kernel) (by decide +kernel) (by decide +kernel) (by decide +kernel) (by decide +kernel) (by decide +kernel) (by decide +kernel) (by decide +kernel) (by decide +kernel)
theorem k_lt : ∀ (t : Nat) (r : vw_C), kCL[t]? = some r → t < 13 := k_cases (by decide) (by decide) (by decide) (by decide) (by decide) (by decide) (by decide) (by decide) (by decide) (by decide) (by decide) (by decide) (by decide)
theorem k_inst : ∀ (t : Nat) (r : vw_C), kCL[t]? = some r → Cond.instantiable r.1 r.2.2 ∈ GT ∧ Cond.initialized r.1 ∈ GT := k_cases ⟨gt_mem (List.contains_iff_mem.mp (by decide +kernel)) (by decide +kernel), gt_mem (List.contains_iff_mem.mp (by decide +kernel)) (by decide +kernel)⟩ ⟨gt_mem (List.contains_iff_mem.mp (by decide +kernel)) (by decide +kernel), gt_mem (List.contains_iff_mem.mp (by decide +kernel)) (by decide +kernel)⟩ ⟨gt_mem (List.contains_iff_mem.mp (by decide +kernel)) (by decide +kernel), gt_mem (List.contains_iff_mem.mp (by decide +kernel)) (by decide +kernel)⟩ ⟨gt_mem (List.contains_iff_mem.mp (by decide +kernel)) (by decide +kernel), gt_mem (List.contains_iff_mem.mp (by decide +kernel)) (by decide +kernel)⟩ ⟨gt_mem (List.contains_iff_mem.mp (by decide +kernel)) (by decide +kernel), gt_mem (List.contains_iff_mem.mp (by decide +kernel)) (by decide +kernel)⟩ ⟨gt_mem (List.contains_iff_mem.mp (by decide +kernel)) (by decide +kernel), gt_mem (List.contains_iff_mem.mp (by decide +kernel)) (by decide +kernel)⟩ ⟨gt_mem (List.contains_iff_mem.mp (by decide +kernel)) (by decide +kernel), gt_mem (List.contains_iff_mem.mp (by decide +kernel)) (by decide +kernel)⟩ ⟨gt_mem (List.contains_iff_mem.mp (by decide +kernel)) (by decide +kernel), gt_mem (List.contains_iff_mem.mp (by decide +kernel)) (by decide +kernel)⟩ ⟨gt_mem (List.contains_iff_mem.mp (by decide +kernel)) (by decide +kernel), gt_mem (List.contains_iff_mem.mp (by decide +kernel)) (by decide +kernel)⟩ ⟨gt_mem (List.contains_iff_mem.mp (by decide +kernel)) (by decide +kernel), gt_mem (List.contains_iff_mem.mp (by decide +kernel)) (by decide +kernel)⟩ ⟨gt_mem (List.contains_iff_mem.mp (by decide +kernel)) (by decide +kernel), gt_mem (List.contains_iff_mem.mp (by decide +kernel)) (by decide +kernel)⟩ ⟨gt_mem (List.contains_iff_mem.mp (by decide +kernel)) (by decide +kernel), gt_mem (List.contains_iff_mem.mp (by decide +kernel)) (by decide +kernel)⟩ ⟨gt_mem (List.contains_iff_mem.mp (by decide +kernel)) (by decide +kernel), gt_mem (List.contains_iff_mem.mp (by decide +kernel)) (by decide +kernel)⟩
theorem k_at {t : Nat} (h : t < 13) : ∃ r, kCL[t]? = some r := ⟨kCL[t]'(by simpa [kCL] using h), List.getElem?_eq_getElem _⟩
end
