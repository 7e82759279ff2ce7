section
-- ===== PART A: goes FIRST, ahead of the names: the tables' words, and 'selects' of the private methods out of them =====
/-- a private method of a class that the tables say can be made, by its rows of tables_1 -/
def lw_okq (q : MethodName × Nat) : Prop := (q.1.cls ≠ "java/lang/invoke/MethodHandle" ∧ q.1.cls ≠ "java/lang/invoke/VarHandle") ∧ Cond.instantiable q.1.cls q.2 ∈ tables_1 ∧ Cond.privateMethod q.1 ∈ tables_1 ∧ Cond.instanceMethod q.1 ∈ tables_1
theorem lw_p0 : lw_okq (⟨"RingingChamber", "newMethod", "(I)LRingingChamber$Method;"⟩, 11) := ⟨⟨by decide +kernel, by decide +kernel⟩, List.mem_of_getElem? (i := 20) (by decide +kernel), List.mem_of_getElem? (i := 351) (by decide +kernel), List.mem_of_getElem? (i := 352) (by decide +kernel)⟩
theorem lw_p1 : lw_okq (⟨"RingingChamber", "methodAt", "(I)LRingingChamber$Method;"⟩, 11) := ⟨⟨by decide +kernel, by decide +kernel⟩, List.mem_of_getElem? (i := 20) (by decide +kernel), List.mem_of_getElem? (i := 498) (by decide +kernel), List.mem_of_getElem? (i := 499) (by decide +kernel)⟩
theorem lw_p2 : lw_okq (⟨"RingingChamber", "finds", "(II)I"⟩, 11) := ⟨⟨by decide +kernel, by decide +kernel⟩, List.mem_of_getElem? (i := 20) (by decide +kernel), List.mem_of_getElem? (i := 502) (by decide +kernel), List.mem_of_getElem? (i := 503) (by decide +kernel)⟩
theorem lw_p3 : lw_okq (⟨"RingingChamber$Tape", "takes", "(II)Z"⟩, 8) := ⟨⟨by decide +kernel, by decide +kernel⟩, List.mem_of_getElem? (i := 28) (by decide +kernel), List.mem_of_getElem? (i := 510) (by decide +kernel), List.mem_of_getElem? (i := 511) (by decide +kernel)⟩
theorem lw_p4 : lw_okq (⟨"RingingChamber$Tape", "takesCross", "(I)Z"⟩, 8) := ⟨⟨by decide +kernel, by decide +kernel⟩, List.mem_of_getElem? (i := 28) (by decide +kernel), List.mem_of_getElem? (i := 514) (by decide +kernel), List.mem_of_getElem? (i := 515) (by decide +kernel)⟩
theorem lw_p5 : lw_okq (⟨"RingingChamber$Tape", "closePlaces", "(I)V"⟩, 8) := ⟨⟨by decide +kernel, by decide +kernel⟩, List.mem_of_getElem? (i := 28) (by decide +kernel), List.mem_of_getElem? (i := 518) (by decide +kernel), List.mem_of_getElem? (i := 519) (by decide +kernel)⟩
theorem lw_p6 : lw_okq (⟨"RingingChamber$Tape", "tell", "(I)V"⟩, 8) := ⟨⟨by decide +kernel, by decide +kernel⟩, List.mem_of_getElem? (i := 28) (by decide +kernel), List.mem_of_getElem? (i := 525) (by decide +kernel), List.mem_of_getElem? (i := 526) (by decide +kernel)⟩
theorem lw_p7 : lw_okq (⟨"RingingChamber$Tape", "takesDot", "(I)Z"⟩, 8) := ⟨⟨by decide +kernel, by decide +kernel⟩, List.mem_of_getElem? (i := 28) (by decide +kernel), List.mem_of_getElem? (i := 529) (by decide +kernel), List.mem_of_getElem? (i := 530) (by decide +kernel)⟩
theorem lw_p8 : lw_okq (⟨"RingingChamber$Tape", "takesComma", "(I)Z"⟩, 8) := ⟨⟨by decide +kernel, by decide +kernel⟩, List.mem_of_getElem? (i := 28) (by decide +kernel), List.mem_of_getElem? (i := 533) (by decide +kernel), List.mem_of_getElem? (i := 534) (by decide +kernel)⟩
theorem lw_p9 : lw_okq (⟨"RingingChamber$Tape", "canCloseBlock", "()Z"⟩, 8) := ⟨⟨by decide +kernel, by decide +kernel⟩, List.mem_of_getElem? (i := 28) (by decide +kernel), List.mem_of_getElem? (i := 537) (by decide +kernel), List.mem_of_getElem? (i := 538) (by decide +kernel)⟩
theorem lw_p10 : lw_okq (⟨"RingingChamber$Tape", "takesPlace", "(II)Z"⟩, 8) := ⟨⟨by decide +kernel, by decide +kernel⟩, List.mem_of_getElem? (i := 28) (by decide +kernel), List.mem_of_getElem? (i := 544) (by decide +kernel), List.mem_of_getElem? (i := 545) (by decide +kernel)⟩
theorem lw_p11 : lw_okq (⟨"RingingChamber$Tape", "write", "(LRingingChamber$Lead;)V"⟩, 8) := ⟨⟨by decide +kernel, by decide +kernel⟩, List.mem_of_getElem? (i := 28) (by decide +kernel), List.mem_of_getElem? (i := 548) (by decide +kernel), List.mem_of_getElem? (i := 549) (by decide +kernel)⟩
theorem lw_p12 : lw_okq (⟨"RingingChamber$Spliced", "partOf", "(I)LRingingChamber$Method;"⟩, 8) := ⟨⟨by decide +kernel, by decide +kernel⟩, List.mem_of_getElem? (i := 472) (by decide +kernel), List.mem_of_getElem? (i := 627) (by decide +kernel), List.mem_of_getElem? (i := 628) (by decide +kernel)⟩
theorem lw_p13 : lw_okq (⟨"RingingChamber$Little", "trebleKeepsOffLastPlace", "(LRingingChamber$Lead;)Z"⟩, 6) := ⟨⟨by decide +kernel, by decide +kernel⟩, List.mem_of_getElem? (i := 420) (by decide +kernel), List.mem_of_getElem? (i := 671) (by decide +kernel), List.mem_of_getElem? (i := 672) (by decide +kernel)⟩
theorem lw_p14 : lw_okq (⟨"RingingChamber$Treble", "trebleIsAsOftenAtEachPlace", "(LRingingChamber$Lead;)Z"⟩, 6) := ⟨⟨by decide +kernel, by decide +kernel⟩, List.mem_of_getElem? (i := 433) (by decide +kernel), List.mem_of_getElem? (i := 698) (by decide +kernel), List.mem_of_getElem? (i := 699) (by decide +kernel)⟩
theorem lw_p15 : lw_okq (⟨"RingingChamber$Surprise", "hasPlacesWhereTrebleCrosses", "(LRingingChamber$Lead;)Z"⟩, 6) := ⟨⟨by decide +kernel, by decide +kernel⟩, List.mem_of_getElem? (i := 446) (by decide +kernel), List.mem_of_getElem? (i := 704) (by decide +kernel), List.mem_of_getElem? (i := 705) (by decide +kernel)⟩
def lw_privs_1 : List (MethodName × Nat) := [(⟨"RingingChamber", "newMethod", "(I)LRingingChamber$Method;"⟩, 11), (⟨"RingingChamber", "methodAt", "(I)LRingingChamber$Method;"⟩, 11), (⟨"RingingChamber", "finds", "(II)I"⟩, 11), (⟨"RingingChamber$Tape", "takes", "(II)Z"⟩, 8), (⟨"RingingChamber$Tape", "takesCross", "(I)Z"⟩, 8), (⟨"RingingChamber$Tape", "closePlaces", "(I)V"⟩, 8), (⟨"RingingChamber$Tape", "tell", "(I)V"⟩, 8), (⟨"RingingChamber$Tape", "takesDot", "(I)Z"⟩, 8), (⟨"RingingChamber$Tape", "takesComma", "(I)Z"⟩, 8), (⟨"RingingChamber$Tape", "canCloseBlock", "()Z"⟩, 8), (⟨"RingingChamber$Tape", "takesPlace", "(II)Z"⟩, 8), (⟨"RingingChamber$Tape", "write", "(LRingingChamber$Lead;)V"⟩, 8), (⟨"RingingChamber$Spliced", "partOf", "(I)LRingingChamber$Method;"⟩, 8), (⟨"RingingChamber$Little", "trebleKeepsOffLastPlace", "(LRingingChamber$Lead;)Z"⟩, 6), (⟨"RingingChamber$Treble", "trebleIsAsOftenAtEachPlace", "(LRingingChamber$Lead;)Z"⟩, 6), (⟨"RingingChamber$Surprise", "hasPlacesWhereTrebleCrosses", "(LRingingChamber$Lead;)Z"⟩, 6)]
theorem lw_r1 : ∀ q ∈ lw_privs_1, lw_okq q := List.forall_mem_cons.mpr ⟨lw_p0, List.forall_mem_cons.mpr ⟨lw_p1, List.forall_mem_cons.mpr ⟨lw_p2, List.forall_mem_cons.mpr ⟨lw_p3, List.forall_mem_cons.mpr ⟨lw_p4, List.forall_mem_cons.mpr ⟨lw_p5, List.forall_mem_cons.mpr ⟨lw_p6, List.forall_mem_cons.mpr ⟨lw_p7, List.forall_mem_cons.mpr ⟨lw_p8, List.forall_mem_cons.mpr ⟨lw_p9, List.forall_mem_cons.mpr ⟨lw_p10, List.forall_mem_cons.mpr ⟨lw_p11, List.forall_mem_cons.mpr ⟨lw_p12, List.forall_mem_cons.mpr ⟨lw_p13, List.forall_mem_cons.mpr ⟨lw_p14, List.forall_mem_cons.mpr ⟨lw_p15, fun _ h => absurd h List.not_mem_nil⟩⟩⟩⟩⟩⟩⟩⟩⟩⟩⟩⟩⟩⟩⟩⟩
theorem lw_p16 : lw_okq (⟨"RingingChamber$Surprise", "hasInnerPlace", "(I)Z"⟩, 6) := ⟨⟨by decide +kernel, by decide +kernel⟩, List.mem_of_getElem? (i := 446) (by decide +kernel), List.mem_of_getElem? (i := 713) (by decide +kernel), List.mem_of_getElem? (i := 714) (by decide +kernel)⟩
theorem lw_p17 : lw_okq (⟨"RingingChamber", "findsRow", "(J)J"⟩, 11) := ⟨⟨by decide +kernel, by decide +kernel⟩, List.mem_of_getElem? (i := 20) (by decide +kernel), List.mem_of_getElem? (i := 732) (by decide +kernel), List.mem_of_getElem? (i := 733) (by decide +kernel)⟩
theorem lw_p18 : lw_okq (⟨"RingingChamber", "sharedRows", "(LRingingChamber$Lead;J)I"⟩, 11) := ⟨⟨by decide +kernel, by decide +kernel⟩, List.mem_of_getElem? (i := 20) (by decide +kernel), List.mem_of_getElem? (i := 772) (by decide +kernel), List.mem_of_getElem? (i := 773) (by decide +kernel)⟩
theorem lw_p19 : lw_okq (⟨"RingingChamber$Touch", "ringRow", "()V"⟩, 16) := ⟨⟨by decide +kernel, by decide +kernel⟩, List.mem_of_getElem? (i := 64) (by decide +kernel), List.mem_of_getElem? (i := 861) (by decide +kernel), List.mem_of_getElem? (i := 862) (by decide +kernel)⟩
theorem lw_p20 : lw_okq (⟨"RingingChamber$Touch", "beginItem", "()I"⟩, 16) := ⟨⟨by decide +kernel, by decide +kernel⟩, List.mem_of_getElem? (i := 64) (by decide +kernel), List.mem_of_getElem? (i := 871) (by decide +kernel), List.mem_of_getElem? (i := 872) (by decide +kernel)⟩
theorem lw_p21 : lw_okq (⟨"RingingChamber$Touch", "orderNumbers", "()I"⟩, 16) := ⟨⟨by decide +kernel, by decide +kernel⟩, List.mem_of_getElem? (i := 64) (by decide +kernel), List.mem_of_getElem? (i := 897) (by decide +kernel), List.mem_of_getElem? (i := 898) (by decide +kernel)⟩
theorem lw_p22 : lw_okq (⟨"RingingChamber$Touch", "provableRows", "()I"⟩, 16) := ⟨⟨by decide +kernel, by decide +kernel⟩, List.mem_of_getElem? (i := 64) (by decide +kernel), List.mem_of_getElem? (i := 901) (by decide +kernel), List.mem_of_getElem? (i := 902) (by decide +kernel)⟩
theorem lw_p23 : lw_okq (⟨"RingingChamber$Touch", "heapSort", "(I)V"⟩, 16) := ⟨⟨by decide +kernel, by decide +kernel⟩, List.mem_of_getElem? (i := 64) (by decide +kernel), List.mem_of_getElem? (i := 906) (by decide +kernel), List.mem_of_getElem? (i := 907) (by decide +kernel)⟩
theorem lw_p24 : lw_okq (⟨"RingingChamber$Touch", "sink", "(II)V"⟩, 16) := ⟨⟨by decide +kernel, by decide +kernel⟩, List.mem_of_getElem? (i := 64) (by decide +kernel), List.mem_of_getElem? (i := 910) (by decide +kernel), List.mem_of_getElem? (i := 911) (by decide +kernel)⟩
theorem lw_p25 : lw_okq (⟨"RingingChamber$Search", "openPlace", "()V"⟩, 20) := ⟨⟨by decide +kernel, by decide +kernel⟩, List.mem_of_getElem? (i := 191) (by decide +kernel), List.mem_of_getElem? (i := 979) (by decide +kernel), List.mem_of_getElem? (i := 980) (by decide +kernel)⟩
theorem lw_p26 : lw_okq (⟨"RingingChamber$Search", "ringRow", "(LRingingChamber$Lead;)V"⟩, 20) := ⟨⟨by decide +kernel, by decide +kernel⟩, List.mem_of_getElem? (i := 191) (by decide +kernel), List.mem_of_getElem? (i := 992) (by decide +kernel), List.mem_of_getElem? (i := 993) (by decide +kernel)⟩
theorem lw_p27 : lw_okq (⟨"RingingChamber$Search", "leaveItem", "()V"⟩, 20) := ⟨⟨by decide +kernel, by decide +kernel⟩, List.mem_of_getElem? (i := 191) (by decide +kernel), List.mem_of_getElem? (i := 999) (by decide +kernel), List.mem_of_getElem? (i := 1000) (by decide +kernel)⟩
theorem lw_p28 : lw_okq (⟨"RingingChamber$Search", "takesNextChoice", "()Z"⟩, 20) := ⟨⟨by decide +kernel, by decide +kernel⟩, List.mem_of_getElem? (i := 191) (by decide +kernel), List.mem_of_getElem? (i := 1003) (by decide +kernel), List.mem_of_getElem? (i := 1004) (by decide +kernel)⟩
theorem lw_p29 : lw_okq (⟨"RingingChamber$Search", "lookAtItem", "(ILRingingChamber$Method;)V"⟩, 20) := ⟨⟨by decide +kernel, by decide +kernel⟩, List.mem_of_getElem? (i := 191) (by decide +kernel), List.mem_of_getElem? (i := 1007) (by decide +kernel), List.mem_of_getElem? (i := 1008) (by decide +kernel)⟩
theorem lw_p30 : lw_okq (⟨"RingingChamberModel", "begin", "(I)V"⟩, 59) := ⟨⟨by decide +kernel, by decide +kernel⟩, List.mem_of_getElem? (i := 1033) (by decide +kernel), List.mem_of_getElem? (i := 1039) (by decide +kernel), List.mem_of_getElem? (i := 1040) (by decide +kernel)⟩
theorem lw_p31 : lw_okq (⟨"RingingChamberModel", "anew", "()V"⟩, 59) := ⟨⟨by decide +kernel, by decide +kernel⟩, List.mem_of_getElem? (i := 1033) (by decide +kernel), List.mem_of_getElem? (i := 1043) (by decide +kernel), List.mem_of_getElem? (i := 1044) (by decide +kernel)⟩
def lw_privs_2 : List (MethodName × Nat) := [(⟨"RingingChamber$Surprise", "hasInnerPlace", "(I)Z"⟩, 6), (⟨"RingingChamber", "findsRow", "(J)J"⟩, 11), (⟨"RingingChamber", "sharedRows", "(LRingingChamber$Lead;J)I"⟩, 11), (⟨"RingingChamber$Touch", "ringRow", "()V"⟩, 16), (⟨"RingingChamber$Touch", "beginItem", "()I"⟩, 16), (⟨"RingingChamber$Touch", "orderNumbers", "()I"⟩, 16), (⟨"RingingChamber$Touch", "provableRows", "()I"⟩, 16), (⟨"RingingChamber$Touch", "heapSort", "(I)V"⟩, 16), (⟨"RingingChamber$Touch", "sink", "(II)V"⟩, 16), (⟨"RingingChamber$Search", "openPlace", "()V"⟩, 20), (⟨"RingingChamber$Search", "ringRow", "(LRingingChamber$Lead;)V"⟩, 20), (⟨"RingingChamber$Search", "leaveItem", "()V"⟩, 20), (⟨"RingingChamber$Search", "takesNextChoice", "()Z"⟩, 20), (⟨"RingingChamber$Search", "lookAtItem", "(ILRingingChamber$Method;)V"⟩, 20), (⟨"RingingChamberModel", "begin", "(I)V"⟩, 59), (⟨"RingingChamberModel", "anew", "()V"⟩, 59)]
theorem lw_r2 : ∀ q ∈ lw_privs_2, lw_okq q := List.forall_mem_cons.mpr ⟨lw_p16, List.forall_mem_cons.mpr ⟨lw_p17, List.forall_mem_cons.mpr ⟨lw_p18, List.forall_mem_cons.mpr ⟨lw_p19, List.forall_mem_cons.mpr ⟨lw_p20, List.forall_mem_cons.mpr ⟨lw_p21, List.forall_mem_cons.mpr ⟨lw_p22, List.forall_mem_cons.mpr ⟨lw_p23, List.forall_mem_cons.mpr ⟨lw_p24, List.forall_mem_cons.mpr ⟨lw_p25, List.forall_mem_cons.mpr ⟨lw_p26, List.forall_mem_cons.mpr ⟨lw_p27, List.forall_mem_cons.mpr ⟨lw_p28, List.forall_mem_cons.mpr ⟨lw_p29, List.forall_mem_cons.mpr ⟨lw_p30, List.forall_mem_cons.mpr ⟨lw_p31, fun _ h => absurd h List.not_mem_nil⟩⟩⟩⟩⟩⟩⟩⟩⟩⟩⟩⟩⟩⟩⟩⟩
theorem lw_p32 : lw_okq (⟨"RingingChamberModel", "rounds", "()J"⟩, 59) := ⟨⟨by decide +kernel, by decide +kernel⟩, List.mem_of_getElem? (i := 1033) (by decide +kernel), List.mem_of_getElem? (i := 1047) (by decide +kernel), List.mem_of_getElem? (i := 1048) (by decide +kernel)⟩
theorem lw_p33 : lw_okq (⟨"RingingChamberModel", "isMethod", "(I)Z"⟩, 59) := ⟨⟨by decide +kernel, by decide +kernel⟩, List.mem_of_getElem? (i := 1033) (by decide +kernel), List.mem_of_getElem? (i := 1251) (by decide +kernel), List.mem_of_getElem? (i := 1252) (by decide +kernel)⟩
theorem lw_p34 : lw_okq (⟨"RingingChamberModel", "finds", "(I)Z"⟩, 59) := ⟨⟨by decide +kernel, by decide +kernel⟩, List.mem_of_getElem? (i := 1033) (by decide +kernel), List.mem_of_getElem? (i := 1255) (by decide +kernel), List.mem_of_getElem? (i := 1256) (by decide +kernel)⟩
theorem lw_p35 : lw_okq (⟨"RingingChamberModel", "block", "(I)Z"⟩, 59) := ⟨⟨by decide +kernel, by decide +kernel⟩, List.mem_of_getElem? (i := 1033) (by decide +kernel), List.mem_of_getElem? (i := 1259) (by decide +kernel), List.mem_of_getElem? (i := 1260) (by decide +kernel)⟩
theorem lw_p36 : lw_okq (⟨"RingingChamberModel", "cross", "()I"⟩, 59) := ⟨⟨by decide +kernel, by decide +kernel⟩, List.mem_of_getElem? (i := 1033) (by decide +kernel), List.mem_of_getElem? (i := 1266) (by decide +kernel), List.mem_of_getElem? (i := 1267) (by decide +kernel)⟩
theorem lw_p37 : lw_okq (⟨"RingingChamberModel", "places", "()Z"⟩, 59) := ⟨⟨by decide +kernel, by decide +kernel⟩, List.mem_of_getElem? (i := 1033) (by decide +kernel), List.mem_of_getElem? (i := 1270) (by decide +kernel), List.mem_of_getElem? (i := 1271) (by decide +kernel)⟩
theorem lw_p38 : lw_okq (⟨"RingingChamberModel", "turned", "(I)V"⟩, 59) := ⟨⟨by decide +kernel, by decide +kernel⟩, List.mem_of_getElem? (i := 1033) (by decide +kernel), List.mem_of_getElem? (i := 1274) (by decide +kernel), List.mem_of_getElem? (i := 1275) (by decide +kernel)⟩
theorem lw_p39 : lw_okq (⟨"RingingChamberModel", "isChange", "(I)Z"⟩, 59) := ⟨⟨by decide +kernel, by decide +kernel⟩, List.mem_of_getElem? (i := 1033) (by decide +kernel), List.mem_of_getElem? (i := 1286) (by decide +kernel), List.mem_of_getElem? (i := 1287) (by decide +kernel)⟩
theorem lw_p40 : lw_okq (⟨"RingingChamberModel", "calledOf", "(III)Z"⟩, 59) := ⟨⟨by decide +kernel, by decide +kernel⟩, List.mem_of_getElem? (i := 1033) (by decide +kernel), List.mem_of_getElem? (i := 1298) (by decide +kernel), List.mem_of_getElem? (i := 1299) (by decide +kernel)⟩
theorem lw_p41 : lw_okq (⟨"RingingChamberModel", "count", "(II)V"⟩, 59) := ⟨⟨by decide +kernel, by decide +kernel⟩, List.mem_of_getElem? (i := 1033) (by decide +kernel), List.mem_of_getElem? (i := 1302) (by decide +kernel), List.mem_of_getElem? (i := 1303) (by decide +kernel)⟩
theorem lw_p42 : lw_okq (⟨"RingingChamberModel", "isAmiss", "(I)Z"⟩, 59) := ⟨⟨by decide +kernel, by decide +kernel⟩, List.mem_of_getElem? (i := 1033) (by decide +kernel), List.mem_of_getElem? (i := 1306) (by decide +kernel), List.mem_of_getElem? (i := 1307) (by decide +kernel)⟩
theorem lw_p43 : lw_okq (⟨"RingingChamberModel", "partOf", "(II)I"⟩, 59) := ⟨⟨by decide +kernel, by decide +kernel⟩, List.mem_of_getElem? (i := 1033) (by decide +kernel), List.mem_of_getElem? (i := 1310) (by decide +kernel), List.mem_of_getElem? (i := 1311) (by decide +kernel)⟩
theorem lw_p44 : lw_okq (⟨"RingingChamberModel", "leadOf", "(II)Z"⟩, 59) := ⟨⟨by decide +kernel, by decide +kernel⟩, List.mem_of_getElem? (i := 1033) (by decide +kernel), List.mem_of_getElem? (i := 1314) (by decide +kernel), List.mem_of_getElem? (i := 1315) (by decide +kernel)⟩
theorem lw_p45 : lw_okq (⟨"RingingChamberModel", "judgeOf", "(I)I"⟩, 59) := ⟨⟨by decide +kernel, by decide +kernel⟩, List.mem_of_getElem? (i := 1033) (by decide +kernel), List.mem_of_getElem? (i := 1322) (by decide +kernel), List.mem_of_getElem? (i := 1323) (by decide +kernel)⟩
theorem lw_p46 : lw_okq (⟨"RingingChamberModel", "behind", "(JI)J"⟩, 59) := ⟨⟨by decide +kernel, by decide +kernel⟩, List.mem_of_getElem? (i := 1033) (by decide +kernel), List.mem_of_getElem? (i := 1326) (by decide +kernel), List.mem_of_getElem? (i := 1327) (by decide +kernel)⟩
theorem lw_p47 : lw_okq (⟨"RingingChamberModel", "hunt", "()V"⟩, 59) := ⟨⟨by decide +kernel, by decide +kernel⟩, List.mem_of_getElem? (i := 1033) (by decide +kernel), List.mem_of_getElem? (i := 1336) (by decide +kernel), List.mem_of_getElem? (i := 1337) (by decide +kernel)⟩
def lw_privs_3 : List (MethodName × Nat) := [(⟨"RingingChamberModel", "rounds", "()J"⟩, 59), (⟨"RingingChamberModel", "isMethod", "(I)Z"⟩, 59), (⟨"RingingChamberModel", "finds", "(I)Z"⟩, 59), (⟨"RingingChamberModel", "block", "(I)Z"⟩, 59), (⟨"RingingChamberModel", "cross", "()I"⟩, 59), (⟨"RingingChamberModel", "places", "()Z"⟩, 59), (⟨"RingingChamberModel", "turned", "(I)V"⟩, 59), (⟨"RingingChamberModel", "isChange", "(I)Z"⟩, 59), (⟨"RingingChamberModel", "calledOf", "(III)Z"⟩, 59), (⟨"RingingChamberModel", "count", "(II)V"⟩, 59), (⟨"RingingChamberModel", "isAmiss", "(I)Z"⟩, 59), (⟨"RingingChamberModel", "partOf", "(II)I"⟩, 59), (⟨"RingingChamberModel", "leadOf", "(II)Z"⟩, 59), (⟨"RingingChamberModel", "judgeOf", "(I)I"⟩, 59), (⟨"RingingChamberModel", "behind", "(JI)J"⟩, 59), (⟨"RingingChamberModel", "hunt", "()V"⟩, 59)]
theorem lw_r3 : ∀ q ∈ lw_privs_3, lw_okq q := List.forall_mem_cons.mpr ⟨lw_p32, List.forall_mem_cons.mpr ⟨lw_p33, List.forall_mem_cons.mpr ⟨lw_p34, List.forall_mem_cons.mpr ⟨lw_p35, List.forall_mem_cons.mpr ⟨lw_p36, List.forall_mem_cons.mpr ⟨lw_p37, List.forall_mem_cons.mpr ⟨lw_p38, List.forall_mem_cons.mpr ⟨lw_p39, List.forall_mem_cons.mpr ⟨lw_p40, List.forall_mem_cons.mpr ⟨lw_p41, List.forall_mem_cons.mpr ⟨lw_p42, List.forall_mem_cons.mpr ⟨lw_p43, List.forall_mem_cons.mpr ⟨lw_p44, List.forall_mem_cons.mpr ⟨lw_p45, List.forall_mem_cons.mpr ⟨lw_p46, List.forall_mem_cons.mpr ⟨lw_p47, fun _ h => absurd h List.not_mem_nil⟩⟩⟩⟩⟩⟩⟩⟩⟩⟩⟩⟩⟩⟩⟩⟩
theorem lw_p48 : lw_okq (⟨"RingingChamberModel", "placeOfOne", "(J)I"⟩, 59) := ⟨⟨by decide +kernel, by decide +kernel⟩, List.mem_of_getElem? (i := 1033) (by decide +kernel), List.mem_of_getElem? (i := 1340) (by decide +kernel), List.mem_of_getElem? (i := 1341) (by decide +kernel)⟩
theorem lw_p49 : lw_okq (⟨"RingingChamberModel", "isEven", "()Z"⟩, 59) := ⟨⟨by decide +kernel, by decide +kernel⟩, List.mem_of_getElem? (i := 1033) (by decide +kernel), List.mem_of_getElem? (i := 1344) (by decide +kernel), List.mem_of_getElem? (i := 1345) (by decide +kernel)⟩
theorem lw_p50 : lw_okq (⟨"RingingChamberModel", "isSurprising", "()Z"⟩, 59) := ⟨⟨by decide +kernel, by decide +kernel⟩, List.mem_of_getElem? (i := 1033) (by decide +kernel), List.mem_of_getElem? (i := 1348) (by decide +kernel), List.mem_of_getElem? (i := 1349) (by decide +kernel)⟩
theorem lw_p51 : lw_okq (⟨"RingingChamberModel", "staysWithin", "(I)Z"⟩, 59) := ⟨⟨by decide +kernel, by decide +kernel⟩, List.mem_of_getElem? (i := 1033) (by decide +kernel), List.mem_of_getElem? (i := 1353) (by decide +kernel), List.mem_of_getElem? (i := 1354) (by decide +kernel)⟩
theorem lw_p52 : lw_okq (⟨"RingingChamberModel", "orderOf", "(J)I"⟩, 59) := ⟨⟨by decide +kernel, by decide +kernel⟩, List.mem_of_getElem? (i := 1033) (by decide +kernel), List.mem_of_getElem? (i := 1365) (by decide +kernel), List.mem_of_getElem? (i := 1366) (by decide +kernel)⟩
theorem lw_p53 : lw_okq (⟨"RingingChamberModel", "times", "(JJ)J"⟩, 59) := ⟨⟨by decide +kernel, by decide +kernel⟩, List.mem_of_getElem? (i := 1033) (by decide +kernel), List.mem_of_getElem? (i := 1369) (by decide +kernel), List.mem_of_getElem? (i := 1370) (by decide +kernel)⟩
theorem lw_p54 : lw_okq (⟨"RingingChamberModel", "isRow", "(J)Z"⟩, 59) := ⟨⟨by decide +kernel, by decide +kernel⟩, List.mem_of_getElem? (i := 1033) (by decide +kernel), List.mem_of_getElem? (i := 1377) (by decide +kernel), List.mem_of_getElem? (i := 1378) (by decide +kernel)⟩
theorem lw_p55 : lw_okq (⟨"RingingChamberModel", "numberOf", "(J)I"⟩, 59) := ⟨⟨by decide +kernel, by decide +kernel⟩, List.mem_of_getElem? (i := 1033) (by decide +kernel), List.mem_of_getElem? (i := 1393) (by decide +kernel), List.mem_of_getElem? (i := 1394) (by decide +kernel)⟩
theorem lw_p56 : lw_okq (⟨"RingingChamberModel", "all", "()I"⟩, 59) := ⟨⟨by decide +kernel, by decide +kernel⟩, List.mem_of_getElem? (i := 1033) (by decide +kernel), List.mem_of_getElem? (i := 1401) (by decide +kernel), List.mem_of_getElem? (i := 1402) (by decide +kernel)⟩
theorem lw_p57 : lw_okq (⟨"RingingChamberModel", "rowOf", "(I)J"⟩, 59) := ⟨⟨by decide +kernel, by decide +kernel⟩, List.mem_of_getElem? (i := 1033) (by decide +kernel), List.mem_of_getElem? (i := 1405) (by decide +kernel), List.mem_of_getElem? (i := 1406) (by decide +kernel)⟩
theorem lw_p58 : lw_okq (⟨"RingingChamberModel", "rings", "()Z"⟩, 59) := ⟨⟨by decide +kernel, by decide +kernel⟩, List.mem_of_getElem? (i := 1033) (by decide +kernel), List.mem_of_getElem? (i := 1437) (by decide +kernel), List.mem_of_getElem? (i := 1438) (by decide +kernel)⟩
theorem lw_p59 : lw_okq (⟨"RingingChamberModel", "meant", "()I"⟩, 59) := ⟨⟨by decide +kernel, by decide +kernel⟩, List.mem_of_getElem? (i := 1033) (by decide +kernel), List.mem_of_getElem? (i := 1453) (by decide +kernel), List.mem_of_getElem? (i := 1454) (by decide +kernel)⟩
theorem lw_p60 : lw_okq (⟨"RingingChamberModel", "numbers", "([I)V"⟩, 59) := ⟨⟨by decide +kernel, by decide +kernel⟩, List.mem_of_getElem? (i := 1033) (by decide +kernel), List.mem_of_getElem? (i := 1462) (by decide +kernel), List.mem_of_getElem? (i := 1463) (by decide +kernel)⟩
theorem lw_p61 : lw_okq (⟨"RingingChamberModel", "isPattern", "(J)Z"⟩, 59) := ⟨⟨by decide +kernel, by decide +kernel⟩, List.mem_of_getElem? (i := 1033) (by decide +kernel), List.mem_of_getElem? (i := 1490) (by decide +kernel), List.mem_of_getElem? (i := 1491) (by decide +kernel)⟩
theorem lw_p62 : lw_okq (⟨"RingingChamberModel", "isFitting", "(JJ)Z"⟩, 59) := ⟨⟨by decide +kernel, by decide +kernel⟩, List.mem_of_getElem? (i := 1033) (by decide +kernel), List.mem_of_getElem? (i := 1494) (by decide +kernel), List.mem_of_getElem? (i := 1495) (by decide +kernel)⟩
theorem lw_p63 : lw_okq (⟨"RingingChamberModel", "go", "(I)V"⟩, 59) := ⟨⟨by decide +kernel, by decide +kernel⟩, List.mem_of_getElem? (i := 1033) (by decide +kernel), List.mem_of_getElem? (i := 1511) (by decide +kernel), List.mem_of_getElem? (i := 1512) (by decide +kernel)⟩
def lw_privs_4 : List (MethodName × Nat) := [(⟨"RingingChamberModel", "placeOfOne", "(J)I"⟩, 59), (⟨"RingingChamberModel", "isEven", "()Z"⟩, 59), (⟨"RingingChamberModel", "isSurprising", "()Z"⟩, 59), (⟨"RingingChamberModel", "staysWithin", "(I)Z"⟩, 59), (⟨"RingingChamberModel", "orderOf", "(J)I"⟩, 59), (⟨"RingingChamberModel", "times", "(JJ)J"⟩, 59), (⟨"RingingChamberModel", "isRow", "(J)Z"⟩, 59), (⟨"RingingChamberModel", "numberOf", "(J)I"⟩, 59), (⟨"RingingChamberModel", "all", "()I"⟩, 59), (⟨"RingingChamberModel", "rowOf", "(I)J"⟩, 59), (⟨"RingingChamberModel", "rings", "()Z"⟩, 59), (⟨"RingingChamberModel", "meant", "()I"⟩, 59), (⟨"RingingChamberModel", "numbers", "([I)V"⟩, 59), (⟨"RingingChamberModel", "isPattern", "(J)Z"⟩, 59), (⟨"RingingChamberModel", "isFitting", "(JJ)Z"⟩, 59), (⟨"RingingChamberModel", "go", "(I)V"⟩, 59)]
theorem lw_r4 : ∀ q ∈ lw_privs_4, lw_okq q := List.forall_mem_cons.mpr ⟨lw_p48, List.forall_mem_cons.mpr ⟨lw_p49, List.forall_mem_cons.mpr ⟨lw_p50, List.forall_mem_cons.mpr ⟨lw_p51, List.forall_mem_cons.mpr ⟨lw_p52, List.forall_mem_cons.mpr ⟨lw_p53, List.forall_mem_cons.mpr ⟨lw_p54, List.forall_mem_cons.mpr ⟨lw_p55, List.forall_mem_cons.mpr ⟨lw_p56, List.forall_mem_cons.mpr ⟨lw_p57, List.forall_mem_cons.mpr ⟨lw_p58, List.forall_mem_cons.mpr ⟨lw_p59, List.forall_mem_cons.mpr ⟨lw_p60, List.forall_mem_cons.mpr ⟨lw_p61, List.forall_mem_cons.mpr ⟨lw_p62, List.forall_mem_cons.mpr ⟨lw_p63, fun _ h => absurd h List.not_mem_nil⟩⟩⟩⟩⟩⟩⟩⟩⟩⟩⟩⟩⟩⟩⟩⟩
theorem lw_p64 : lw_okq (⟨"RingingChamberModel", "begins", "()Z"⟩, 59) := ⟨⟨by decide +kernel, by decide +kernel⟩, List.mem_of_getElem? (i := 1033) (by decide +kernel), List.mem_of_getElem? (i := 1515) (by decide +kernel), List.mem_of_getElem? (i := 1516) (by decide +kernel)⟩
theorem lw_p65 : lw_okq (⟨"RingingChamberModel", "isComposed", "()Z"⟩, 59) := ⟨⟨by decide +kernel, by decide +kernel⟩, List.mem_of_getElem? (i := 1033) (by decide +kernel), List.mem_of_getElem? (i := 1519) (by decide +kernel), List.mem_of_getElem? (i := 1520) (by decide +kernel)⟩
theorem lw_p66 : lw_okq (⟨"RingingChamberModel", "tell", "()V"⟩, 59) := ⟨⟨by decide +kernel, by decide +kernel⟩, List.mem_of_getElem? (i := 1033) (by decide +kernel), List.mem_of_getElem? (i := 1523) (by decide +kernel), List.mem_of_getElem? (i := 1524) (by decide +kernel)⟩
theorem lw_p67 : lw_okq (⟨"RingingChamberModel", "isThere", "(J)Z"⟩, 59) := ⟨⟨by decide +kernel, by decide +kernel⟩, List.mem_of_getElem? (i := 1033) (by decide +kernel), List.mem_of_getElem? (i := 1527) (by decide +kernel), List.mem_of_getElem? (i := 1528) (by decide +kernel)⟩
def lw_privs_5 : List (MethodName × Nat) := [(⟨"RingingChamberModel", "begins", "()Z"⟩, 59), (⟨"RingingChamberModel", "isComposed", "()Z"⟩, 59), (⟨"RingingChamberModel", "tell", "()V"⟩, 59), (⟨"RingingChamberModel", "isThere", "(J)Z"⟩, 59)]
theorem lw_r5 : ∀ q ∈ lw_privs_5, lw_okq q := List.forall_mem_cons.mpr ⟨lw_p64, List.forall_mem_cons.mpr ⟨lw_p65, List.forall_mem_cons.mpr ⟨lw_p66, List.forall_mem_cons.mpr ⟨lw_p67, fun _ h => absurd h List.not_mem_nil⟩⟩⟩⟩
def lw_privs : List (MethodName × Nat) := lw_privs_1 ++ (lw_privs_2 ++ (lw_privs_3 ++ (lw_privs_4 ++ (lw_privs_5))))
def lw_tbl : List Cond := k2_sels lw_privs ++ tables_1
theorem lw_privs_ok : ∀ q ∈ lw_privs, lw_okq q := by
  show ∀ q ∈ lw_privs_1 ++ (lw_privs_2 ++ (lw_privs_3 ++ (lw_privs_4 ++ (lw_privs_5)))), lw_okq q
  exact List.forall_mem_append.mpr ⟨lw_r1, List.forall_mem_append.mpr ⟨lw_r2, List.forall_mem_append.mpr ⟨lw_r3, List.forall_mem_append.mpr ⟨lw_r4, lw_r5⟩⟩⟩⟩
-- ===== end of PART A; then your names; then what follows =====
end
section
/-! class tables: fields in order (declaring class, name, descriptor, final) -/
def kT0 : u_T := fun k => match k with
  | 0 => ("RingingChamber$Lead", "changes", "[I", true)
  | 1 => ("RingingChamber$Lead", "size", "I", false)
  | _ => ("RingingChamber$Lead", "amiss", "I", false)
def kY0 : Nat → FieldType := fun k => match k with
  | 0 => .array (.int)
  | 1 => .int
  | _ => .int
def kT1 : u_T := fun k => match k with
  | 0 => ("RingingChamber$Method", "bells", "I", true)
  | 1 => ("RingingChamber$Method", "begun", "[I", true)
  | 2 => ("RingingChamber$Method", "own", "LRingingChamber$Lead;", true)
  | 3 => ("RingingChamber$Method", "callPlaces", "[I", true)
  | 4 => ("RingingChamber$Method", "callChanges", "[I", true)
  | _ => ("RingingChamber$Method", "allowedCalls", "I", false)
def kY1 : Nat → FieldType := fun k => match k with
  | 0 => .int
  | 1 => .array (.int)
  | 2 => .object "RingingChamber$Lead"
  | 3 => .array (.int)
  | 4 => .array (.int)
  | _ => .int
def kT2 : u_T := fun k => match k with
  | 0 => ("RingingChamber$Method", "bells", "I", true)
  | 1 => ("RingingChamber$Method", "begun", "[I", true)
  | 2 => ("RingingChamber$Method", "own", "LRingingChamber$Lead;", true)
  | 3 => ("RingingChamber$Method", "callPlaces", "[I", true)
  | 4 => ("RingingChamber$Method", "callChanges", "[I", true)
  | _ => ("RingingChamber$Method", "allowedCalls", "I", false)
def kY2 : Nat → FieldType := fun k => match k with
  | 0 => .int
  | 1 => .array (.int)
  | 2 => .object "RingingChamber$Lead"
  | 3 => .array (.int)
  | 4 => .array (.int)
  | _ => .int
def kT3 : u_T := fun k => match k with
  | 0 => ("RingingChamber$Method", "bells", "I", true)
  | 1 => ("RingingChamber$Method", "begun", "[I", true)
  | 2 => ("RingingChamber$Method", "own", "LRingingChamber$Lead;", true)
  | 3 => ("RingingChamber$Method", "callPlaces", "[I", true)
  | 4 => ("RingingChamber$Method", "callChanges", "[I", true)
  | _ => ("RingingChamber$Method", "allowedCalls", "I", false)
def kY3 : Nat → FieldType := fun k => match k with
  | 0 => .int
  | 1 => .array (.int)
  | 2 => .object "RingingChamber$Lead"
  | 3 => .array (.int)
  | 4 => .array (.int)
  | _ => .int
def kT4 : u_T := fun k => match k with
  | 0 => ("RingingChamber$Rows", "codes", "[J", true)
  | 1 => ("RingingChamber$Rows", "links", "[I", true)
  | 2 => ("RingingChamber$Rows", "heads", "[I", true)
  | _ => ("RingingChamber$Rows", "size", "I", false)
def kY4 : Nat → FieldType := fun k => match k with
  | 0 => .array (.long)
  | 1 => .array (.int)
  | 2 => .array (.int)
  | _ => .int
def kT5 : u_T := fun k => match k with
  | 0 => ("RingingChamber$Search", "choices", "[I", true)
  | 1 => ("RingingChamber$Search", "choiceMethods", "[LRingingChamber$Method;", true)
  | 2 => ("RingingChamber$Search", "choiceCount", "I", false)
  | 3 => ("RingingChamber$Search", "length", "I", false)
  | 4 => ("RingingChamber$Search", "wanted", "I", false)
  | 5 => ("RingingChamber$Search", "pattern", "J", false)
  | 6 => ("RingingChamber$Search", "toldDigits", "J", false)
  | 7 => ("RingingChamber$Search", "rounds", "J", false)
  | 8 => ("RingingChamber$Search", "leads", "[LRingingChamber$Lead;", true)
  | 9 => ("RingingChamber$Search", "usable", "[I", true)
  | 10 => ("RingingChamber$Search", "rows", "LRingingChamber$Rows;", true)
  | 11 => ("RingingChamber$Search", "fitting", "[I", true)
  | 12 => ("RingingChamber$Search", "taken", "[I", true)
  | 13 => ("RingingChamber$Search", "firstRows", "[I", true)
  | 14 => ("RingingChamber$Search", "depth", "I", false)
  | 15 => ("RingingChamber$Search", "current", "LRingingChamber$Lead;", false)
  | 16 => ("RingingChamber$Search", "changesDone", "I", false)
  | 17 => ("RingingChamber$Search", "answer", "I", false)
  | 18 => ("RingingChamber$Search", "steps", "I", false)
  | _ => ("RingingChamber$Search", "isVoid", "Z", false)
def kY5 : Nat → FieldType := fun k => match k with
  | 0 => .array (.int)
  | 1 => .array (.object "RingingChamber$Method")
  | 2 => .int
  | 3 => .int
  | 4 => .int
  | 5 => .long
  | 6 => .long
  | 7 => .long
  | 8 => .array (.object "RingingChamber$Lead")
  | 9 => .array (.int)
  | 10 => .object "RingingChamber$Rows"
  | 11 => .array (.int)
  | 12 => .array (.int)
  | 13 => .array (.int)
  | 14 => .int
  | 15 => .object "RingingChamber$Lead"
  | 16 => .int
  | 17 => .int
  | 18 => .int
  | _ => .boolean
def kT6 : u_T := fun k => match k with
  | 0 => ("RingingChamber$Method", "bells", "I", true)
  | 1 => ("RingingChamber$Method", "begun", "[I", true)
  | 2 => ("RingingChamber$Method", "own", "LRingingChamber$Lead;", true)
  | 3 => ("RingingChamber$Method", "callPlaces", "[I", true)
  | 4 => ("RingingChamber$Method", "callChanges", "[I", true)
  | 5 => ("RingingChamber$Method", "allowedCalls", "I", false)
  | 6 => ("RingingChamber$Spliced", "parts", "[LRingingChamber$Method;", true)
  | _ => ("RingingChamber$Spliced", "partCount", "I", false)
def kY6 : Nat → FieldType := fun k => match k with
  | 0 => .int
  | 1 => .array (.int)
  | 2 => .object "RingingChamber$Lead"
  | 3 => .array (.int)
  | 4 => .array (.int)
  | 5 => .int
  | 6 => .array (.object "RingingChamber$Method")
  | _ => .int
def kT7 : u_T := fun k => match k with
  | 0 => ("RingingChamber$Method", "bells", "I", true)
  | 1 => ("RingingChamber$Method", "begun", "[I", true)
  | 2 => ("RingingChamber$Method", "own", "LRingingChamber$Lead;", true)
  | 3 => ("RingingChamber$Method", "callPlaces", "[I", true)
  | 4 => ("RingingChamber$Method", "callChanges", "[I", true)
  | _ => ("RingingChamber$Method", "allowedCalls", "I", false)
def kY7 : Nat → FieldType := fun k => match k with
  | 0 => .int
  | 1 => .array (.int)
  | 2 => .object "RingingChamber$Lead"
  | 3 => .array (.int)
  | 4 => .array (.int)
  | _ => .int
def kT8 : u_T := fun k => match k with
  | 0 => ("RingingChamber$Tape", "bytes", "[B", true)
  | 1 => ("RingingChamber$Tape", "length", "I", false)
  | 2 => ("RingingChamber$Tape", "told", "[I", true)
  | 3 => ("RingingChamber$Tape", "toldCount", "I", false)
  | 4 => ("RingingChamber$Tape", "firstBlock", "I", false)
  | 5 => ("RingingChamber$Tape", "state", "I", false)
  | 6 => ("RingingChamber$Tape", "lastPlace", "I", false)
  | _ => ("RingingChamber$Tape", "openChange", "I", false)
def kY8 : Nat → FieldType := fun k => match k with
  | 0 => .array (.byte)
  | 1 => .int
  | 2 => .array (.int)
  | 3 => .int
  | 4 => .int
  | 5 => .int
  | 6 => .int
  | _ => .int
def kT9 : u_T := fun k => match k with
  | 0 => ("RingingChamber$Touch", "itemMethods", "[LRingingChamber$Method;", true)
  | 1 => ("RingingChamber$Touch", "itemCalls", "[I", true)
  | 2 => ("RingingChamber$Touch", "itemCount", "I", false)
  | 3 => ("RingingChamber$Touch", "bells", "I", false)
  | 4 => ("RingingChamber$Touch", "rounds", "J", false)
  | 5 => ("RingingChamber$Touch", "rows", "LRingingChamber$Rows;", true)
  | 6 => ("RingingChamber$Touch", "current", "LRingingChamber$Lead;", true)
  | 7 => ("RingingChamber$Touch", "changesDone", "I", false)
  | 8 => ("RingingChamber$Touch", "nextItem", "I", false)
  | 9 => ("RingingChamber$Touch", "hasStopped", "Z", false)
  | 10 => ("RingingChamber$Touch", "roundAt", "I", false)
  | 11 => ("RingingChamber$Touch", "firstFalse", "I", false)
  | 12 => ("RingingChamber$Touch", "numbers", "[I", true)
  | 13 => ("RingingChamber$Touch", "numberedRows", "I", false)
  | 14 => ("RingingChamber$Touch", "proven", "[I", true)
  | _ => ("RingingChamber$Touch", "proofSize", "I", false)
def kY9 : Nat → FieldType := fun k => match k with
  | 0 => .array (.object "RingingChamber$Method")
  | 1 => .array (.int)
  | 2 => .int
  | 3 => .int
  | 4 => .long
  | 5 => .object "RingingChamber$Rows"
  | 6 => .object "RingingChamber$Lead"
  | 7 => .int
  | 8 => .int
  | 9 => .boolean
  | 10 => .int
  | 11 => .int
  | 12 => .array (.int)
  | 13 => .int
  | 14 => .array (.int)
  | _ => .int
def kT10 : u_T := fun k => match k with
  | 0 => ("RingingChamber$Method", "bells", "I", true)
  | 1 => ("RingingChamber$Method", "begun", "[I", true)
  | 2 => ("RingingChamber$Method", "own", "LRingingChamber$Lead;", true)
  | 3 => ("RingingChamber$Method", "callPlaces", "[I", true)
  | 4 => ("RingingChamber$Method", "callChanges", "[I", true)
  | _ => ("RingingChamber$Method", "allowedCalls", "I", false)
def kY10 : Nat → FieldType := fun k => match k with
  | 0 => .int
  | 1 => .array (.int)
  | 2 => .object "RingingChamber$Lead"
  | 3 => .array (.int)
  | 4 => .array (.int)
  | _ => .int
def kT11 : u_T := fun k => match k with
  | 0 => ("RingingChamber", "tape", "LRingingChamber$Tape;", true)
  | 1 => ("RingingChamber", "begun", "[I", true)
  | 2 => ("RingingChamber", "methods", "[LRingingChamber$Method;", true)
  | 3 => ("RingingChamber", "methodCount", "I", false)
  | 4 => ("RingingChamber", "bellCount", "I", false)
  | 5 => ("RingingChamber", "rungBells", "I", false)
  | 6 => ("RingingChamber", "finding", "I", false)
  | 7 => ("RingingChamber", "ringing", "LRingingChamber$Touch;", true)
  | 8 => ("RingingChamber", "seeking", "LRingingChamber$Search;", true)
  | 9 => ("RingingChamber", "looked", "LRingingChamber$Lead;", true)
  | _ => ("RingingChamber", "others", "LRingingChamber$Rows;", true)
def kY11 : Nat → FieldType := fun k => match k with
  | 0 => .object "RingingChamber$Tape"
  | 1 => .array (.int)
  | 2 => .array (.object "RingingChamber$Method")
  | 3 => .int
  | 4 => .int
  | 5 => .int
  | 6 => .int
  | 7 => .object "RingingChamber$Touch"
  | 8 => .object "RingingChamber$Search"
  | 9 => .object "RingingChamber$Lead"
  | _ => .object "RingingChamber$Rows"
def kT12 : u_T := fun k => match k with
  | 0 => ("RingingChamberModel", "tape", "[I", true)
  | 1 => ("RingingChamberModel", "taped", "I", false)
  | 2 => ("RingingChamberModel", "n", "I", false)
  | 3 => ("RingingChamberModel", "finding", "I", false)
  | 4 => ("RingingChamberModel", "trace", "[I", true)
  | 5 => ("RingingChamberModel", "methods", "I", false)
  | 6 => ("RingingChamberModel", "kind", "[I", true)
  | 7 => ("RingingChamberModel", "lengths", "[I", true)
  | 8 => ("RingingChamberModel", "leads", "[I", true)
  | 9 => ("RingingChamberModel", "callPlace", "[I", true)
  | 10 => ("RingingChamberModel", "callChange", "[I", true)
  | 11 => ("RingingChamberModel", "partMany", "[I", true)
  | 12 => ("RingingChamberModel", "parts", "[I", true)
  | 13 => ("RingingChamberModel", "out", "[I", true)
  | 14 => ("RingingChamberModel", "outMany", "I", false)
  | 15 => ("RingingChamberModel", "amiss", "I", false)
  | 16 => ("RingingChamberModel", "isCounted", "Z", false)
  | 17 => ("RingingChamberModel", "itemMethod", "[I", true)
  | 18 => ("RingingChamberModel", "itemCall", "[I", true)
  | 19 => ("RingingChamberModel", "items", "I", false)
  | 20 => ("RingingChamberModel", "rows", "[J", true)
  | 21 => ("RingingChamberModel", "rowMany", "I", false)
  | 22 => ("RingingChamberModel", "nextItem", "I", false)
  | 23 => ("RingingChamberModel", "now", "[I", true)
  | 24 => ("RingingChamberModel", "nowMany", "I", false)
  | 25 => ("RingingChamberModel", "nowAt", "I", false)
  | 26 => ("RingingChamberModel", "stops", "Z", false)
  | 27 => ("RingingChamberModel", "came", "I", false)
  | 28 => ("RingingChamberModel", "proof", "[I", true)
  | 29 => ("RingingChamberModel", "other", "[I", true)
  | 30 => ("RingingChamberModel", "proofMany", "I", false)
  | 31 => ("RingingChamberModel", "nobody", "[Z", true)
  | 32 => ("RingingChamberModel", "allowed", "[I", true)
  | 33 => ("RingingChamberModel", "isSearch", "Z", false)
  | 34 => ("RingingChamberModel", "isVoid", "Z", false)
  | 35 => ("RingingChamberModel", "result", "I", false)
  | 36 => ("RingingChamberModel", "length", "I", false)
  | 37 => ("RingingChamberModel", "wanted", "I", false)
  | 38 => ("RingingChamberModel", "pattern", "J", false)
  | 39 => ("RingingChamberModel", "steps", "I", false)
  | 40 => ("RingingChamberModel", "candidates", "[I", true)
  | 41 => ("RingingChamberModel", "candidateMany", "I", false)
  | 42 => ("RingingChamberModel", "known", "[B", true)
  | 43 => ("RingingChamberModel", "depth", "I", false)
  | 44 => ("RingingChamberModel", "isIn", "Z", false)
  | 45 => ("RingingChamberModel", "chosen", "[I", true)
  | 46 => ("RingingChamberModel", "begun", "[I", true)
  | 47 => ("RingingChamberModel", "rung", "[J", true)
  | 48 => ("RingingChamberModel", "top", "I", false)
  | 49 => ("RingingChamberModel", "going", "[I", true)
  | 50 => ("RingingChamberModel", "goingMany", "I", false)
  | 51 => ("RingingChamberModel", "goingAt", "I", false)
  | 52 => ("RingingChamberModel", "foundItems", "[I", true)
  | 53 => ("RingingChamberModel", "foundMany", "I", false)
  | 54 => ("RingingChamberModel", "read", "[I", true)
  | 55 => ("RingingChamberModel", "readMany", "I", false)
  | 56 => ("RingingChamberModel", "readAt", "I", false)
  | 57 => ("RingingChamberModel", "places", "[I", true)
  | _ => ("RingingChamberModel", "some", "[J", true)
def kY12 : Nat → FieldType := fun k => match k with
  | 0 => .array (.int)
  | 1 => .int
  | 2 => .int
  | 3 => .int
  | 4 => .array (.int)
  | 5 => .int
  | 6 => .array (.int)
  | 7 => .array (.int)
  | 8 => .array (.int)
  | 9 => .array (.int)
  | 10 => .array (.int)
  | 11 => .array (.int)
  | 12 => .array (.int)
  | 13 => .array (.int)
  | 14 => .int
  | 15 => .int
  | 16 => .boolean
  | 17 => .array (.int)
  | 18 => .array (.int)
  | 19 => .int
  | 20 => .array (.long)
  | 21 => .int
  | 22 => .int
  | 23 => .array (.int)
  | 24 => .int
  | 25 => .int
  | 26 => .boolean
  | 27 => .int
  | 28 => .array (.int)
  | 29 => .array (.int)
  | 30 => .int
  | 31 => .array (.boolean)
  | 32 => .array (.int)
  | 33 => .boolean
  | 34 => .boolean
  | 35 => .int
  | 36 => .int
  | 37 => .int
  | 38 => .long
  | 39 => .int
  | 40 => .array (.int)
  | 41 => .int
  | 42 => .array (.byte)
  | 43 => .int
  | 44 => .boolean
  | 45 => .array (.int)
  | 46 => .array (.int)
  | 47 => .array (.long)
  | 48 => .int
  | 49 => .array (.int)
  | 50 => .int
  | 51 => .int
  | 52 => .array (.int)
  | 53 => .int
  | 54 => .array (.int)
  | 55 => .int
  | 56 => .int
  | 57 => .array (.int)
  | _ => .array (.long)
abbrev kCL : List vw_C := [("RingingChamber$Lead", kT0, 3), ("RingingChamber$Little", kT1, 6), ("RingingChamber$Plain", kT2, 6), ("RingingChamber$Principle", kT3, 6), ("RingingChamber$Rows", kT4, 4), ("RingingChamber$Search", kT5, 20), ("RingingChamber$Spliced", kT6, 8), ("RingingChamber$Surprise", kT7, 6), ("RingingChamber$Tape", kT8, 8), ("RingingChamber$Touch", kT9, 16), ("RingingChamber$Treble", kT10, 6), ("RingingChamber", kT11, 11), ("RingingChamberModel", kT12, 59)]
def kFT : List (List Nat) := [[2, 0, 0], [0, 2, 2, 2, 2, 0], [0, 2, 2, 2, 2, 0], [0, 2, 2, 2, 2, 0], [2, 2, 2, 0], [2, 2, 0, 0, 0, 1, 1, 1, 2, 2, 2, 2, 2, 2, 0, 2, 0, 0, 0, 0], [0, 2, 2, 2, 2, 0, 2, 0], [0, 2, 2, 2, 2, 0], [2, 0, 2, 0, 0, 0, 0, 0], [2, 2, 0, 0, 1, 2, 2, 0, 0, 0, 0, 0, 2, 0, 2, 0], [0, 2, 2, 2, 2, 0], [2, 2, 2, 0, 0, 0, 0, 2, 2, 2, 2], [2, 0, 0, 0, 2, 0, 2, 2, 2, 2, 2, 2, 2, 2, 0, 0, 0, 2, 2, 0, 2, 0, 0, 2, 0, 0, 0, 0, 2, 2, 0, 2, 2, 0, 0, 0, 0, 0, 1, 0, 2, 0, 2, 0, 0, 2, 2, 2, 0, 2, 0, 0, 2, 0, 2, 0, 0, 2, 2]]
def fty (t k : Nat) : Nat := (kFT.getD t []).getD k 0
def nfl (t : Nat) : Nat := (kFT.getD t []).length
def kTY (t : Nat) : Nat → FieldType := match t with
  | 0 => kY0
  | 1 => kY1
  | 2 => kY2
  | 3 => kY3
  | 4 => kY4
  | 5 => kY5
  | 6 => kY6
  | 7 => kY7
  | 8 => kY8
  | 9 => kY9
  | 10 => kY10
  | 11 => kY11
  | _ => kY12
/-- a private method of the class above, called on an object of the class below -/
def gtX : Cond := .selects "RingingChamber$Surprise" ⟨"RingingChamber$Treble", "trebleIsAsOftenAtEachPlace", "(LRingingChamber$Lead;)Z"⟩ ⟨"RingingChamber$Treble", "trebleIsAsOftenAtEachPlace", "(LRingingChamber$Lead;)Z"⟩
def GT : List Cond := (gtX :: lw_tbl).filter goodWord
theorem gt_mem {w : Cond} (h : w ∈ lw_tbl) (g : goodWord w = true) : w ∈ GT := List.mem_filter.mpr ⟨List.mem_cons_of_mem _ h, g⟩
theorem gt_in {w : Cond} (h : w ∈ GT) : w = gtX ∨ w ∈ lw_tbl := List.mem_cons.mp (List.mem_filter.mp h).1
theorem gt_x : gtX ∈ GT := List.mem_filter.mpr ⟨List.mem_cons_self, by decide +kernel⟩
theorem gt_1 {w : Cond} (i : Nat) (h : tables_1_1[i]? = some w) (g : goodWord w = true) : w ∈ GT := gt_mem (List.mem_append_right _ (have h := List.mem_of_getElem? h; (List.mem_append_left _ h))) g
theorem gt_2 {w : Cond} (i : Nat) (h : tables_1_2[i]? = some w) (g : goodWord w = true) : w ∈ GT := gt_mem (List.mem_append_right _ (have h := List.mem_of_getElem? h; (List.mem_append_right _ (List.mem_append_left _ h)))) g
theorem gt_3 {w : Cond} (i : Nat) (h : tables_1_3[i]? = some w) (g : goodWord w = true) : w ∈ GT := gt_mem (List.mem_append_right _ (have h := List.mem_of_getElem? h; (List.mem_append_right _ (List.mem_append_right _ (List.mem_append_left _ h))))) g
theorem gt_4 {w : Cond} (i : Nat) (h : tables_1_4[i]? = some w) (g : goodWord w = true) : w ∈ GT := gt_mem (List.mem_append_right _ (have h := List.mem_of_getElem? h; (List.mem_append_right _ (List.mem_append_right _ (List.mem_append_right _ (List.mem_append_left _ h)))))) g
theorem gt_5 {w : Cond} (i : Nat) (h : tables_1_5[i]? = some w) (g : goodWord w = true) : w ∈ GT := gt_mem (List.mem_append_right _ (have h := List.mem_of_getElem? h; (List.mem_append_right _ (List.mem_append_right _ (List.mem_append_right _ (List.mem_append_right _ (List.mem_append_left _ h))))))) g
theorem gt_6 {w : Cond} (i : Nat) (h : tables_1_6[i]? = some w) (g : goodWord w = true) : w ∈ GT := gt_mem (List.mem_append_right _ (have h := List.mem_of_getElem? h; (List.mem_append_right _ (List.mem_append_right _ (List.mem_append_right _ (List.mem_append_right _ (List.mem_append_right _ (List.mem_append_left _ h)))))))) g
theorem gt_7 {w : Cond} (i : Nat) (h : tables_1_7[i]? = some w) (g : goodWord w = true) : w ∈ GT := gt_mem (List.mem_append_right _ (have h := List.mem_of_getElem? h; (List.mem_append_right _ (List.mem_append_right _ (List.mem_append_right _ (List.mem_append_right _ (List.mem_append_right _ (List.mem_append_right _ h)))))))) g
theorem gt_0 {w : Cond} (i : Nat) (h : (k2_sels lw_privs)[i]? = some w) (g : goodWord w = true) : w ∈ GT := gt_mem (List.mem_append_left _ (List.mem_of_getElem? h)) g
theorem gt_good {w : Cond} (h : w ∈ GT) : goodWord w = true := (List.mem_filter.mp h).2
theorem gt_ws {ws : List Cond} (h : ws.all (fun w => goodWord w && lw_tbl.contains w) = true) : ∀ w ∈ ws, w ∈ GT := fun w hw => by
  have h1 := List.all_eq_true.mp h w hw
  rw [Bool.and_eq_true] at h1
  exact gt_mem (List.contains_iff_mem.mp h1.2) h1.1
theorem kW0 : ∀ w ∈ u_ws "RingingChamber$Lead" kT0 3, w ∈ GT := gt_ws (by decide +kernel)
theorem kW1 : ∀ w ∈ u_ws "RingingChamber$Little" kT1 6, w ∈ GT := gt_ws (by decide +kernel)
theorem kW2 : ∀ w ∈ u_ws "RingingChamber$Plain" kT2 6, w ∈ GT := gt_ws (by decide +kernel)
theorem kW3 : ∀ w ∈ u_ws "RingingChamber$Principle" kT3 6, w ∈ GT := gt_ws (by decide +kernel)
theorem kW4 : ∀ w ∈ u_ws "RingingChamber$Rows" kT4 4, w ∈ GT := gt_ws (by decide +kernel)
theorem kW5 : ∀ w ∈ u_ws "RingingChamber$Search" kT5 20, w ∈ GT := gt_ws (by decide +kernel)
theorem kW6 : ∀ w ∈ u_ws "RingingChamber$Spliced" kT6 8, w ∈ GT := gt_ws (by decide +kernel)
theorem kW7 : ∀ w ∈ u_ws "RingingChamber$Surprise" kT7 6, w ∈ GT := gt_ws (by decide +kernel)
theorem kW8 : ∀ w ∈ u_ws "RingingChamber$Tape" kT8 8, w ∈ GT := gt_ws (by decide +kernel)
theorem kW9 : ∀ w ∈ u_ws "RingingChamber$Touch" kT9 16, w ∈ GT := gt_ws (by decide +kernel)
theorem kW10 : ∀ w ∈ u_ws "RingingChamber$Treble" kT10 6, w ∈ GT := gt_ws (by decide +kernel)
theorem kW11 : ∀ w ∈ u_ws "RingingChamber" kT11 11, w ∈ GT := gt_ws (by decide +kernel)
theorem kW12 : ∀ w ∈ u_ws "RingingChamberModel" kT12 59, w ∈ GT := gt_ws (by decide +kernel)
theorem k_cases {P : Nat → vw_C → Prop} (h0 : P 0 ("RingingChamber$Lead", kT0, 3)) (h1 : P 1 ("RingingChamber$Little", kT1, 6)) (h2 : P 2 ("RingingChamber$Plain", kT2, 6)) (h3 : P 3 ("RingingChamber$Principle", kT3, 6)) (h4 : P 4 ("RingingChamber$Rows", kT4, 4)) (h5 : P 5 ("RingingChamber$Search", kT5, 20)) (h6 : P 6 ("RingingChamber$Spliced", kT6, 8)) (h7 : P 7 ("RingingChamber$Surprise", kT7, 6)) (h8 : P 8 ("RingingChamber$Tape", kT8, 8)) (h9 : P 9 ("RingingChamber$Touch", kT9, 16)) (h10 : P 10 ("RingingChamber$Treble", kT10, 6)) (h11 : P 11 ("RingingChamber", kT11, 11)) (h12 : P 12 ("RingingChamberModel", kT12, 59)) : ∀ (t : Nat) (r : vw_C), kCL[t]? = some r → P t r := by
  intro t r h
  match t, h with
  | 0, h => cases h; exact h0
  | 1, h => cases h; exact h1
  | 2, h => cases h; exact h2
  | 3, h => cases h; exact h3
  | 4, h => cases h; exact h4
  | 5, h => cases h; exact h5
  | 6, h => cases h; exact h6
  | 7, h => cases h; exact h7
  | 8, h => cases h; exact h8
  | 9, h => cases h; exact h9
  | 10, h => cases h; exact h10
  | 11, h => cases h; exact h11
  | 12, h => cases h; exact h12
  | n + 13, h => simp [kCL] at h
theorem k_in : ∀ (t : Nat) (r : vw_C), kCL[t]? = some r → ∀ w ∈ u_ws r.1 r.2.1 r.2.2, w ∈ GT := k_cases kW0 kW1 kW2 kW3 kW4 kW5 kW6 kW7 kW8 kW9 kW10 kW11 kW12
theorem k_ty : ∀ (t : Nat) (r : vw_C), kCL[t]? = some r → ∀ k, k < r.2.2 → parseFieldDescriptor (r.2.1 k).2.2.1 = some (kTY t k) := k_cases (by decide +kernel) (by decide +kernel) (by decide +kernel) (by decide +kernel) (by decide +kernel) (by decide +kernel) (by decide +kernel) (by decide +kernel) (by decide +kernel) (by decide +kernel) (by decide +kernel) (by decide +kernel) (by decide +kernel)
theorem k_nm : ∀ (t : Nat) (r : vw_C), kCL[t]? = some r → ∀ a, a < r.2.2 → ∀ b, b < r.2.2 → a ≠ b → (r.2.1 a).2.1 ≠ (r.2.1 b).2.1 := k_cases (by decide +kernel) (by decide +kernel) (by decide +kernel) (by decide +kernel) (by decide +kernel) (by decide +kernel) (by decide +kernel) (by decide +kernel) (by decide +kernel) (by decide +kernel) (by decide +kernel) (by decide +kernel) (by decide +kernel)
theorem k_n : ∀ (t : Nat) (r : vw_C), kCL[t]? = some r → r.2.2 = nfl t := k_cases (by decide +kernel) (by decide +kernel) (by decide +kernel) (by decide +kernel) (by decide +kernel) (by decide +kernel) (by decide +kernel) (by decide +kernel) (by decide +kernel) (by decide +kernel) (by decide +kernel) (by decide +kernel) (by decide +kernel)
theorem k_lt : ∀ (t : Nat) (r : vw_C), kCL[t]? = some r → t < 13 := k_cases (by decide) (by decide) (by decide) (by decide) (by decide) (by decide) (by decide) (by decide) (by decide) (by decide) (by decide) (by decide) (by decide)
theorem k_inst : ∀ (t : Nat) (r : vw_C), kCL[t]? = some r → Cond.instantiable r.1 r.2.2 ∈ GT ∧ Cond.initialized r.1 ∈ GT := k_cases ⟨gt_mem (List.contains_iff_mem.mp (by decide +kernel)) (by decide +kernel), gt_mem (List.contains_iff_mem.mp (by decide +kernel)) (by decide +kernel)⟩ ⟨gt_mem (List.contains_iff_mem.mp (by decide +kernel)) (by decide +kernel), gt_mem (List.contains_iff_mem.mp (by decide +kernel)) (by decide +kernel)⟩ ⟨gt_mem (List.contains_iff_mem.mp (by decide +kernel)) (by decide +kernel), gt_mem (List.contains_iff_mem.mp (by decide +kernel)) (by decide +kernel)⟩ ⟨gt_mem (List.contains_iff_mem.mp (by decide +kernel)) (by decide +kernel), gt_mem (List.contains_iff_mem.mp (by decide +kernel)) (by decide +kernel)⟩ ⟨gt_mem (List.contains_iff_mem.mp (by decide +kernel)) (by decide +kernel), gt_mem (List.contains_iff_mem.mp (by decide +kernel)) (by decide +kernel)⟩ ⟨gt_mem (List.contains_iff_mem.mp (by decide +kernel)) (by decide +kernel), gt_mem (List.contains_iff_mem.mp (by decide +kernel)) (by decide +kernel)⟩ ⟨gt_mem (List.contains_iff_mem.mp (by decide +kernel)) (by decide +kernel), gt_mem (List.contains_iff_mem.mp (by decide +kernel)) (by decide +kernel)⟩ ⟨gt_mem (List.contains_iff_mem.mp (by decide +kernel)) (by decide +kernel), gt_mem (List.contains_iff_mem.mp (by decide +kernel)) (by decide +kernel)⟩ ⟨gt_mem (List.contains_iff_mem.mp (by decide +kernel)) (by decide +kernel), gt_mem (List.contains_iff_mem.mp (by decide +kernel)) (by decide +kernel)⟩ ⟨gt_mem (List.contains_iff_mem.mp (by decide +kernel)) (by decide +kernel), gt_mem (List.contains_iff_mem.mp (by decide +kernel)) (by decide +kernel)⟩ ⟨gt_mem (List.contains_iff_mem.mp (by decide +kernel)) (by decide +kernel), gt_mem (List.contains_iff_mem.mp (by decide +kernel)) (by decide +kernel)⟩ ⟨gt_mem (List.contains_iff_mem.mp (by decide +kernel)) (by decide +kernel), gt_mem (List.contains_iff_mem.mp (by decide +kernel)) (by decide +kernel)⟩ ⟨gt_mem (List.contains_iff_mem.mp (by decide +kernel)) (by decide +kernel), gt_mem (List.contains_iff_mem.mp (by decide +kernel)) (by decide +kernel)⟩
theorem k_at {t : Nat} (h : t < 13) : ∃ r, kCL[t]? = some r := ⟨kCL[t]'(by simpa [kCL] using h), List.getElem?_eq_getElem _⟩
end
section
/-! A pure heap: kinds (tag, length), how many cells, how many slots, ints, longs, references by address and place -/
abbrev Hp : Type := (Nat → Nat × Nat) × Nat × Nat × (Nat → Nat → Int32) × (Nat → Nat → Int64) × (Nat → Nat → Option Nat)
def hK (h : Hp) : Nat → Nat × Nat := h.1
def hz (h : Hp) : Nat := h.2.1
def hs (h : Hp) : Nat := h.2.2.1
def hI (h : Hp) : Nat → Nat → Int32 := h.2.2.2.1
def hL (h : Hp) : Nat → Nat → Int64 := h.2.2.2.2.1
def hR (h : Hp) : Nat → Nat → Option Nat := h.2.2.2.2.2
def up2 {α : Type} (f : Nat → Nat → α) (a k : Nat) (x : α) : Nat → Nat → α := va_up f a (va_up (f a) k x)
def sI (h : Hp) (a k : Nat) (x : Int32) : Hp := (hK h, hz h, hs h, up2 (hI h) a k x, hL h, hR h)
def sL (h : Hp) (a k : Nat) (x : Int64) : Hp := (hK h, hz h, hs h, hI h, up2 (hL h) a k x, hR h)
def sR (h : Hp) (a k : Nat) (x : Option Nat) : Hp := (hK h, hz h, hs h, hI h, hL h, up2 (hR h) a k x)
def sC (h : Hp) (a : Nat) (f : Nat → Int32) : Hp := (hK h, hz h, hs h, va_up (hI h) a f, hL h, hR h)
def nwO (h : Hp) (t n : Nat) : Hp := (va_up (hK h) (hz h) (t, n), hz h + 1, hs h + n, va_up (hI h) (hz h) (fun _ => 0), va_up (hL h) (hz h) (fun _ => 0), va_up (hR h) (hz h) (fun _ => none))
/-- address a is a cell of one of these kinds -/
def ok (h : Hp) (ts : List Nat) (a : Nat) : Bool := decide (a < hz h) && ts.contains (hK h a).1
theorem ok_lt {h : Hp} {ts : List Nat} {a : Nat} (e : ok h ts a = true) : a < hz h := by simp [ok] at e; exact e.1
theorem ok_tag {h : Hp} {ts : List Nat} {a : Nat} (e : ok h ts a = true) : (hK h a).1 ∈ ts := by simp [ok] at e; exact e.2
/-! the steps of a pure program; each goes on with what it read and the heap behind it -/
def gi {β : Type} (ts : List Nat) (k : Nat) (r : Option Nat) (h : Hp) (f : Int32 → Option β) : Option β := match r with
  | none => none
  | some a => if ok h ts a = true then f (hI h a k) else none
def gl {β : Type} (ts : List Nat) (k : Nat) (r : Option Nat) (h : Hp) (f : Int64 → Option β) : Option β := match r with
  | none => none
  | some a => if ok h ts a = true then f (hL h a k) else none
def gr {β : Type} (ts : List Nat) (k : Nat) (r : Option Nat) (h : Hp) (f : Option Nat → Option β) : Option β := match r with
  | none => none
  | some a => if ok h ts a = true then f (hR h a k) else none
def pi {β : Type} (ts : List Nat) (k : Nat) (r : Option Nat) (x : Int32) (h : Hp) (f : Hp → Option β) : Option β := match r with
  | none => none
  | some a => if ok h ts a = true then f (sI h a k x) else none
def pz {β : Type} (ts : List Nat) (k : Nat) (r : Option Nat) (x : Int32) (h : Hp) (f : Hp → Option β) : Option β := match r with
  | none => none
  | some a => if ok h ts a = true ∧ (x = 0 ∨ x = 1) then f (sI h a k x) else none
def pl {β : Type} (ts : List Nat) (k : Nat) (r : Option Nat) (x : Int64) (h : Hp) (f : Hp → Option β) : Option β := match r with
  | none => none
  | some a => if ok h ts a = true then f (sL h a k x) else none
def pr {β : Type} (ts : List Nat) (k : Nat) (r : Option Nat) (x : Option Nat) (h : Hp) (f : Hp → Option β) : Option β := match r with
  | none => none
  | some a => if ok h ts a = true then f (sR h a k x) else none
def li {β : Type} (t : Nat) (r : Option Nat) (i : Int32) (h : Hp) (f : Int32 → Option β) : Option β := match r with
  | none => none
  | some a => if ok h [t] a = true ∧ ¬ (i < 0 ∨ (hK h a).2 ≤ i.toNatClampNeg) then f (hI h a i.toNatClampNeg) else none
def ll {β : Type} (r : Option Nat) (i : Int32) (h : Hp) (f : Int64 → Option β) : Option β := match r with
  | none => none
  | some a => if ok h [14] a = true ∧ ¬ (i < 0 ∨ (hK h a).2 ≤ i.toNatClampNeg) then f (hL h a i.toNatClampNeg) else none
def lr {β : Type} (t : Nat) (r : Option Nat) (i : Int32) (h : Hp) (f : Option Nat → Option β) : Option β := match r with
  | none => none
  | some a => if ok h [t] a = true ∧ ¬ (i < 0 ∨ (hK h a).2 ≤ i.toNatClampNeg) then f (hR h a i.toNatClampNeg) else none
def si {β : Type} (r : Option Nat) (i : Int32) (x : Int32) (h : Hp) (f : Hp → Option β) : Option β := match r with
  | none => none
  | some a => if ok h [13] a = true ∧ ¬ (i < 0 ∨ (hK h a).2 ≤ i.toNatClampNeg) then f (sI h a i.toNatClampNeg x) else none
def sb {β : Type} (r : Option Nat) (i : Int32) (x : Int32) (h : Hp) (f : Hp → Option β) : Option β := match r with
  | none => none
  | some a => if ok h [15] a = true ∧ ¬ (i < 0 ∨ (hK h a).2 ≤ i.toNatClampNeg) then f (sI h a i.toNatClampNeg (vp_nar .byte x)) else none
def sz {β : Type} (r : Option Nat) (i : Int32) (x : Int32) (h : Hp) (f : Hp → Option β) : Option β := match r with
  | none => none
  | some a => if ok h [16] a = true ∧ ¬ (i < 0 ∨ (hK h a).2 ≤ i.toNatClampNeg) then f (sI h a i.toNatClampNeg (vp_nar .boolean x)) else none
def sl {β : Type} (r : Option Nat) (i : Int32) (x : Int64) (h : Hp) (f : Hp → Option β) : Option β := match r with
  | none => none
  | some a => if ok h [14] a = true ∧ ¬ (i < 0 ∨ (hK h a).2 ≤ i.toNatClampNeg) then f (sL h a i.toNatClampNeg x) else none
/-- a reference goes into an array of kind t; it is null, or of a kind among us -/
def sr {β : Type} (t : Nat) (us : List Nat) (r : Option Nat) (i : Int32) (x : Option Nat) (h : Hp) (f : Hp → Option β) : Option β := match r with
  | none => none
  | some a => if (ok h [t] a = true ∧ ¬ (i < 0 ∨ (hK h a).2 ≤ i.toNatClampNeg)) ∧ (∀ b, x = some b → ok h us b = true) then f (sR h a i.toNatClampNeg x) else none
def al {β : Type} (r : Option Nat) (h : Hp) (f : Int32 → Option β) : Option β := match r with
  | none => none
  | some a => if ok h [13, 14, 15, 16, 17, 18] a = true then f (Int32.ofNat (hK h a).2) else none
def nw {β : Type} (t : Nat) (h : Hp) (f : Option Nat → Hp → Option β) : Option β := f (some (hz h)) (nwO h t (nfl t))
def na {β : Type} (t : Nat) (n : Int32) (h : Hp) (f : Option Nat → Hp → Option β) : Option β := if ¬ n < 0 ∧ n.toNatClampNeg ≤ 1000000 then f (some (hz h)) (nwO h t n.toNatClampNeg) else none
def nz {β : Type} (y : Int32) (f : Option β) : Option β := if y = 0 then none else f
def nm {α β : Type} (x : α) (f : α → Option β) : Option β := f x
def cl {α β : Type} (x : Option (α × Hp)) (f : α → Hp → Option β) : Option β := match x with
  | none => none
  | some q => f q.1 q.2
/-- instanceof a class whose objects have kind t, of a reference of kind among us -/
def io {β : Type} (t : Nat) (us : List Nat) (r : Option Nat) (h : Hp) (f : Int32 → Option β) : Option β := match r with
  | none => f 0
  | some a => if ok h us a = true then f (if (hK h a).1 = t then 1 else 0) else none
/-- a cast to that class -/
def kc {β : Type} (t : Nat) (r : Option Nat) (h : Hp) (f : Option β) : Option β := match r with
  | none => f
  | some a => if ok h [t] a = true then f else none
/-- copying of ints from one array to another -/
def ac {β : Type} (r : Option Nat) (sp : Int32) (q : Option Nat) (dp n : Int32) (h : Hp) (f : Hp → Option β) : Option β := match r, q with
  | some a, some b => if (ok h [13] a = true ∧ ok h [13] b = true) ∧ (¬ sp < 0 ∧ ¬ dp < 0 ∧ ¬ n < 0) ∧ sp.toNatClampNeg + n.toNatClampNeg ≤ (hK h a).2 ∧ dp.toNatClampNeg + n.toNatClampNeg ≤ (hK h b).2 then f (sC h b (va_cpy (hI h a) (hI h b) sp.toNatClampNeg dp.toNatClampNeg n.toNatClampNeg)) else none
  | _, _ => none
/-! the pure heap as the machine's -/
def rv (B : Nat) (r : Option Nat) : Value := va_rf (r.map (fun a => B + a))
def fvl (B : Nat) (h : Hp) (a t k : Nat) : Value := if t = 0 then .int (hI h a k) else if t = 1 then .long (hL h a k) else rv B (hR h a k)
def flds (B : Nat) (h : Hp) (a t : Nat) : List Value := (List.range (nfl t)).map (fun k => fvl B h a (fty t k) k)
def cel (B : Nat) (dA : Nat → ClassId) (h : Hp) (a : Nat) : va_E :=
  if (hK h a).1 < 13 then .inr ((hK h a).1, flds B h a (hK h a).1)
  else if (hK h a).1 = 13 then .inl (dA 0, (hK h a).2, .inl (hI h a))
  else if (hK h a).1 = 14 then .inl (dA 1, (hK h a).2, .inr (.inl (hL h a)))
  else if (hK h a).1 = 15 then .inl (dA 2, (hK h a).2, .inl (hI h a))
  else if (hK h a).1 = 16 then .inl (dA 3, (hK h a).2, .inl (hI h a))
  else if (hK h a).1 = 17 then .inl (dA 4, (hK h a).2, .inr (.inr (.inr (.inr (fun j => (hR h a j).map (fun a => B + a))))))
  else .inl (dA 5, (hK h a).2, .inr (.inr (.inr (.inr (fun j => (hR h a j).map (fun a => B + a))))))
def wl (B : Nat) (dA : Nat → ClassId) (h : Hp) : va_W := (List.range (hz h)).map (fun a => (B + a, cel B dA h a))
def tyl (dA : Nat → ClassId) : List (ClassId × FieldType) := [(dA 0, .int), (dA 1, .long), (dA 2, .byte), (dA 3, .boolean), (dA 4, .object "RingingChamber$Lead"), (dA 5, .object "RingingChamber$Method")]
def Wd (D : va_G) (B : Nat) (dA : Nat → ClassId) (h : Hp) (H : Heap) : Prop := va_P D kCL (wl B dA h) H ∧ H.size = B + hz h
theorem wl_at {B : Nat} {dA : Nat → ClassId} {h : Hp} {a : Nat} (ha : a < hz h) : (wl B dA h)[a]? = some (B + a, cel B dA h a) := by
  simp [wl, ha]
theorem wl_len {B : Nat} {dA : Nat → ClassId} {h : Hp} : (wl B dA h).length = hz h := by simp [wl]
theorem wl_D (B : Nat) (dA : Nat → ClassId) (h : Hp) : va_D (fun q => B ≤ q) (wl B dA h) := by
  constructor
  · intro i j p q hi hj e
    have h1 : i < hz h := by rw [← wl_len (B := B) (dA := dA) (h := h)]; exact (List.getElem?_eq_some_iff.mp hi).1
    have h2 : j < hz h := by rw [← wl_len (B := B) (dA := dA) (h := h)]; exact (List.getElem?_eq_some_iff.mp hj).1
    rw [wl_at h1] at hi
    rw [wl_at h2] at hj
    cases hi; cases hj
    dsimp only at e
    omega
  · intro k q hk
    have h1 : k < hz h := by rw [← wl_len (B := B) (dA := dA) (h := h)]; exact (List.getElem?_eq_some_iff.mp hk).1
    rw [wl_at h1] at hk
    cases hk
    exact Nat.le_add_right B k
theorem wl_ext {B : Nat} {dA : Nat → ClassId} {h h1 : Hp} (hz1 : hz h1 = hz h) {b : Nat} {e : va_E} (he : cel B dA h1 b = e) (ho : ∀ a, a ≠ b → cel B dA h1 a = cel B dA h a) : (wl B dA h).set b (B + b, e) = wl B dA h1 := by
  apply List.ext_getElem?
  intro a
  by_cases ha : a < hz h
  · rw [wl_at (h := h1) (by rw [hz1]; exact ha)]
    by_cases hb : b = a
    · subst hb
      rw [List.getElem?_set_self (by rw [wl_len]; exact ha), he]
    · rw [List.getElem?_set_ne hb, wl_at ha, ho a (fun q => hb q.symm)]
  · rw [List.getElem?_eq_none (by rw [List.length_set, wl_len]; omega), List.getElem?_eq_none (by rw [wl_len, hz1]; omega)]
theorem cel_congr {B : Nat} {dA : Nat → ClassId} {h h1 : Hp} {a : Nat} (e0 : hK h1 a = hK h a) (e1 : hI h1 a = hI h a) (e2 : hL h1 a = hL h a) (e3 : hR h1 a = hR h a) : cel B dA h1 a = cel B dA h a := by
  unfold cel flds fvl
  rw [e0, e1, e2, e3]
theorem up2_ne {α : Type} {f : Nat → Nat → α} {a k b : Nat} {x : α} (e : b ≠ a) : up2 f a k x b = f b := by simp [up2, va_up, e]
theorem up2_self {α : Type} {f : Nat → Nat → α} {a k : Nat} {x : α} : up2 f a k x a = va_up (f a) k x := by simp [up2, va_up]
theorem sI_o {B : Nat} {dA : Nat → ClassId} {h : Hp} {a k b : Nat} {x : Int32} (e : b ≠ a) : cel B dA (sI h a k x) b = cel B dA h b := cel_congr rfl (up2_ne e) rfl rfl
theorem sL_o {B : Nat} {dA : Nat → ClassId} {h : Hp} {a k b : Nat} {x : Int64} (e : b ≠ a) : cel B dA (sL h a k x) b = cel B dA h b := cel_congr rfl rfl (up2_ne e) rfl
theorem sR_o {B : Nat} {dA : Nat → ClassId} {h : Hp} {a k b : Nat} {x : Option Nat} (e : b ≠ a) : cel B dA (sR h a k x) b = cel B dA h b := cel_congr rfl rfl rfl (up2_ne e)
theorem sC_o {B : Nat} {dA : Nat → ClassId} {h : Hp} {a b : Nat} {f : Nat → Int32} (e : b ≠ a) : cel B dA (sC h a f) b = cel B dA h b := cel_congr rfl (by simp [hI, sC, va_up, e]) rfl rfl
theorem flds_at {B : Nat} {h : Hp} {a t k : Nat} (hk : k < nfl t) : (flds B h a t)[k]? = some (fvl B h a (fty t k) k) := by simp [flds, hk]
theorem flds_len {B : Nat} {h : Hp} {a t : Nat} : (flds B h a t).length = nfl t := by simp [flds]
theorem flds_set {B : Nat} {h h1 : Hp} {a t k : Nat} {v : Value} (hk : k < nfl t) (hv : fvl B h1 a (fty t k) k = v) (ho : ∀ j, j ≠ k → fvl B h1 a (fty t j) j = fvl B h a (fty t j) j) : (flds B h a t).set k v = flds B h1 a t := by
  apply List.ext_getElem?
  intro j
  by_cases hj : j < nfl t
  · rw [flds_at (h := h1) hj]
    by_cases e : k = j
    · subst e
      rw [List.getElem?_set_self (by rw [flds_len]; exact hk), hv]
    · rw [List.getElem?_set_ne e, flds_at hj, ho j (fun q => e q.symm)]
  · rw [List.getElem?_eq_none (by rw [List.length_set, flds_len]; omega), List.getElem?_eq_none (by rw [flds_len]; omega)]
theorem cel_obj {B : Nat} {dA : Nat → ClassId} {h : Hp} {a t : Nat} (e : (hK h a).1 = t) (ht : t < 13) : cel B dA h a = .inr (t, flds B h a t) := by subst e; simp [cel, ht]
theorem cel_13 {B : Nat} {dA : Nat → ClassId} {h : Hp} {a : Nat} (e : (hK h a).1 = 13) : cel B dA h a = .inl (dA 0, (hK h a).2, .inl (hI h a)) := by simp [cel, e]
theorem cel_14 {B : Nat} {dA : Nat → ClassId} {h : Hp} {a : Nat} (e : (hK h a).1 = 14) : cel B dA h a = .inl (dA 1, (hK h a).2, .inr (.inl (hL h a))) := by simp [cel, e]
theorem cel_15 {B : Nat} {dA : Nat → ClassId} {h : Hp} {a : Nat} (e : (hK h a).1 = 15) : cel B dA h a = .inl (dA 2, (hK h a).2, .inl (hI h a)) := by simp [cel, e]
theorem cel_16 {B : Nat} {dA : Nat → ClassId} {h : Hp} {a : Nat} (e : (hK h a).1 = 16) : cel B dA h a = .inl (dA 3, (hK h a).2, .inl (hI h a)) := by simp [cel, e]
theorem cel_17 {B : Nat} {dA : Nat → ClassId} {h : Hp} {a : Nat} (e : (hK h a).1 = 17) : cel B dA h a = .inl (dA 4, (hK h a).2, .inr (.inr (.inr (.inr (fun j => (hR h a j).map (fun a => B + a)))))) := by simp [cel, e]
theorem cel_18 {B : Nat} {dA : Nat → ClassId} {h : Hp} {a : Nat} (e : (hK h a).1 = 18) : cel B dA h a = .inl (dA 5, (hK h a).2, .inr (.inr (.inr (.inr (fun j => (hR h a j).map (fun a => B + a)))))) := by simp [cel, e]
end
section
/-! values on the stack and in the locals: an int, a long, a reference -/
abbrev AV : Type := Int32 ⊕ Int64 ⊕ Option Nat ⊕ Nat
abbrev vi (x : Int32) : AV := .inl x
abbrev vl (x : Int64) : AV := .inr (.inl x)
abbrev vr (r : Option Nat) : AV := .inr (.inr (.inl r))
/-- a cell that was there before -/
abbrev vb (b : Nat) : AV := .inr (.inr (.inr b))
def val (B : Nat) : AV → Value
  | .inl x => .int x
  | .inr (.inl x) => .long x
  | .inr (.inr (.inl r)) => rv B r
  | .inr (.inr (.inr b)) => .ref b
def isL : AV → Bool
  | .inr (.inl _) => true
  | _ => false
def cat : AV → Nat
  | .inr (.inl _) => 2
  | _ => 1
theorem rv_cat (B : Nat) (r : Option Nat) : (rv B r).category = 1 := by cases r <;> rfl
theorem val_cat (B : Nat) (v : AV) : (val B v).category = cat v := by
  rcases v with x | x | r | b
  · rfl
  · rfl
  · exact rv_cat B r
  · rfl
theorem val_isL (B : Nat) (v : AV) : ((val B v).category == 2) = isL v := by
  rcases v with x | x | r | b
  · rfl
  · rfl
  · show ((rv B r).category == 2) = false
    rw [rv_cat]; rfl
  · rfl
abbrev ml (B : Nat) (lv : List (Nat × AV)) : List (Nat × Value) := lv.map (fun q => (q.1, val B q.2))
theorem ml_at {B : Nat} {lv : List (Nat × AV)} {k i : Nat} {v : AV} (h : lv[k]? = some (i, v)) : (ml B lv)[k]? = some (i, val B v) := by
  rw [List.getElem?_map, h]; rfl
theorem ml_set1 {B : Nat} {lv lv' : List (Nat × AV)} {i : Nat} {v : AV} (h : (i, v) :: lv.filter (fun q => !(q.1 == i) && !(q.1 + 1 == i && isL q.2)) = lv') : (i, val B v) :: (ml B lv).filter (fun q => !(q.1 == i) && !(q.1 + 1 == i && q.2.category == 2)) = ml B lv' := by
  subst h
  unfold ml
  rw [List.map_cons, List.filter_map]
  congr 3
  funext q
  show (!(q.1 == i) && !(q.1 + 1 == i && (val B q.2).category == 2)) = _
  rw [val_isL]
theorem ml_set2 {B : Nat} {lv lv' : List (Nat × AV)} {i : Nat} {v : AV} (h : (i, v) :: lv.filter (fun q => !(q.1 == i) && (!(q.1 == i + 1) && !(q.1 + 1 == i && isL q.2))) = lv') : (i, val B v) :: (ml B lv).filter (fun q => !(q.1 == i) && (!(q.1 == i + 1) && !(q.1 + 1 == i && q.2.category == 2))) = ml B lv' := by
  subst h
  unfold ml
  rw [List.map_cons, List.filter_map]
  congr 3
  funext q
  show (!(q.1 == i) && (!(q.1 == i + 1) && !(q.1 + 1 == i && (val B q.2).category == 2))) = _
  rw [val_isL]
theorem ml_pick {B : Nat} {lv lv' : List (Nat × AV)} (ks : List Nat) (h : ks.filterMap (fun k => lv[k]?) = lv') : lv_pick (ml B lv) ks = ml B lv' := by
  subst h
  unfold ml lv_pick
  rw [List.map_filterMap]
  congr 1
  funext k
  rw [List.getElem?_map]
theorem cat_sum (B : Nat) (st : List AV) : (st.map (val B)).map (fun v => v.category) = st.map cat := by
  rw [List.map_map]
  congr 1
  funext v
  exact val_cat B v
/-! what the tables say, beside the words of GT -/
def isSoft : Cond → Bool
  | .castable _ _ => true
  | .declares _ => true
  | _ => false
theorem soft_moved {w : Cond} {u U : State} (hs : isSoft w = true) (hvm : u.vm.Alike U.vm) (h : va_Nw w u) : va_Nw w U := by
  cases w <;> first | (simp [isSoft] at hs; done) | skip
  · exact va_tabs rfl (rfl : (u.setVm U.vm).vm = U.vm) (by rw [Cond.declares_setVm hvm]; exact h)
  · exact va_tabs rfl (rfl : (u.setVm U.vm).vm = U.vm) (by rw [Cond.castable_setVm hvm]; exact h)
def Kx (D : va_G) (dA : Nat → ClassId) (U : State) : Prop := va_K D kCL (tyl dA) U ∧ va_AO "RingingChamber$Lead" U ∧ va_AO "RingingChamber$Method" U ∧ (∀ t r, t ∈ [1, 2, 3, 7, 10] → kCL[t]? = some r → va_Nc r.1 "RingingChamber$Spliced" U) ∧ ∀ w ∈ lw_tbl, isSoft w = true → va_Nw w U
theorem Kx.moved {D : va_G} {dA : Nat → ClassId} {u U : State} (hvm : u.vm.Alike U.vm) (h : Kx D dA u) : Kx D dA U := ⟨va_K.moved hvm h.1, va_AO.moved hvm h.2.1, va_AO.moved hvm h.2.2.1, fun t r h1 h2 => va_Nc.moved hvm (h.2.2.2.1 t r h1 h2), fun w h1 h2 => soft_moved h2 hvm (h.2.2.2.2 w h1 h2)⟩
def Wk (D : va_G) (dA : Nat → ClassId) (B : Nat) (h : Hp) (U : State) : Prop := U.heap.size = B + hz h ∧ va_P D kCL (wl B dA h) U.heap ∧ Kx D dA U
abbrev Qv (D : va_G) (dA : Nat → ClassId) (B : Nat) (v : Option Value) (h : Hp) : Array Value → State → Outcome → State → Prop := fun _ st oc t => oc = .returned v ∧ (va_P D kCL (wl B dA h) t.heap ∧ Kx D dA t) ∧ va_F (fun q => B ≤ q) st t
/-- a method's walk: what doesn't change -/
def Cx (p : Program) (R : Room) (s : State) (m : MethodId) (args : Array Value) (meth : Method) (c : Code) (cc : ByteArray) (nL : Nat) (own : String) (fr lo : Nat) (ret : Option FieldType) (nme : String) (D : va_G) (dA : Nat → ClassId) (B n0 : Nat) : Prop :=
  p.tables.exec = Jvm.exec ∧ c.code = cc ∧ c.maxLocals = nL ∧ s.vm.findClass own = some m.cls ∧ (∀ w ∈ GT, w.before args s = true) ∧ Kx D dA s ∧ meth.locks = false ∧ s.heap.size = B + n0 ∧ R.frames = fr ∧ R.locals = lo ∧ meth.sig.returnType = ret ∧ meth.name = nme
/-- from here the machine comes to the end that the pure program f tells, if it tells one -/
def J {α : Type} (p : Program) (l : Launch) (e : Env) (R : Room) (s : State) (m : MethodId) (args : Array Value) (below : List Frame) (meth : Method) (c : Code) (cc : ByteArray) (nL : Nat) (own : String) (fr lo : Nat) (ret : Option FieldType) (nme : String) (D : va_G) (dA : Nat → ClassId) (B n0 s0 : Nat) (Q : α → Hp → State → Prop) (pc : Nat) (lv : List (Nat × AV)) (st : List AV) (h : Hp) (f : Option (α × Hp)) : Prop :=
  ∀ (r : α) (h' : Hp), f = some (r, h') → (hz h ≤ hz h' ∧ hs h ≤ hs h') ∧ (Cx p R s m args meth c cc nL own fr lo ret nme D dA B n0 → hz h' ≤ n0 + R.cells → hs h' ≤ s0 + R.slots → ∀ (H : Heap) (locs : List Loc) (ls : Array Slot) (cells slots : Nat), cells + n0 = hz h → slots + s0 = hs h →
    va_P D kCL (wl B dA h) H → va_S (fun q => B ≤ q) s.heap H locs → lv_has ls nL (ml B lv) → W p l e R s m args below meth c H locs cells slots (Q r h') (F0 m pc ls (st.map (val B))))
section RJ
variable {α : Type} {p : Program} {l : Launch} {e : Env} {R : Room} {s : State} {m : MethodId} {args : Array Value} {below : List Frame} {meth : Method} {c : Code} {cc : ByteArray} {nL : Nat} {own : String} {fr lo : Nat} {ret : Option FieldType} {nme : String} {D : va_G} {dA : Nat → ClassId} {B n0 s0 : Nat} {Q : α → Hp → State → Prop} {pc pc' : Nat} {lv lv' : List (Nat × AV)} {st st' : List AV} {h : Hp} {f f1 f2 : Option (α × Hp)}
theorem J.none : J p l e R s m args below meth c cc nL own fr lo ret nme D dA B n0 s0 Q pc lv st h (none : Option (α × Hp)) := fun _ _ e => by cases e
theorem J.go (hh : ∀ (X : Cx p R s m args meth c cc nL own fr lo ret nme D dA B n0) (H : Heap) (locs : List Loc) (ls : Array Slot) (cells slots : Nat) (Q1 : State → Prop), lv_has ls nL (ml B lv) → W p l e R s m args below meth c H locs cells slots Q1 (F0 m pc' ls (st'.map (val B))) → W p l e R s m args below meth c H locs cells slots Q1 (F0 m pc ls (st.map (val B)))) (k : J p l e R s m args below meth c cc nL own fr lo ret nme D dA B n0 s0 Q pc' lv st' h f) : J p l e R s m args below meth c cc nL own fr lo ret nme D dA B n0 s0 Q pc lv st h f :=
  fun r h' ef => ⟨(k r h' ef).1, fun X c1 c2 H locs ls n1 n2 e1 e2 w1 w2 w3 => hh X H locs ls n1 n2 _ w3 ((k r h' ef).2 X c1 c2 H locs ls n1 n2 e1 e2 w1 w2 w3)⟩
theorem J.goS (hh : ∀ (X : Cx p R s m args meth c cc nL own fr lo ret nme D dA B n0) (H : Heap) (locs : List Loc) (ls : Array Slot) (cells slots : Nat) (Q1 : State → Prop), lv_has ls nL (ml B lv) → (∀ ls', lv_has ls' nL (ml B lv') → W p l e R s m args below meth c H locs cells slots Q1 (F0 m pc' ls' (st'.map (val B)))) → W p l e R s m args below meth c H locs cells slots Q1 (F0 m pc ls (st.map (val B)))) (k : J p l e R s m args below meth c cc nL own fr lo ret nme D dA B n0 s0 Q pc' lv' st' h f) : J p l e R s m args below meth c cc nL own fr lo ret nme D dA B n0 s0 Q pc lv st h f :=
  fun r h' ef => ⟨(k r h' ef).1, fun X c1 c2 H locs ls n1 n2 e1 e2 w1 w2 w3 => hh X H locs ls n1 n2 _ w3 (fun ls' w3 => (k r h' ef).2 X c1 c2 H locs ls' n1 n2 e1 e2 w1 w2 w3)⟩
theorem J.go2 {pc1 pc2 : Nat} {st1 st2 : List AV} {cnd : Prop} {dc : Decidable cnd} (hh : ∀ (X : Cx p R s m args meth c cc nL own fr lo ret nme D dA B n0) (H : Heap) (locs : List Loc) (ls : Array Slot) (cells slots : Nat) (Q1 : State → Prop), lv_has ls nL (ml B lv) → (cnd → W p l e R s m args below meth c H locs cells slots Q1 (F0 m pc1 ls (st1.map (val B)))) → (¬ cnd → W p l e R s m args below meth c H locs cells slots Q1 (F0 m pc2 ls (st2.map (val B)))) → W p l e R s m args below meth c H locs cells slots Q1 (F0 m pc ls (st.map (val B)))) (k1 : J p l e R s m args below meth c cc nL own fr lo ret nme D dA B n0 s0 Q pc1 lv st1 h f1) (k2 : J p l e R s m args below meth c cc nL own fr lo ret nme D dA B n0 s0 Q pc2 lv st2 h f2) : J p l e R s m args below meth c cc nL own fr lo ret nme D dA B n0 s0 Q pc lv st h (@ite _ cnd dc f1 f2) := by
  intro r h' ef
  by_cases hc : cnd
  · rw [if_pos hc] at ef
    exact ⟨(k1 r h' ef).1, fun X c1 c2 H locs ls n1 n2 e1 e2 w1 w2 w3 => hh X H locs ls n1 n2 _ w3 (fun _ => (k1 r h' ef).2 X c1 c2 H locs ls n1 n2 e1 e2 w1 w2 w3) (fun q => absurd hc q)⟩
  · rw [if_neg hc] at ef
    exact ⟨(k2 r h' ef).1, fun X c1 c2 H locs ls n1 n2 e1 e2 w1 w2 w3 => hh X H locs ls n1 n2 _ w3 (fun q => absurd q hc) (fun _ => (k2 r h' ef).2 X c1 c2 H locs ls n1 n2 e1 e2 w1 w2 w3)⟩
theorem J.sub (ks : List Nat) (hl : ks.filterMap (fun k => lv[k]?) = lv') (k : J p l e R s m args below meth c cc nL own fr lo ret nme D dA B n0 s0 Q pc lv' st h f) : J p l e R s m args below meth c cc nL own fr lo ret nme D dA B n0 s0 Q pc lv st h f :=
  fun r h' ef => ⟨(k r h' ef).1, fun X c1 c2 H locs ls n1 n2 e1 e2 w1 w2 w3 => (k r h' ef).2 X c1 c2 H locs ls n1 n2 e1 e2 w1 w2 (lv_sub w3 ks (ml_pick ks hl))⟩
theorem j_iconst  {n : Int} {v : Int32} (hdg : decode cc pc = .ok (.iconst n, 1)) (hv : Int32.ofInt n = v) (k : J p l e R s m args below meth c cc nL own fr lo ret nme D dA B n0 s0 Q (pc + 1) lv (vi v :: st) h f) : J p l e R s m args below meth c cc nL own fr lo ret nme D dA B n0 s0 Q pc lv st h f :=
  J.go (fun X _ _ _ _ _ _ w3 w => lv_iconst X.1 X.2.1 hdg hv w) k
theorem j_bipush  {n : Int} {v : Int32} (hdg : decode cc pc = .ok (.bipush n, 2)) (hv : (Int8.ofInt n).toInt32 = v) (k : J p l e R s m args below meth c cc nL own fr lo ret nme D dA B n0 s0 Q (pc + 2) lv (vi v :: st) h f) : J p l e R s m args below meth c cc nL own fr lo ret nme D dA B n0 s0 Q pc lv st h f :=
  J.go (fun X _ _ _ _ _ _ w3 w => lv_bipush X.1 X.2.1 hdg hv w) k
theorem j_sipush  {n : Int} {v : Int32} (hdg : decode cc pc = .ok (.sipush n, 3)) (hv : (Int16.ofInt n).toInt32 = v) (k : J p l e R s m args below meth c cc nL own fr lo ret nme D dA B n0 s0 Q (pc + 3) lv (vi v :: st) h f) : J p l e R s m args below meth c cc nL own fr lo ret nme D dA B n0 s0 Q pc lv st h f :=
  J.go (fun X _ _ _ _ _ _ w3 w => lv_sipush X.1 X.2.1 hdg hv w) k
theorem j_lconst  {n : Fin 2} {v : Int64} (hdg : decode cc pc = .ok (.lconst n, 1)) (hv : Int64.ofNat (n : Nat) = v) (k : J p l e R s m args below meth c cc nL own fr lo ret nme D dA B n0 s0 Q (pc + 1) lv (vl v :: st) h f) : J p l e R s m args below meth c cc nL own fr lo ret nme D dA B n0 s0 Q pc lv st h f :=
  J.go (fun X _ _ _ _ _ _ w3 w => lv_lconst X.1 X.2.1 hdg hv w) k
theorem j_null   (hdg : decode cc pc = .ok (.aconst_null, 1))  (k : J p l e R s m args below meth c cc nL own fr lo ret nme D dA B n0 s0 Q (pc + 1) lv (vr none :: st) h f) : J p l e R s m args below meth c cc nL own fr lo ret nme D dA B n0 s0 Q pc lv st h f :=
  J.go (fun X _ _ _ _ _ _ w3 w => lv_null X.1 X.2.1 hdg w) k
theorem j_ldc  {i : Nat} {v : Int32} (hdg : decode cc pc = .ok (.ldc i, 2)) (hc : Cond.constant own i v ∈ GT) (k : J p l e R s m args below meth c cc nL own fr lo ret nme D dA B n0 s0 Q (pc + 2) lv (vi v :: st) h f) : J p l e R s m args below meth c cc nL own fr lo ret nme D dA B n0 s0 Q pc lv st h f :=
  J.go (fun X _ _ _ _ _ _ w3 w => lv_ldc X.1 X.2.1 X.2.2.2.1 (X.2.2.2.2.1 _ hc) hdg w) k
theorem j_ldcw  {i : Nat} {v : Int32} (hdg : decode cc pc = .ok (.ldc_w i, 3)) (hc : Cond.constant own i v ∈ GT) (k : J p l e R s m args below meth c cc nL own fr lo ret nme D dA B n0 s0 Q (pc + 3) lv (vi v :: st) h f) : J p l e R s m args below meth c cc nL own fr lo ret nme D dA B n0 s0 Q pc lv st h f :=
  J.go (fun X _ _ _ _ _ _ w3 w => lv_ldcw X.1 X.2.1 X.2.2.2.1 (X.2.2.2.2.1 _ hc) hdg w) k
theorem j_ldc2  {i : Nat} {v : Int64} (hdg : decode cc pc = .ok (.ldc2_w i, 3)) (hc : Cond.constantLong own i v ∈ GT) (k : J p l e R s m args below meth c cc nL own fr lo ret nme D dA B n0 s0 Q (pc + 3) lv (vl v :: st) h f) : J p l e R s m args below meth c cc nL own fr lo ret nme D dA B n0 s0 Q pc lv st h f :=
  J.go (fun X _ _ _ _ _ _ w3 w => lv_ldc2 X.1 X.2.1 X.2.2.2.1 (X.2.2.2.2.1 _ hc) hdg w) k
theorem j_iload_n  {q : Fin 4} {i : Nat} {x : Int32} (hdg : decode cc pc = .ok (.iload_n q, 1)) (n : Nat) (hi : (q : Nat) = i) (hk : lv[n]? = some (i, vi x)) (k : J p l e R s m args below meth c cc nL own fr lo ret nme D dA B n0 s0 Q (pc + 1) lv (vi x :: st) h f) : J p l e R s m args below meth c cc nL own fr lo ret nme D dA B n0 s0 Q pc lv st h f :=
  J.go (fun X _ _ _ _ _ _ w3 w => lv_iload_n X.1 X.2.1 hdg hi (lv_at w3 n (ml_at hk)) w) k
theorem j_iload  {i : Nat} {x : Int32} (hdg : decode cc pc = .ok (.iload i, 2)) (n : Nat) (hk : lv[n]? = some (i, vi x)) (k : J p l e R s m args below meth c cc nL own fr lo ret nme D dA B n0 s0 Q (pc + 2) lv (vi x :: st) h f) : J p l e R s m args below meth c cc nL own fr lo ret nme D dA B n0 s0 Q pc lv st h f :=
  J.go (fun X _ _ _ _ _ _ w3 w => lv_iload X.1 X.2.1 hdg (lv_at w3 n (ml_at hk)) w) k
theorem j_lload_n  {q : Fin 4} {i : Nat} {x : Int64} (hdg : decode cc pc = .ok (.lload_n q, 1)) (n : Nat) (hi : (q : Nat) = i) (hk : lv[n]? = some (i, vl x)) (k : J p l e R s m args below meth c cc nL own fr lo ret nme D dA B n0 s0 Q (pc + 1) lv (vl x :: st) h f) : J p l e R s m args below meth c cc nL own fr lo ret nme D dA B n0 s0 Q pc lv st h f :=
  J.go (fun X _ _ _ _ _ _ w3 w => lv_lload_n X.1 X.2.1 hdg hi (lv_at w3 n (ml_at hk)) w) k
theorem j_lload  {i : Nat} {x : Int64} (hdg : decode cc pc = .ok (.lload i, 2)) (n : Nat) (hk : lv[n]? = some (i, vl x)) (k : J p l e R s m args below meth c cc nL own fr lo ret nme D dA B n0 s0 Q (pc + 2) lv (vl x :: st) h f) : J p l e R s m args below meth c cc nL own fr lo ret nme D dA B n0 s0 Q pc lv st h f :=
  J.go (fun X _ _ _ _ _ _ w3 w => lv_lload X.1 X.2.1 hdg (lv_at w3 n (ml_at hk)) w) k
theorem j_aload_n  {q : Fin 4} {i : Nat} {x : Option Nat} (hdg : decode cc pc = .ok (.aload_n q, 1)) (n : Nat) (hi : (q : Nat) = i) (hk : lv[n]? = some (i, vr x)) (k : J p l e R s m args below meth c cc nL own fr lo ret nme D dA B n0 s0 Q (pc + 1) lv (vr x :: st) h f) : J p l e R s m args below meth c cc nL own fr lo ret nme D dA B n0 s0 Q pc lv st h f := by
  refine J.go (fun X _ _ _ _ _ _ w3 w => ?_) k
  have h1 := lv_at w3 n (ml_at hk)
  cases x with
  | none => exact lv_aload_nN X.1 X.2.1 hdg hi h1 w
  | some a => exact lv_aload_n X.1 X.2.1 hdg hi h1 w
theorem j_aload  {i : Nat} {x : Option Nat} (hdg : decode cc pc = .ok (.aload i, 2)) (n : Nat) (hk : lv[n]? = some (i, vr x)) (k : J p l e R s m args below meth c cc nL own fr lo ret nme D dA B n0 s0 Q (pc + 2) lv (vr x :: st) h f) : J p l e R s m args below meth c cc nL own fr lo ret nme D dA B n0 s0 Q pc lv st h f := by
  refine J.go (fun X _ _ _ _ _ _ w3 w => ?_) k
  have h1 := lv_at w3 n (ml_at hk)
  cases x with
  | none => exact lv_aloadN X.1 X.2.1 hdg h1 w
  | some a => exact lv_aload X.1 X.2.1 hdg h1 w
theorem j_istore_n  {q : Fin 4} {i : Nat} {x : Int32} (hdg : decode cc pc = .ok (.istore_n q, 1)) (hi : (q : Nat) = i) (hn : i < nL) (hl : (i, vi x) :: lv.filter (fun q => !(q.1 == i) && !(q.1 + 1 == i && isL q.2)) = lv') (k : J p l e R s m args below meth c cc nL own fr lo ret nme D dA B n0 s0 Q (pc + 1) lv' st h f) : J p l e R s m args below meth c cc nL own fr lo ret nme D dA B n0 s0 Q pc lv (vi x :: st) h f :=
  J.goS (fun X _ _ _ _ _ _ w3 w => lv_istore_n X.1 X.2.1 hdg hi w3 hn (ml_set1 hl) w) k
theorem j_istore  {i : Nat} {x : Int32} (hdg : decode cc pc = .ok (.istore i, 2)) (hn : i < nL) (hl : (i, vi x) :: lv.filter (fun q => !(q.1 == i) && !(q.1 + 1 == i && isL q.2)) = lv') (k : J p l e R s m args below meth c cc nL own fr lo ret nme D dA B n0 s0 Q (pc + 2) lv' st h f) : J p l e R s m args below meth c cc nL own fr lo ret nme D dA B n0 s0 Q pc lv (vi x :: st) h f :=
  J.goS (fun X _ _ _ _ _ _ w3 w => lv_istore X.1 X.2.1 hdg w3 hn (ml_set1 hl) w) k
theorem j_lstore_n  {q : Fin 4} {i : Nat} {x : Int64} (hdg : decode cc pc = .ok (.lstore_n q, 1)) (hi : (q : Nat) = i) (hn : i + 1 < nL) (hl : (i, vl x) :: lv.filter (fun q => !(q.1 == i) && (!(q.1 == i + 1) && !(q.1 + 1 == i && isL q.2))) = lv') (k : J p l e R s m args below meth c cc nL own fr lo ret nme D dA B n0 s0 Q (pc + 1) lv' st h f) : J p l e R s m args below meth c cc nL own fr lo ret nme D dA B n0 s0 Q pc lv (vl x :: st) h f :=
  J.goS (fun X _ _ _ _ _ _ w3 w => lv_lstore_n X.1 X.2.1 hdg hi w3 hn (ml_set2 hl) w) k
theorem j_lstore  {i : Nat} {x : Int64} (hdg : decode cc pc = .ok (.lstore i, 2)) (hn : i + 1 < nL) (hl : (i, vl x) :: lv.filter (fun q => !(q.1 == i) && (!(q.1 == i + 1) && !(q.1 + 1 == i && isL q.2))) = lv') (k : J p l e R s m args below meth c cc nL own fr lo ret nme D dA B n0 s0 Q (pc + 2) lv' st h f) : J p l e R s m args below meth c cc nL own fr lo ret nme D dA B n0 s0 Q pc lv (vl x :: st) h f :=
  J.goS (fun X _ _ _ _ _ _ w3 w => lv_lstore X.1 X.2.1 hdg w3 hn (ml_set2 hl) w) k
theorem j_astore_n  {q : Fin 4} {i : Nat} {x : Option Nat} (hdg : decode cc pc = .ok (.astore_n q, 1)) (hi : (q : Nat) = i) (hn : i < nL) (hl : (i, vr x) :: lv.filter (fun q => !(q.1 == i) && !(q.1 + 1 == i && isL q.2)) = lv') (k : J p l e R s m args below meth c cc nL own fr lo ret nme D dA B n0 s0 Q (pc + 1) lv' st h f) : J p l e R s m args below meth c cc nL own fr lo ret nme D dA B n0 s0 Q pc lv (vr x :: st) h f:= by
  refine J.goS (fun X _ _ _ _ _ _ w3 w => ?_) k
  have h1 := ml_set1 (B := B) hl
  cases x with
  | none => exact lv_astore_nN X.1 X.2.1 hdg hi w3 hn h1 w
  | some a => exact lv_astore_n X.1 X.2.1 hdg hi w3 hn h1 w
theorem j_astore  {i : Nat} {x : Option Nat} (hdg : decode cc pc = .ok (.astore i, 2)) (hn : i < nL) (hl : (i, vr x) :: lv.filter (fun q => !(q.1 == i) && !(q.1 + 1 == i && isL q.2)) = lv') (k : J p l e R s m args below meth c cc nL own fr lo ret nme D dA B n0 s0 Q (pc + 2) lv' st h f) : J p l e R s m args below meth c cc nL own fr lo ret nme D dA B n0 s0 Q pc lv (vr x :: st) h f:= by
  refine J.goS (fun X _ _ _ _ _ _ w3 w => ?_) k
  have h1 := ml_set1 (B := B) hl
  cases x with
  | none => exact lv_astoreN X.1 X.2.1 hdg w3 hn h1 w
  | some a => exact lv_astore X.1 X.2.1 hdg w3 hn h1 w
theorem j_iinc  {i : Nat} {z : Int} {x v0 : Int32} {lvv : Int32 → List (Nat × AV)} {g : Int32 → Option (α × Hp)} (hdg : decode cc pc = .ok (.iinc i z, 3)) (n : Nat) (hk : lv[n]? = some (i, vi x)) (hv : x + Int32.ofInt z = v0) (hn : i < nL) (hl : ∀ v, (i, vi v) :: lv.filter (fun q => !(q.1 == i) && !(q.1 + 1 == i && isL q.2)) = lvv v) (k : ∀ v : Int32, J p l e R s m args below meth c cc nL own fr lo ret nme D dA B n0 s0 Q (pc + 3) (lvv v) st h (g v)) : J p l e R s m args below meth c cc nL own fr lo ret nme D dA B n0 s0 Q pc lv st h (nm v0 g) :=
  J.goS (lv' := lvv v0) (fun X _ _ _ _ _ _ w3 w => lv_iinc X.1 X.2.1 hdg w3 (ml_at hk) hv hn (ml_set1 (hl v0)) w) (k v0)
theorem j_aload_nA  {q : Fin 4} {i b : Nat} (hdg : decode cc pc = .ok (.aload_n q, 1)) (n : Nat) (hi : (q : Nat) = i) (hk : lv[n]? = some (i, vb b)) (k : J p l e R s m args below meth c cc nL own fr lo ret nme D dA B n0 s0 Q (pc + 1) lv (vb b :: st) h f) : J p l e R s m args below meth c cc nL own fr lo ret nme D dA B n0 s0 Q pc lv st h f :=
  J.go (fun X _ _ _ _ _ _ w3 w => lv_aload_n X.1 X.2.1 hdg hi (lv_at w3 n (ml_at hk)) w) k
theorem j_iadd  {x y : Int32} (hdg : decode cc pc = .ok (.iadd, 1))  (k : J p l e R s m args below meth c cc nL own fr lo ret nme D dA B n0 s0 Q (pc + 1) lv (vi (x + y) :: st) h f) : J p l e R s m args below meth c cc nL own fr lo ret nme D dA B n0 s0 Q pc lv (vi y :: vi x :: st) h f :=
  J.go (fun X _ _ _ _ _ _ w3 w => lv_iadd X.1 X.2.1 hdg w) k
theorem j_isub  {x y : Int32} (hdg : decode cc pc = .ok (.isub, 1))  (k : J p l e R s m args below meth c cc nL own fr lo ret nme D dA B n0 s0 Q (pc + 1) lv (vi (x - y) :: st) h f) : J p l e R s m args below meth c cc nL own fr lo ret nme D dA B n0 s0 Q pc lv (vi y :: vi x :: st) h f :=
  J.go (fun X _ _ _ _ _ _ w3 w => lv_isub X.1 X.2.1 hdg w) k
theorem j_imul  {x y : Int32} (hdg : decode cc pc = .ok (.imul, 1))  (k : J p l e R s m args below meth c cc nL own fr lo ret nme D dA B n0 s0 Q (pc + 1) lv (vi (x * y) :: st) h f) : J p l e R s m args below meth c cc nL own fr lo ret nme D dA B n0 s0 Q pc lv (vi y :: vi x :: st) h f :=
  J.go (fun X _ _ _ _ _ _ w3 w => lv_imul X.1 X.2.1 hdg w) k
theorem j_iand  {x y : Int32} (hdg : decode cc pc = .ok (.iand, 1))  (k : J p l e R s m args below meth c cc nL own fr lo ret nme D dA B n0 s0 Q (pc + 1) lv (vi (x &&& y) :: st) h f) : J p l e R s m args below meth c cc nL own fr lo ret nme D dA B n0 s0 Q pc lv (vi y :: vi x :: st) h f :=
  J.go (fun X _ _ _ _ _ _ w3 w => lv_iand X.1 X.2.1 hdg w) k
theorem j_ior  {x y : Int32} (hdg : decode cc pc = .ok (.ior, 1))  (k : J p l e R s m args below meth c cc nL own fr lo ret nme D dA B n0 s0 Q (pc + 1) lv (vi (x ||| y) :: st) h f) : J p l e R s m args below meth c cc nL own fr lo ret nme D dA B n0 s0 Q pc lv (vi y :: vi x :: st) h f :=
  J.go (fun X _ _ _ _ _ _ w3 w => lv_ior X.1 X.2.1 hdg w) k
theorem j_ixor  {x y : Int32} (hdg : decode cc pc = .ok (.ixor, 1))  (k : J p l e R s m args below meth c cc nL own fr lo ret nme D dA B n0 s0 Q (pc + 1) lv (vi (x ^^^ y) :: st) h f) : J p l e R s m args below meth c cc nL own fr lo ret nme D dA B n0 s0 Q pc lv (vi y :: vi x :: st) h f :=
  J.go (fun X _ _ _ _ _ _ w3 w => lv_ixor X.1 X.2.1 hdg w) k
theorem j_ishl  {x y : Int32} (hdg : decode cc pc = .ok (.ishl, 1))  (k : J p l e R s m args below meth c cc nL own fr lo ret nme D dA B n0 s0 Q (pc + 1) lv (vi (x <<< (y &&& 31)) :: st) h f) : J p l e R s m args below meth c cc nL own fr lo ret nme D dA B n0 s0 Q pc lv (vi y :: vi x :: st) h f :=
  J.go (fun X _ _ _ _ _ _ w3 w => lv_ishl X.1 X.2.1 hdg w) k
theorem j_ishr  {x y : Int32} (hdg : decode cc pc = .ok (.ishr, 1))  (k : J p l e R s m args below meth c cc nL own fr lo ret nme D dA B n0 s0 Q (pc + 1) lv (vi (x >>> (y &&& 31)) :: st) h f) : J p l e R s m args below meth c cc nL own fr lo ret nme D dA B n0 s0 Q pc lv (vi y :: vi x :: st) h f :=
  J.go (fun X _ _ _ _ _ _ w3 w => lv_ishr X.1 X.2.1 hdg w) k
theorem j_iushr  {x y : Int32} (hdg : decode cc pc = .ok (.iushr, 1))  (k : J p l e R s m args below meth c cc nL own fr lo ret nme D dA B n0 s0 Q (pc + 1) lv (vi ((x.toUInt32 >>> (y.toUInt32 &&& Int32.toUInt32 31)).toInt32) :: st) h f) : J p l e R s m args below meth c cc nL own fr lo ret nme D dA B n0 s0 Q pc lv (vi y :: vi x :: st) h f :=
  J.go (fun X _ _ _ _ _ _ w3 w => lv_iushr X.1 X.2.1 hdg rfl w) k
theorem j_ineg  {x : Int32} (hdg : decode cc pc = .ok (.ineg, 1))  (k : J p l e R s m args below meth c cc nL own fr lo ret nme D dA B n0 s0 Q (pc + 1) lv (vi (-x) :: st) h f) : J p l e R s m args below meth c cc nL own fr lo ret nme D dA B n0 s0 Q pc lv (vi x :: st) h f :=
  J.go (fun X _ _ _ _ _ _ w3 w => lv_ineg X.1 X.2.1 hdg w) k
theorem j_ladd  {x y : Int64} (hdg : decode cc pc = .ok (.ladd, 1))  (k : J p l e R s m args below meth c cc nL own fr lo ret nme D dA B n0 s0 Q (pc + 1) lv (vl (x + y) :: st) h f) : J p l e R s m args below meth c cc nL own fr lo ret nme D dA B n0 s0 Q pc lv (vl y :: vl x :: st) h f :=
  J.go (fun X _ _ _ _ _ _ w3 w => lv_ladd X.1 X.2.1 hdg w) k
theorem j_lsub  {x y : Int64} (hdg : decode cc pc = .ok (.lsub, 1))  (k : J p l e R s m args below meth c cc nL own fr lo ret nme D dA B n0 s0 Q (pc + 1) lv (vl (x - y) :: st) h f) : J p l e R s m args below meth c cc nL own fr lo ret nme D dA B n0 s0 Q pc lv (vl y :: vl x :: st) h f :=
  J.go (fun X _ _ _ _ _ _ w3 w => lv_lsub X.1 X.2.1 hdg w) k
theorem j_lmul  {x y : Int64} (hdg : decode cc pc = .ok (.lmul, 1))  (k : J p l e R s m args below meth c cc nL own fr lo ret nme D dA B n0 s0 Q (pc + 1) lv (vl (x * y) :: st) h f) : J p l e R s m args below meth c cc nL own fr lo ret nme D dA B n0 s0 Q pc lv (vl y :: vl x :: st) h f :=
  J.go (fun X _ _ _ _ _ _ w3 w => lv_lmul X.1 X.2.1 hdg w) k
theorem j_land  {x y : Int64} (hdg : decode cc pc = .ok (.land, 1))  (k : J p l e R s m args below meth c cc nL own fr lo ret nme D dA B n0 s0 Q (pc + 1) lv (vl (x &&& y) :: st) h f) : J p l e R s m args below meth c cc nL own fr lo ret nme D dA B n0 s0 Q pc lv (vl y :: vl x :: st) h f :=
  J.go (fun X _ _ _ _ _ _ w3 w => lv_land X.1 X.2.1 hdg w) k
theorem j_lor  {x y : Int64} (hdg : decode cc pc = .ok (.lor, 1))  (k : J p l e R s m args below meth c cc nL own fr lo ret nme D dA B n0 s0 Q (pc + 1) lv (vl (x ||| y) :: st) h f) : J p l e R s m args below meth c cc nL own fr lo ret nme D dA B n0 s0 Q pc lv (vl y :: vl x :: st) h f :=
  J.go (fun X _ _ _ _ _ _ w3 w => lv_lor X.1 X.2.1 hdg w) k
theorem j_lxor  {x y : Int64} (hdg : decode cc pc = .ok (.lxor, 1))  (k : J p l e R s m args below meth c cc nL own fr lo ret nme D dA B n0 s0 Q (pc + 1) lv (vl (x ^^^ y) :: st) h f) : J p l e R s m args below meth c cc nL own fr lo ret nme D dA B n0 s0 Q pc lv (vl y :: vl x :: st) h f :=
  J.go (fun X _ _ _ _ _ _ w3 w => lv_lxor X.1 X.2.1 hdg w) k
theorem j_lshl  {x : Int64} {y : Int32} (hdg : decode cc pc = .ok (.lshl, 1))  (k : J p l e R s m args below meth c cc nL own fr lo ret nme D dA B n0 s0 Q (pc + 1) lv (vl (x <<< (y.toInt64 &&& 63)) :: st) h f) : J p l e R s m args below meth c cc nL own fr lo ret nme D dA B n0 s0 Q pc lv (vi y :: vl x :: st) h f :=
  J.go (fun X _ _ _ _ _ _ w3 w => lv_lshl X.1 X.2.1 hdg rfl w) k
theorem j_lshr  {x : Int64} {y : Int32} (hdg : decode cc pc = .ok (.lshr, 1))  (k : J p l e R s m args below meth c cc nL own fr lo ret nme D dA B n0 s0 Q (pc + 1) lv (vl (x >>> (y.toInt64 &&& 63)) :: st) h f) : J p l e R s m args below meth c cc nL own fr lo ret nme D dA B n0 s0 Q pc lv (vi y :: vl x :: st) h f :=
  J.go (fun X _ _ _ _ _ _ w3 w => lv_lshr X.1 X.2.1 hdg rfl w) k
theorem j_lushr  {x : Int64} {y : Int32} (hdg : decode cc pc = .ok (.lushr, 1))  (k : J p l e R s m args below meth c cc nL own fr lo ret nme D dA B n0 s0 Q (pc + 1) lv (vl ((x.toUInt64 >>> (y.toInt64.toUInt64 &&& Int64.toUInt64 63)).toInt64) :: st) h f) : J p l e R s m args below meth c cc nL own fr lo ret nme D dA B n0 s0 Q pc lv (vi y :: vl x :: st) h f :=
  J.go (fun X _ _ _ _ _ _ w3 w => lv_lushr X.1 X.2.1 hdg rfl w) k
theorem j_lcmp  {x y : Int64} (hdg : decode cc pc = .ok (.lcmp, 1))  (k : J p l e R s m args below meth c cc nL own fr lo ret nme D dA B n0 s0 Q (pc + 1) lv (vi (lg_cmp x y) :: st) h f) : J p l e R s m args below meth c cc nL own fr lo ret nme D dA B n0 s0 Q pc lv (vl y :: vl x :: st) h f :=
  J.go (fun X _ _ _ _ _ _ w3 w => W.lcmp X.1 X.2.1 hdg w) k
theorem j_i2l  {x : Int32} (hdg : decode cc pc = .ok (.i2l, 1))  (k : J p l e R s m args below meth c cc nL own fr lo ret nme D dA B n0 s0 Q (pc + 1) lv (vl x.toInt64 :: st) h f) : J p l e R s m args below meth c cc nL own fr lo ret nme D dA B n0 s0 Q pc lv (vi x :: st) h f :=
  J.go (fun X _ _ _ _ _ _ w3 w => lv_i2l X.1 X.2.1 hdg rfl w) k
theorem j_l2i  {x : Int64} (hdg : decode cc pc = .ok (.l2i, 1))  (k : J p l e R s m args below meth c cc nL own fr lo ret nme D dA B n0 s0 Q (pc + 1) lv (vi x.toInt32 :: st) h f) : J p l e R s m args below meth c cc nL own fr lo ret nme D dA B n0 s0 Q pc lv (vl x :: st) h f :=
  J.go (fun X _ _ _ _ _ _ w3 w => lv_l2i X.1 X.2.1 hdg rfl w) k
theorem j_i2b  {x : Int32} (hdg : decode cc pc = .ok (.i2b, 1))  (k : J p l e R s m args below meth c cc nL own fr lo ret nme D dA B n0 s0 Q (pc + 1) lv (vi x.toInt8.toInt32 :: st) h f) : J p l e R s m args below meth c cc nL own fr lo ret nme D dA B n0 s0 Q pc lv (vi x :: st) h f :=
  J.go (fun X _ _ _ _ _ _ w3 w => lv_i2b X.1 X.2.1 hdg rfl w) k
theorem j_dup  {v : AV} (hdg : decode cc pc = .ok (.dup, 1)) (hv : cat v = 1) (k : J p l e R s m args below meth c cc nL own fr lo ret nme D dA B n0 s0 Q (pc + 1) lv (v :: v :: st) h f) : J p l e R s m args below meth c cc nL own fr lo ret nme D dA B n0 s0 Q pc lv (v :: st) h f :=
  J.go (fun X _ _ _ _ _ _ w3 w => lv_dup X.1 X.2.1 hdg ((val_cat B v).trans hv) w) k
theorem j_dup2_11  {v u : AV} (hdg : decode cc pc = .ok (.dup2, 1)) (hv : cat v = 1) (hu : cat u = 1) (k : J p l e R s m args below meth c cc nL own fr lo ret nme D dA B n0 s0 Q (pc + 1) lv (v :: u :: v :: u :: st) h f) : J p l e R s m args below meth c cc nL own fr lo ret nme D dA B n0 s0 Q pc lv (v :: u :: st) h f :=
  J.go (fun X _ _ _ _ _ _ w3 w => lv_dup2_11 X.1 X.2.1 hdg ((val_cat B v).trans hv) ((val_cat B u).trans hu) w) k
theorem j_dup2_2  {v : AV} (hdg : decode cc pc = .ok (.dup2, 1)) (hv : cat v = 2) (k : J p l e R s m args below meth c cc nL own fr lo ret nme D dA B n0 s0 Q (pc + 1) lv (v :: v :: st) h f) : J p l e R s m args below meth c cc nL own fr lo ret nme D dA B n0 s0 Q pc lv (v :: st) h f :=
  J.go (fun X _ _ _ _ _ _ w3 w => lv_dup2_2 X.1 X.2.1 hdg ((val_cat B v).trans hv) w) k
theorem j_pop  {v : AV} (hdg : decode cc pc = .ok (.pop, 1)) (hv : cat v = 1) (k : J p l e R s m args below meth c cc nL own fr lo ret nme D dA B n0 s0 Q (pc + 1) lv st h f) : J p l e R s m args below meth c cc nL own fr lo ret nme D dA B n0 s0 Q pc lv (v :: st) h f :=
  J.go (fun X _ _ _ _ _ _ w3 w => lv_pop X.1 X.2.1 hdg ((val_cat B v).trans hv) w) k
theorem j_idiv  {x y : Int32} (hdg : decode cc pc = .ok (.idiv, 1)) (k : J p l e R s m args below meth c cc nL own fr lo ret nme D dA B n0 s0 Q (pc + 1) lv (vi (x / y) :: st) h f) : J p l e R s m args below meth c cc nL own fr lo ret nme D dA B n0 s0 Q pc lv (vi y :: vi x :: st) h (nz y f) := by
  by_cases hy : y = 0
  · intro r h' ef; rw [nz, if_pos hy] at ef; cases ef
  · rw [nz, if_neg hy]
    exact J.go (fun X _ _ _ _ _ _ w3 w => lv_idiv X.1 X.2.1 hdg hy w) k
theorem j_irem  {x y : Int32} (hdg : decode cc pc = .ok (.irem, 1)) (k : J p l e R s m args below meth c cc nL own fr lo ret nme D dA B n0 s0 Q (pc + 1) lv (vi (x - x / y * y) :: st) h f) : J p l e R s m args below meth c cc nL own fr lo ret nme D dA B n0 s0 Q pc lv (vi y :: vi x :: st) h (nz y f) := by
  by_cases hy : y = 0
  · intro r h' ef; rw [nz, if_pos hy] at ef; cases ef
  · rw [nz, if_neg hy]
    exact J.go (fun X _ _ _ _ _ _ w3 w => lv_irem X.1 X.2.1 hdg hy w) k
theorem j_nm {γ : Type} {x : γ} {g : γ → Option (α × Hp)} (k : J p l e R s m args below meth c cc nL own fr lo ret nme D dA B n0 s0 Q pc lv st h (g x)) : J p l e R s m args below meth c cc nL own fr lo ret nme D dA B n0 s0 Q pc lv st h (nm x g) := k
theorem j_nmi {x : Int32} {g : Int32 → Option (α × Hp)} (k : ∀ y : Int32, J p l e R s m args below meth c cc nL own fr lo ret nme D dA B n0 s0 Q pc lv (vi y :: st) h (g y)) : J p l e R s m args below meth c cc nL own fr lo ret nme D dA B n0 s0 Q pc lv (vi x :: st) h (nm x g) := k x
theorem j_nml {x : Int64} {g : Int64 → Option (α × Hp)} (k : ∀ y : Int64, J p l e R s m args below meth c cc nL own fr lo ret nme D dA B n0 s0 Q pc lv (vl y :: st) h (g y)) : J p l e R s m args below meth c cc nL own fr lo ret nme D dA B n0 s0 Q pc lv (vl x :: st) h (nm x g) := k x
theorem j_goto  {off : Int} {tgt : Nat} (hdg : decode cc pc = .ok (.goto off, 3)) (ht : (pc : Int) + off = (tgt : Int)) (k : J p l e R s m args below meth c cc nL own fr lo ret nme D dA B n0 s0 Q tgt lv st h f) : J p l e R s m args below meth c cc nL own fr lo ret nme D dA B n0 s0 Q pc lv st h f :=
  J.go (fun X _ _ _ _ _ _ _ w => lv_goto X.1 X.2.1 hdg ht w) k
theorem j_icmp_eq  {x y : Int32} {off : Int} {tgt : Nat} {dc : Decidable (x = y)} (hdg : decode cc pc = .ok (.if_icmp .eq off, 3)) (ht : (pc : Int) + off = (tgt : Int)) (k1 : J p l e R s m args below meth c cc nL own fr lo ret nme D dA B n0 s0 Q tgt lv st h f1) (k2 : J p l e R s m args below meth c cc nL own fr lo ret nme D dA B n0 s0 Q (pc + 3) lv st h f2) : J p l e R s m args below meth c cc nL own fr lo ret nme D dA B n0 s0 Q pc lv (vi y :: vi x :: st) h (@ite _ (x = y) dc f1 f2) :=
  J.go2 (fun X _ _ _ _ _ _ _ w1 w2 => lv_icmp_eq X.1 X.2.1 hdg ht w1 w2) k1 k2
theorem j_if_eq  {x : Int32} {off : Int} {tgt : Nat} {dc : Decidable (x = 0)} (hdg : decode cc pc = .ok (.ifCond .eq off, 3)) (ht : (pc : Int) + off = (tgt : Int)) (k1 : J p l e R s m args below meth c cc nL own fr lo ret nme D dA B n0 s0 Q tgt lv st h f1) (k2 : J p l e R s m args below meth c cc nL own fr lo ret nme D dA B n0 s0 Q (pc + 3) lv st h f2) : J p l e R s m args below meth c cc nL own fr lo ret nme D dA B n0 s0 Q pc lv (vi x :: st) h (@ite _ (x = 0) dc f1 f2) :=
  J.go2 (fun X _ _ _ _ _ _ _ w1 w2 => lv_if_eq X.1 X.2.1 hdg ht w1 w2) k1 k2
theorem j_icmp_ne  {x y : Int32} {off : Int} {tgt : Nat} {dc : Decidable (x = y)} (hdg : decode cc pc = .ok (.if_icmp .ne off, 3)) (ht : (pc : Int) + off = (tgt : Int)) (k2 : J p l e R s m args below meth c cc nL own fr lo ret nme D dA B n0 s0 Q (pc + 3) lv st h f1) (k1 : J p l e R s m args below meth c cc nL own fr lo ret nme D dA B n0 s0 Q tgt lv st h f2) : J p l e R s m args below meth c cc nL own fr lo ret nme D dA B n0 s0 Q pc lv (vi y :: vi x :: st) h (@ite _ (x = y) dc f1 f2) :=
  J.go2 (fun X _ _ _ _ _ _ _ w1 w2 => lv_icmp_ne X.1 X.2.1 hdg ht w2 w1) k2 k1
theorem j_if_ne  {x : Int32} {off : Int} {tgt : Nat} {dc : Decidable (x = 0)} (hdg : decode cc pc = .ok (.ifCond .ne off, 3)) (ht : (pc : Int) + off = (tgt : Int)) (k2 : J p l e R s m args below meth c cc nL own fr lo ret nme D dA B n0 s0 Q (pc + 3) lv st h f1) (k1 : J p l e R s m args below meth c cc nL own fr lo ret nme D dA B n0 s0 Q tgt lv st h f2) : J p l e R s m args below meth c cc nL own fr lo ret nme D dA B n0 s0 Q pc lv (vi x :: st) h (@ite _ (x = 0) dc f1 f2) :=
  J.go2 (fun X _ _ _ _ _ _ _ w1 w2 => lv_if_ne X.1 X.2.1 hdg ht w2 w1) k2 k1
theorem j_icmp_lt  {x y : Int32} {off : Int} {tgt : Nat} {dc : Decidable (x < y)} (hdg : decode cc pc = .ok (.if_icmp .lt off, 3)) (ht : (pc : Int) + off = (tgt : Int)) (k1 : J p l e R s m args below meth c cc nL own fr lo ret nme D dA B n0 s0 Q tgt lv st h f1) (k2 : J p l e R s m args below meth c cc nL own fr lo ret nme D dA B n0 s0 Q (pc + 3) lv st h f2) : J p l e R s m args below meth c cc nL own fr lo ret nme D dA B n0 s0 Q pc lv (vi y :: vi x :: st) h (@ite _ (x < y) dc f1 f2) :=
  J.go2 (fun X _ _ _ _ _ _ _ w1 w2 => lv_icmp_lt X.1 X.2.1 hdg ht w1 w2) k1 k2
theorem j_if_lt  {x : Int32} {off : Int} {tgt : Nat} {dc : Decidable (x < 0)} (hdg : decode cc pc = .ok (.ifCond .lt off, 3)) (ht : (pc : Int) + off = (tgt : Int)) (k1 : J p l e R s m args below meth c cc nL own fr lo ret nme D dA B n0 s0 Q tgt lv st h f1) (k2 : J p l e R s m args below meth c cc nL own fr lo ret nme D dA B n0 s0 Q (pc + 3) lv st h f2) : J p l e R s m args below meth c cc nL own fr lo ret nme D dA B n0 s0 Q pc lv (vi x :: st) h (@ite _ (x < 0) dc f1 f2) :=
  J.go2 (fun X _ _ _ _ _ _ _ w1 w2 => lv_if_lt X.1 X.2.1 hdg ht w1 w2) k1 k2
theorem j_icmp_ge  {x y : Int32} {off : Int} {tgt : Nat} {dc : Decidable (y ≤ x)} (hdg : decode cc pc = .ok (.if_icmp .ge off, 3)) (ht : (pc : Int) + off = (tgt : Int)) (k1 : J p l e R s m args below meth c cc nL own fr lo ret nme D dA B n0 s0 Q tgt lv st h f1) (k2 : J p l e R s m args below meth c cc nL own fr lo ret nme D dA B n0 s0 Q (pc + 3) lv st h f2) : J p l e R s m args below meth c cc nL own fr lo ret nme D dA B n0 s0 Q pc lv (vi y :: vi x :: st) h (@ite _ (y ≤ x) dc f1 f2) :=
  J.go2 (fun X _ _ _ _ _ _ _ w1 w2 => lv_icmp_ge X.1 X.2.1 hdg ht w1 w2) k1 k2
theorem j_if_ge  {x : Int32} {off : Int} {tgt : Nat} {dc : Decidable (0 ≤ x)} (hdg : decode cc pc = .ok (.ifCond .ge off, 3)) (ht : (pc : Int) + off = (tgt : Int)) (k1 : J p l e R s m args below meth c cc nL own fr lo ret nme D dA B n0 s0 Q tgt lv st h f1) (k2 : J p l e R s m args below meth c cc nL own fr lo ret nme D dA B n0 s0 Q (pc + 3) lv st h f2) : J p l e R s m args below meth c cc nL own fr lo ret nme D dA B n0 s0 Q pc lv (vi x :: st) h (@ite _ (0 ≤ x) dc f1 f2) :=
  J.go2 (fun X _ _ _ _ _ _ _ w1 w2 => lv_if_ge X.1 X.2.1 hdg ht w1 w2) k1 k2
theorem j_icmp_gt  {x y : Int32} {off : Int} {tgt : Nat} {dc : Decidable (y < x)} (hdg : decode cc pc = .ok (.if_icmp .gt off, 3)) (ht : (pc : Int) + off = (tgt : Int)) (k1 : J p l e R s m args below meth c cc nL own fr lo ret nme D dA B n0 s0 Q tgt lv st h f1) (k2 : J p l e R s m args below meth c cc nL own fr lo ret nme D dA B n0 s0 Q (pc + 3) lv st h f2) : J p l e R s m args below meth c cc nL own fr lo ret nme D dA B n0 s0 Q pc lv (vi y :: vi x :: st) h (@ite _ (y < x) dc f1 f2) :=
  J.go2 (fun X _ _ _ _ _ _ _ w1 w2 => lv_icmp_gt X.1 X.2.1 hdg ht w1 w2) k1 k2
theorem j_if_gt  {x : Int32} {off : Int} {tgt : Nat} {dc : Decidable (0 < x)} (hdg : decode cc pc = .ok (.ifCond .gt off, 3)) (ht : (pc : Int) + off = (tgt : Int)) (k1 : J p l e R s m args below meth c cc nL own fr lo ret nme D dA B n0 s0 Q tgt lv st h f1) (k2 : J p l e R s m args below meth c cc nL own fr lo ret nme D dA B n0 s0 Q (pc + 3) lv st h f2) : J p l e R s m args below meth c cc nL own fr lo ret nme D dA B n0 s0 Q pc lv (vi x :: st) h (@ite _ (0 < x) dc f1 f2) :=
  J.go2 (fun X _ _ _ _ _ _ _ w1 w2 => lv_if_gt X.1 X.2.1 hdg ht w1 w2) k1 k2
theorem j_icmp_le  {x y : Int32} {off : Int} {tgt : Nat} {dc : Decidable (x ≤ y)} (hdg : decode cc pc = .ok (.if_icmp .le off, 3)) (ht : (pc : Int) + off = (tgt : Int)) (k1 : J p l e R s m args below meth c cc nL own fr lo ret nme D dA B n0 s0 Q tgt lv st h f1) (k2 : J p l e R s m args below meth c cc nL own fr lo ret nme D dA B n0 s0 Q (pc + 3) lv st h f2) : J p l e R s m args below meth c cc nL own fr lo ret nme D dA B n0 s0 Q pc lv (vi y :: vi x :: st) h (@ite _ (x ≤ y) dc f1 f2) :=
  J.go2 (fun X _ _ _ _ _ _ _ w1 w2 => lv_icmp_le X.1 X.2.1 hdg ht w1 w2) k1 k2
theorem j_if_le  {x : Int32} {off : Int} {tgt : Nat} {dc : Decidable (x ≤ 0)} (hdg : decode cc pc = .ok (.ifCond .le off, 3)) (ht : (pc : Int) + off = (tgt : Int)) (k1 : J p l e R s m args below meth c cc nL own fr lo ret nme D dA B n0 s0 Q tgt lv st h f1) (k2 : J p l e R s m args below meth c cc nL own fr lo ret nme D dA B n0 s0 Q (pc + 3) lv st h f2) : J p l e R s m args below meth c cc nL own fr lo ret nme D dA B n0 s0 Q pc lv (vi x :: st) h (@ite _ (x ≤ 0) dc f1 f2) :=
  J.go2 (fun X _ _ _ _ _ _ _ w1 w2 => lv_if_le X.1 X.2.1 hdg ht w1 w2) k1 k2
theorem j_ifnull  {x : Option Nat} {off : Int} {tgt : Nat} {dc : Decidable (x = none)} (hdg : decode cc pc = .ok (.ifnull off, 3)) (ht : (pc : Int) + off = (tgt : Int)) (k1 : J p l e R s m args below meth c cc nL own fr lo ret nme D dA B n0 s0 Q tgt lv st h f1) (k2 : J p l e R s m args below meth c cc nL own fr lo ret nme D dA B n0 s0 Q (pc + 3) lv st h f2) : J p l e R s m args below meth c cc nL own fr lo ret nme D dA B n0 s0 Q pc lv (vr x :: st) h (@ite _ (x = none) dc f1 f2) := by
  refine J.go2 (fun X _ _ _ _ _ _ _ w1 w2 => ?_) k1 k2
  cases x with
  | none => exact lv_ifnullN X.1 X.2.1 hdg ht (w1 rfl)
  | some a => exact lv_ifnull X.1 X.2.1 hdg (w2 (fun q => by cases q))
theorem j_ifnonnull  {x : Option Nat} {off : Int} {tgt : Nat} {dc : Decidable (x = none)} (hdg : decode cc pc = .ok (.ifnonnull off, 3)) (ht : (pc : Int) + off = (tgt : Int)) (k1 : J p l e R s m args below meth c cc nL own fr lo ret nme D dA B n0 s0 Q (pc + 3) lv st h f1) (k2 : J p l e R s m args below meth c cc nL own fr lo ret nme D dA B n0 s0 Q tgt lv st h f2) : J p l e R s m args below meth c cc nL own fr lo ret nme D dA B n0 s0 Q pc lv (vr x :: st) h (@ite _ (x = none) dc f1 f2) := by
  refine J.go2 (fun X _ _ _ _ _ _ _ w1 w2 => ?_) k1 k2
  cases x with
  | none => exact lv_ifnonnullN X.1 X.2.1 hdg (w1 rfl)
  | some a => exact lv_ifnonnull X.1 X.2.1 hdg ht (w2 (fun q => by cases q))
end RJ
end
section
theorem Cx.x {p : Program} {R : Room} {s : State} {m : MethodId} {args : Array Value} {meth : Method} {c : Code} {cc : ByteArray} {nL : Nat} {own : String} {fr lo : Nat} {ret : Option FieldType} {nme : String} {D : va_G} {dA : Nat → ClassId} {B n0 : Nat} (X : Cx p R s m args meth c cc nL own fr lo ret nme D dA B n0) : p.tables.exec = Jvm.exec := X.1
theorem Cx.b {p : Program} {R : Room} {s : State} {m : MethodId} {args : Array Value} {meth : Method} {c : Code} {cc : ByteArray} {nL : Nat} {own : String} {fr lo : Nat} {ret : Option FieldType} {nme : String} {D : va_G} {dA : Nat → ClassId} {B n0 : Nat} (X : Cx p R s m args meth c cc nL own fr lo ret nme D dA B n0) : c.code = cc := X.2.1
theorem Cx.ml {p : Program} {R : Room} {s : State} {m : MethodId} {args : Array Value} {meth : Method} {c : Code} {cc : ByteArray} {nL : Nat} {own : String} {fr lo : Nat} {ret : Option FieldType} {nme : String} {D : va_G} {dA : Nat → ClassId} {B n0 : Nat} (X : Cx p R s m args meth c cc nL own fr lo ret nme D dA B n0) : c.maxLocals = nL := X.2.2.1
theorem Cx.own {p : Program} {R : Room} {s : State} {m : MethodId} {args : Array Value} {meth : Method} {c : Code} {cc : ByteArray} {nL : Nat} {own : String} {fr lo : Nat} {ret : Option FieldType} {nme : String} {D : va_G} {dA : Nat → ClassId} {B n0 : Nat} (X : Cx p R s m args meth c cc nL own fr lo ret nme D dA B n0) : s.vm.findClass own = some m.cls := X.2.2.2.1
theorem Cx.ts {p : Program} {R : Room} {s : State} {m : MethodId} {args : Array Value} {meth : Method} {c : Code} {cc : ByteArray} {nL : Nat} {own : String} {fr lo : Nat} {ret : Option FieldType} {nme : String} {D : va_G} {dA : Nat → ClassId} {B n0 : Nat} (X : Cx p R s m args meth c cc nL own fr lo ret nme D dA B n0) : ∀ w ∈ GT, w.before args s = true := X.2.2.2.2.1
theorem Cx.k {p : Program} {R : Room} {s : State} {m : MethodId} {args : Array Value} {meth : Method} {c : Code} {cc : ByteArray} {nL : Nat} {own : String} {fr lo : Nat} {ret : Option FieldType} {nme : String} {D : va_G} {dA : Nat → ClassId} {B n0 : Nat} (X : Cx p R s m args meth c cc nL own fr lo ret nme D dA B n0) : Kx D dA s := X.2.2.2.2.2.1
theorem Cx.lk {p : Program} {R : Room} {s : State} {m : MethodId} {args : Array Value} {meth : Method} {c : Code} {cc : ByteArray} {nL : Nat} {own : String} {fr lo : Nat} {ret : Option FieldType} {nme : String} {D : va_G} {dA : Nat → ClassId} {B n0 : Nat} (X : Cx p R s m args meth c cc nL own fr lo ret nme D dA B n0) : meth.locks = false := X.2.2.2.2.2.2.1
theorem Cx.sz {p : Program} {R : Room} {s : State} {m : MethodId} {args : Array Value} {meth : Method} {c : Code} {cc : ByteArray} {nL : Nat} {own : String} {fr lo : Nat} {ret : Option FieldType} {nme : String} {D : va_G} {dA : Nat → ClassId} {B n0 : Nat} (X : Cx p R s m args meth c cc nL own fr lo ret nme D dA B n0) : s.heap.size = B + n0 := X.2.2.2.2.2.2.2.1
theorem Cx.fr {p : Program} {R : Room} {s : State} {m : MethodId} {args : Array Value} {meth : Method} {c : Code} {cc : ByteArray} {nL : Nat} {own : String} {fr lo : Nat} {ret : Option FieldType} {nme : String} {D : va_G} {dA : Nat → ClassId} {B n0 : Nat} (X : Cx p R s m args meth c cc nL own fr lo ret nme D dA B n0) : R.frames = fr := X.2.2.2.2.2.2.2.2.1
theorem Cx.lo {p : Program} {R : Room} {s : State} {m : MethodId} {args : Array Value} {meth : Method} {c : Code} {cc : ByteArray} {nL : Nat} {own : String} {fr lo : Nat} {ret : Option FieldType} {nme : String} {D : va_G} {dA : Nat → ClassId} {B n0 : Nat} (X : Cx p R s m args meth c cc nL own fr lo ret nme D dA B n0) : R.locals = lo := X.2.2.2.2.2.2.2.2.2.1
theorem Cx.rt {p : Program} {R : Room} {s : State} {m : MethodId} {args : Array Value} {meth : Method} {c : Code} {cc : ByteArray} {nL : Nat} {own : String} {fr lo : Nat} {ret : Option FieldType} {nme : String} {D : va_G} {dA : Nat → ClassId} {B n0 : Nat} (X : Cx p R s m args meth c cc nL own fr lo ret nme D dA B n0) : meth.sig.returnType = ret := X.2.2.2.2.2.2.2.2.2.2.1
theorem Cx.nm {p : Program} {R : Room} {s : State} {m : MethodId} {args : Array Value} {meth : Method} {c : Code} {cc : ByteArray} {nL : Nat} {own : String} {fr lo : Nat} {ret : Option FieldType} {nme : String} {D : va_G} {dA : Nat → ClassId} {B n0 : Nat} (X : Cx p R s m args meth c cc nL own fr lo ret nme D dA B n0) : meth.name = nme := X.2.2.2.2.2.2.2.2.2.2.2
/-- a field's entry in a class's pool: its words, and where it stands in the objects of the kinds ts -/
def FLr (own : String) (idx : Nat) (ts : List Nat) (k ty : Nat) (fin : Bool) (ft : FieldType) : Prop := ∃ ref decl name desc : String, Cond.fieldLink own idx ref name desc ∈ GT ∧ (ref = decl ∨ Cond.sameField ref decl name desc ∈ GT) ∧ ∀ t ∈ ts, ∃ r : vw_C, kCL[t]? = some r ∧ r.2.1 k = (decl, name, desc, fin) ∧ k < nfl t ∧ fty t k = ty ∧ kTY t k = ft
def FL (own : String) (idx : Nat) (ts : List Nat) (k ty : Nat) (fin : Bool) (ft : FieldType) : Prop := ∃ ref decl name desc : String, Cond.fieldLink own idx ref name desc ∈ GT ∧ (ref = decl ∨ Cond.sameField ref decl name desc ∈ GT) ∧ (fin = true → decl = own) ∧ ∀ t ∈ ts, ∃ r : vw_C, kCL[t]? = some r ∧ r.2.1 k = (decl, name, desc, fin) ∧ k < nfl t ∧ fty t k = ty ∧ kTY t k = ft
theorem FL.r {own : String} {idx : Nat} {ts : List Nat} {k ty : Nat} {fin : Bool} {ft : FieldType} (F : FL own idx ts k ty fin ft) : FLr own idx ts k ty fin ft := by
  obtain ⟨a, b, c, d, h1, h2, -, h3⟩ := F
  exact ⟨a, b, c, d, h1, h2, h3⟩
theorem gt_at {w : Cond} (i : Nat) (h : lw_tbl[i]? = some w) (g : goodWord w = true) : w ∈ GT := gt_mem (List.mem_of_getElem? h) g
def flB (ts : List Nat) (k ty : Nat) (decl name desc : String) (fin : Bool) (ft : FieldType) : Bool := ts.all (fun t => match kCL[t]? with
  | some r => decide (r.2.1 k = (decl, name, desc, fin)) && (decide (k < nfl t) && (decide (fty t k = ty) && decide (kTY t k = ft)))
  | none => false)
theorem fl_all {ts : List Nat} {k ty : Nat} {decl name desc : String} {fin : Bool} {ft : FieldType} (h : flB ts k ty decl name desc fin ft = true) : ∀ t ∈ ts, ∃ r : vw_C, kCL[t]? = some r ∧ r.2.1 k = (decl, name, desc, fin) ∧ k < nfl t ∧ fty t k = ty ∧ kTY t k = ft := by
  intro t ht
  have h1 := List.all_eq_true.mp h t ht
  cases hr : kCL[t]? with
  | none => rw [hr] at h1; cases h1
  | some r =>
    rw [hr] at h1
    simp only [Bool.and_eq_true, decide_eq_true_eq] at h1
    exact ⟨r, rfl, h1.1, h1.2.1, h1.2.2.1, h1.2.2.2⟩
theorem f_same {args : Array Value} {s : State} {ref owner name desc : String} (hts : ∀ w ∈ GT, w.before args s = true) (h : ref = owner ∨ Cond.sameField ref owner name desc ∈ GT) : ∀ q, s.fieldFound? owner name desc = some q → s.fieldFound? ref name desc = some q := by
  intro q hq
  rcases h with rfl | h
  · exact hq
  · have h := hts _ h
    cases hr : s.fieldFound? ref name desc with
    | none => simp [Cond.before, Cond.holds, Cond.value, hr] at h
    | some q' =>
      obtain ⟨c1, k1, i1, f1⟩ := q'
      rw [← hq, Cond.sameField_spec hr h]
section RH
variable {α : Type} {p : Program} {l : Launch} {e : Env} {R : Room} {s : State} {m : MethodId} {args : Array Value} {below : List Frame} {meth : Method} {c : Code} {cc : ByteArray} {nL : Nat} {own : String} {fr lo : Nat} {ret : Option FieldType} {nme : String} {D : va_G} {dA : Nat → ClassId} {B n0 s0 : Nat} {Q : α → Hp → State → Prop} {pc : Nat} {lv : List (Nat × AV)} {st : List AV} {h : Hp} {f : Option (α × Hp)}
theorem get_core {H : Heap} {locs : List Loc} {ls : Array Slot} {cells slots : Nat} {Q1 : State → Prop} {rest : List Value} (X : Cx p R s m args meth c cc nL own fr lo ret nme D dA B n0) {idx k ty a : Nat} {ts : List Nat} {fin : Bool} {ft : FieldType} (hdg : decode cc pc = .ok (.getfield idx, 3)) (F : FLr own idx ts k ty fin ft) (ho : ok h ts a = true) (w1 : va_P D kCL (wl B dA h) H)
    (kk : W p l e R s m args below meth c H locs cells slots Q1 (F0 m (pc + 3) ls (fvl B h a ty k :: rest))) : W p l e R s m args below meth c H locs cells slots Q1 (F0 m pc ls (.ref (B + a) :: rest)) := by
  obtain ⟨ref, decl, name, desc, q1, q2, q3⟩ := F
  obtain ⟨⟨C, T, N⟩, t1, t2, t3, t4, -⟩ := q3 _ (ok_tag ho)
  have he : (wl B dA h)[a]? = some (B + a, .inr ((hK h a).1, flds B h a (hK h a).1)) := by rw [wl_at (ok_lt ho), cel_obj rfl (k_lt _ _ t1)]
  have t2 : T k = (decl, name, desc, fin) := t2
  refine va_get (own := own) (ref := ref) (C := C) (T := T) (N := N) X.x X.b X.ts (k_in _ _ t1) X.own X.k.1 w1 a he t1 k (by rw [show N = nfl (hK h a).1 from k_n _ _ t1]; exact t3) (by rw [t2]; exact X.ts _ q1) (by rw [t2]; exact f_same X.ts q2) (v := fvl B h a ty k) (by rw [flds_at t3, t4]) hdg kk
theorem j_getI {idx k : Nat} {ts : List Nat} {fin : Bool} {ft : FieldType} {r : Option Nat} {g : Int32 → Option (α × Hp)} (hdg : decode cc pc = .ok (.getfield idx, 3)) (F : FLr own idx ts k 0 fin ft) (kk : ∀ x : Int32, J p l e R s m args below meth c cc nL own fr lo ret nme D dA B n0 s0 Q (pc + 3) lv (vi x :: st) h (g x)) : J p l e R s m args below meth c cc nL own fr lo ret nme D dA B n0 s0 Q pc lv (vr r :: st) h (gi ts k r h g) := by
  intro r' h' ef
  cases r with
  | none => cases ef
  | some a =>
    unfold gi at ef
    dsimp only at ef
    by_cases ho : ok h ts a = true
    · rw [if_pos ho] at ef
      exact ⟨(kk _ r' h' ef).1, fun X c1 c2 H locs ls n1 n2 e1 e2 w1 w2 w3 => get_core X hdg F ho w1 ((kk _ r' h' ef).2 X c1 c2 H locs ls n1 n2 e1 e2 w1 w2 w3)⟩
    · rw [if_neg ho] at ef; cases ef
theorem j_getL {idx k : Nat} {ts : List Nat} {fin : Bool} {ft : FieldType} {r : Option Nat} {g : Int64 → Option (α × Hp)} (hdg : decode cc pc = .ok (.getfield idx, 3)) (F : FLr own idx ts k 1 fin ft) (kk : ∀ x : Int64, J p l e R s m args below meth c cc nL own fr lo ret nme D dA B n0 s0 Q (pc + 3) lv (vl x :: st) h (g x)) : J p l e R s m args below meth c cc nL own fr lo ret nme D dA B n0 s0 Q pc lv (vr r :: st) h (gl ts k r h g) := by
  intro r' h' ef
  cases r with
  | none => cases ef
  | some a =>
    unfold gl at ef
    dsimp only at ef
    by_cases ho : ok h ts a = true
    · rw [if_pos ho] at ef
      exact ⟨(kk _ r' h' ef).1, fun X c1 c2 H locs ls n1 n2 e1 e2 w1 w2 w3 => get_core X hdg F ho w1 ((kk _ r' h' ef).2 X c1 c2 H locs ls n1 n2 e1 e2 w1 w2 w3)⟩
    · rw [if_neg ho] at ef; cases ef
theorem j_getR {idx k : Nat} {ts : List Nat} {fin : Bool} {ft : FieldType} {r : Option Nat} {g : Option Nat → Option (α × Hp)} (hdg : decode cc pc = .ok (.getfield idx, 3)) (F : FLr own idx ts k 2 fin ft) (kk : ∀ x : Option Nat, J p l e R s m args below meth c cc nL own fr lo ret nme D dA B n0 s0 Q (pc + 3) lv (vr x :: st) h (g x)) : J p l e R s m args below meth c cc nL own fr lo ret nme D dA B n0 s0 Q pc lv (vr r :: st) h (gr ts k r h g) := by
  intro r' h' ef
  cases r with
  | none => cases ef
  | some a =>
    unfold gr at ef
    dsimp only at ef
    by_cases ho : ok h ts a = true
    · rw [if_pos ho] at ef
      exact ⟨(kk _ r' h' ef).1, fun X c1 c2 H locs ls n1 n2 e1 e2 w1 w2 w3 => get_core X hdg F ho w1 ((kk _ r' h' ef).2 X c1 c2 H locs ls n1 n2 e1 e2 w1 w2 w3)⟩
    · rw [if_neg ho] at ef; cases ef
theorem put_core {H : Heap} {locs : List Loc} {ls : Array Slot} {cells slots : Nat} {Q1 : State → Prop} {rest : List Value} (X : Cx p R s m args meth c cc nL own fr lo ret nme D dA B n0) {idx k ty a : Nat} {ts : List Nat} {fin : Bool} {ft : FieldType} {v : Value} {h1 : Hp} (hdg : decode cc pc = .ok (.putfield idx, 3)) (F : FL own idx ts k ty fin ft) (hfin : fin = false ∨ nme = "<init>") (ho : ok h ts a = true) (w1 : va_P D kCL (wl B dA h) H) (w2 : va_S (fun q => B ≤ q) s.heap H locs) (hn : narrow ft v = v) (hfit : fits ft v = true)
    (e0 : hK h1 = hK h) (ez : hz h1 = hz h) (ev : fvl B h1 a ty k = v) (eo : ∀ j t, j ≠ k → fvl B h1 a t j = fvl B h a t j) (ec : ∀ b, b ≠ a → cel B dA h1 b = cel B dA h b)
    (kk : ∀ (H1 : Heap) (locs1 : List Loc), va_P D kCL (wl B dA h1) H1 → va_S (fun q => B ≤ q) s.heap H1 locs1 → W p l e R s m args below meth c H1 locs1 cells slots Q1 (F0 m (pc + 3) ls rest)) : W p l e R s m args below meth c H locs cells slots Q1 (F0 m pc ls (v :: .ref (B + a) :: rest)) := by
  obtain ⟨ref, decl, name, desc, q1, q2, q4, q3⟩ := F
  obtain ⟨⟨C, T, N⟩, t1, t2, t3, t4, t5⟩ := q3 _ (ok_tag ho)
  have he : (wl B dA h)[a]? = some (B + a, .inr ((hK h a).1, flds B h a (hK h a).1)) := by rw [wl_at (ok_lt ho), cel_obj rfl (k_lt _ _ t1)]
  have t2 : T k = (decl, name, desc, fin) := t2
  have hN : N = nfl (hK h a).1 := k_n _ _ t1
  have hkN : k < N := by rw [hN]; exact t3
  have hd : parseFieldDescriptor (T k).2.2.1 = some ft := by rw [← t5]; exact k_ty _ _ t1 k hkN
  have hset : (wl B dA h).set a (B + a, .inr ((hK h a).1, (flds B h a (hK h a).1).set k v)) = wl B dA h1 := by
    refine wl_ext ez ?_ ec
    rw [cel_obj (h := h1) (t := (hK h a).1) (by rw [e0]) (k_lt _ _ t1), flds_set t3 (by rw [t4]; exact ev) (fun j hj => eo j _ hj)]
  cases fin with
  | false =>
    refine va_put (own := own) (ref := ref) (C := C) (T := T) (N := N) X.x X.b X.ts (k_in _ _ t1) (kTY (hK h a).1) (k_ty _ _ t1) (k_nm _ _ t1) X.own X.k.1 w1 (wl_D B dA h) w2 a he t1 k hkN (by rw [t2]; exact X.ts _ q1) (by rw [t2]; exact f_same X.ts q2) (by rw [t2]) hd hn hfit (by rw [flds_len]; exact t3) hdg fun H1 locs1 g1 g2 g3 => ?_
    rw [hset] at g1
    exact kk H1 locs1 g1 g3
  | true =>
    have hi : meth.name = "<init>" := by
      rcases hfin with q | q
      · cases q
      · rw [X.nm]; exact q
    refine va_putF (own := own) (ref := ref) (C := C) (T := T) (N := N) X.x X.b X.ts (k_in _ _ t1) (kTY (hK h a).1) (k_ty _ _ t1) (k_nm _ _ t1) X.own X.k.1 w1 (wl_D B dA h) w2 a he t1 k hkN (by rw [t2]; exact X.ts _ q1) (by rw [t2]; exact f_same X.ts q2) (by rw [t2]) hi (by rw [t2]; exact q4 rfl) hd hn hfit (by rw [flds_len]; exact t3) hdg fun H1 locs1 g1 g2 g3 => ?_
    rw [hset] at g1
    exact kk H1 locs1 g1 g3
theorem fvl_I {a k : Nat} {x : Int32} : fvl B (sI h a k x) a 0 k = .int x := by simp [fvl, sI, hI, up2, va_up]
theorem fvl_L {a k : Nat} {x : Int64} : fvl B (sL h a k x) a 1 k = .long x := by simp [fvl, sL, hL, up2, va_up]
theorem fvl_R {a k : Nat} {x : Option Nat} : fvl B (sR h a k x) a 2 k = rv B x := by simp [fvl, sR, hR, up2, va_up]
theorem fvl_Io {a k : Nat} {x : Int32} (j t : Nat) (e : j ≠ k) : fvl B (sI h a k x) a t j = fvl B h a t j := by simp [fvl, sI, hI, hL, hR, up2, va_up, e]
theorem fvl_Lo {a k : Nat} {x : Int64} (j t : Nat) (e : j ≠ k) : fvl B (sL h a k x) a t j = fvl B h a t j := by simp [fvl, sL, hI, hL, hR, up2, va_up, e]
theorem fvl_Ro {a k : Nat} {x : Option Nat} (j t : Nat) (e : j ≠ k) : fvl B (sR h a k x) a t j = fvl B h a t j := by simp [fvl, sR, hI, hL, hR, up2, va_up, e]
theorem j_putI {idx k : Nat} {ts : List Nat} {fin : Bool} {r : Option Nat} {x : Int32} {g : Hp → Option (α × Hp)} (hdg : decode cc pc = .ok (.putfield idx, 3)) (F : FL own idx ts k 0 fin .int) (hfin : fin = false ∨ nme = "<init>") (kk : ∀ h1, J p l e R s m args below meth c cc nL own fr lo ret nme D dA B n0 s0 Q (pc + 3) lv st h1 (g h1)) : J p l e R s m args below meth c cc nL own fr lo ret nme D dA B n0 s0 Q pc lv (vi x :: vr r :: st) h (pi ts k r x h g) := by
  intro r' h' ef
  cases r with
  | none => cases ef
  | some a =>
    unfold pi at ef
    dsimp only at ef
    by_cases ho : ok h ts a = true
    · rw [if_pos ho] at ef
      exact ⟨(kk _ r' h' ef).1, fun X c1 c2 H locs ls n1 n2 e1 e2 w1 w2 w3 => put_core X hdg F hfin ho w1 w2 rfl rfl (h1 := sI h a k x) rfl rfl fvl_I fvl_Io (fun b hb => sI_o hb) (fun H1 locs1 g1 g2 => (kk _ r' h' ef).2 X c1 c2 H1 locs1 ls n1 n2 e1 e2 g1 g2 w3)⟩
    · rw [if_neg ho] at ef; cases ef
theorem j_putZ {idx k : Nat} {ts : List Nat} {fin : Bool} {r : Option Nat} {x : Int32} {g : Hp → Option (α × Hp)} (hdg : decode cc pc = .ok (.putfield idx, 3)) (F : FL own idx ts k 0 fin .boolean) (hfin : fin = false ∨ nme = "<init>") (kk : ∀ h1, J p l e R s m args below meth c cc nL own fr lo ret nme D dA B n0 s0 Q (pc + 3) lv st h1 (g h1)) : J p l e R s m args below meth c cc nL own fr lo ret nme D dA B n0 s0 Q pc lv (vi x :: vr r :: st) h (pz ts k r x h g) := by
  intro r' h' ef
  cases r with
  | none => cases ef
  | some a =>
    unfold pz at ef
    dsimp only at ef
    by_cases ho : ok h ts a = true ∧ (x = 0 ∨ x = 1)
    · rw [if_pos ho] at ef
      have n1 : narrow .boolean (.int x) = .int x := by rcases ho.2 with rfl | rfl <;> decide
      have n2 : fits .boolean (.int x) = true := by rcases ho.2 with rfl | rfl <;> decide
      exact ⟨(kk _ r' h' ef).1, fun X c1 c2 H locs ls m1 m2 e1 e2 w1 w2 w3 => put_core X hdg F hfin ho.1 w1 w2 n1 n2 (h1 := sI h a k x) rfl rfl fvl_I fvl_Io (fun b hb => sI_o hb) (fun H1 locs1 g1 g2 => (kk _ r' h' ef).2 X c1 c2 H1 locs1 ls m1 m2 e1 e2 g1 g2 w3)⟩
    · rw [if_neg ho] at ef; cases ef
theorem j_putL {idx k : Nat} {ts : List Nat} {fin : Bool} {r : Option Nat} {x : Int64} {g : Hp → Option (α × Hp)} (hdg : decode cc pc = .ok (.putfield idx, 3)) (F : FL own idx ts k 1 fin .long) (hfin : fin = false ∨ nme = "<init>") (kk : ∀ h1, J p l e R s m args below meth c cc nL own fr lo ret nme D dA B n0 s0 Q (pc + 3) lv st h1 (g h1)) : J p l e R s m args below meth c cc nL own fr lo ret nme D dA B n0 s0 Q pc lv (vl x :: vr r :: st) h (pl ts k r x h g) := by
  intro r' h' ef
  cases r with
  | none => cases ef
  | some a =>
    unfold pl at ef
    dsimp only at ef
    by_cases ho : ok h ts a = true
    · rw [if_pos ho] at ef
      exact ⟨(kk _ r' h' ef).1, fun X c1 c2 H locs ls n1 n2 e1 e2 w1 w2 w3 => put_core X hdg F hfin ho w1 w2 rfl rfl (h1 := sL h a k x) rfl rfl fvl_L fvl_Lo (fun b hb => sL_o hb) (fun H1 locs1 g1 g2 => (kk _ r' h' ef).2 X c1 c2 H1 locs1 ls n1 n2 e1 e2 g1 g2 w3)⟩
    · rw [if_neg ho] at ef; cases ef
theorem rv_fit (ft : FieldType) (hft : (∃ C, ft = .object C) ∨ ∃ t, ft = .array t) (x : Option Nat) : narrow ft (rv B x) = rv B x ∧ fits ft (rv B x) = true := by
  rcases hft with ⟨C, rfl⟩ | ⟨t, rfl⟩ <;> cases x <;> exact ⟨rfl, rfl⟩
theorem j_putR {idx k : Nat} {ts : List Nat} {fin : Bool} {ft : FieldType} {r x : Option Nat} {g : Hp → Option (α × Hp)} (hdg : decode cc pc = .ok (.putfield idx, 3)) (F : FL own idx ts k 2 fin ft) (hfin : fin = false ∨ nme = "<init>") (hft : (∃ C, ft = .object C) ∨ ∃ t, ft = .array t) (kk : ∀ h1, J p l e R s m args below meth c cc nL own fr lo ret nme D dA B n0 s0 Q (pc + 3) lv st h1 (g h1)) : J p l e R s m args below meth c cc nL own fr lo ret nme D dA B n0 s0 Q pc lv (vr x :: vr r :: st) h (pr ts k r x h g) := by
  intro r' h' ef
  cases r with
  | none => cases ef
  | some a =>
    unfold pr at ef
    dsimp only at ef
    by_cases ho : ok h ts a = true
    · rw [if_pos ho] at ef
      exact ⟨(kk _ r' h' ef).1, fun X c1 c2 H locs ls n1 n2 e1 e2 w1 w2 w3 => put_core X hdg F hfin ho w1 w2 (rv_fit ft hft x).1 (rv_fit ft hft x).2 (h1 := sR h a k x) rfl rfl fvl_R fvl_Ro (fun b hb => sR_o hb) (fun H1 locs1 g1 g2 => (kk _ r' h' ef).2 X c1 c2 H1 locs1 ls n1 n2 e1 e2 g1 g2 w3)⟩
    · rw [if_neg ho] at ef; cases ef
end RH
end
section
section RA
variable {α : Type} {p : Program} {l : Launch} {e : Env} {R : Room} {s : State} {m : MethodId} {args : Array Value} {below : List Frame} {meth : Method} {c : Code} {cc : ByteArray} {nL : Nat} {own : String} {fr lo : Nat} {ret : Option FieldType} {nme : String} {D : va_G} {dA : Nat → ClassId} {B n0 s0 : Nat} {Q : α → Hp → State → Prop} {pc : Nat} {lv : List (Nat × AV)} {st : List AV} {h : Hp} {f : Option (α × Hp)}
theorem j_iald  {r : Option Nat} {i : Int32} {g : Int32 → Option (α × Hp)} (hdg : decode cc pc = .ok (.iaload, 1)) (kk : ∀ x : Int32, J p l e R s m args below meth c cc nL own fr lo ret nme D dA B n0 s0 Q (pc + 1) lv (vi x :: st) h (g x)) : J p l e R s m args below meth c cc nL own fr lo ret nme D dA B n0 s0 Q pc lv (vi i :: vr r :: st) h (li 13 r i h g) := by
  intro r' h' ef
  cases r with
  | none => cases ef
  | some a =>
    unfold li at ef
    dsimp only at ef
    by_cases ho : ok h [13] a = true ∧ ¬ (i < 0 ∨ (hK h a).2 ≤ i.toNatClampNeg)
    · rw [if_pos ho] at ef
      have ht : (hK h a).1 = 13 := by simpa using ok_tag ho.1
      refine ⟨(kk _ r' h' ef).1, fun X c1 c2 H locs ls n1 n2 e1 e2 w1 w2 w3 => ?_⟩
      have he := wl_at (B := B) (dA := dA) (ok_lt ho.1)
      rw [cel_13 ht] at he
      exact va_iald X.x X.b X.k.1 w1 a 0 he rfl ho.2 hdg ((kk _ r' h' ef).2 X c1 c2 H locs ls n1 n2 e1 e2 w1 w2 w3)
    · rw [if_neg ho] at ef; cases ef
theorem j_bald  {r : Option Nat} {i : Int32} {g : Int32 → Option (α × Hp)} (hdg : decode cc pc = .ok (.baload, 1)) (kk : ∀ x : Int32, J p l e R s m args below meth c cc nL own fr lo ret nme D dA B n0 s0 Q (pc + 1) lv (vi x :: st) h (g x)) : J p l e R s m args below meth c cc nL own fr lo ret nme D dA B n0 s0 Q pc lv (vi i :: vr r :: st) h (li 15 r i h g) := by
  intro r' h' ef
  cases r with
  | none => cases ef
  | some a =>
    unfold li at ef
    dsimp only at ef
    by_cases ho : ok h [15] a = true ∧ ¬ (i < 0 ∨ (hK h a).2 ≤ i.toNatClampNeg)
    · rw [if_pos ho] at ef
      have ht : (hK h a).1 = 15 := by simpa using ok_tag ho.1
      refine ⟨(kk _ r' h' ef).1, fun X c1 c2 H locs ls n1 n2 e1 e2 w1 w2 w3 => ?_⟩
      have he := wl_at (B := B) (dA := dA) (ok_lt ho.1)
      rw [cel_15 ht] at he
      exact va_bald X.x X.b X.k.1 w1 a 2 he rfl ho.2 hdg ((kk _ r' h' ef).2 X c1 c2 H locs ls n1 n2 e1 e2 w1 w2 w3)
    · rw [if_neg ho] at ef; cases ef
theorem j_zald  {r : Option Nat} {i : Int32} {g : Int32 → Option (α × Hp)} (hdg : decode cc pc = .ok (.baload, 1)) (kk : ∀ x : Int32, J p l e R s m args below meth c cc nL own fr lo ret nme D dA B n0 s0 Q (pc + 1) lv (vi x :: st) h (g x)) : J p l e R s m args below meth c cc nL own fr lo ret nme D dA B n0 s0 Q pc lv (vi i :: vr r :: st) h (li 16 r i h g) := by
  intro r' h' ef
  cases r with
  | none => cases ef
  | some a =>
    unfold li at ef
    dsimp only at ef
    by_cases ho : ok h [16] a = true ∧ ¬ (i < 0 ∨ (hK h a).2 ≤ i.toNatClampNeg)
    · rw [if_pos ho] at ef
      have ht : (hK h a).1 = 16 := by simpa using ok_tag ho.1
      refine ⟨(kk _ r' h' ef).1, fun X c1 c2 H locs ls n1 n2 e1 e2 w1 w2 w3 => ?_⟩
      have he := wl_at (B := B) (dA := dA) (ok_lt ho.1)
      rw [cel_16 ht] at he
      exact va_zald X.x X.b X.k.1 w1 a 3 he rfl ho.2 hdg ((kk _ r' h' ef).2 X c1 c2 H locs ls n1 n2 e1 e2 w1 w2 w3)
    · rw [if_neg ho] at ef; cases ef
theorem j_lald  {r : Option Nat} {i : Int32} {g : Int64 → Option (α × Hp)} (hdg : decode cc pc = .ok (.laload, 1)) (kk : ∀ x : Int64, J p l e R s m args below meth c cc nL own fr lo ret nme D dA B n0 s0 Q (pc + 1) lv (vl x :: st) h (g x)) : J p l e R s m args below meth c cc nL own fr lo ret nme D dA B n0 s0 Q pc lv (vi i :: vr r :: st) h (ll r i h g) := by
  intro r' h' ef
  cases r with
  | none => cases ef
  | some a =>
    unfold ll at ef
    dsimp only at ef
    by_cases ho : ok h [14] a = true ∧ ¬ (i < 0 ∨ (hK h a).2 ≤ i.toNatClampNeg)
    · rw [if_pos ho] at ef
      have ht : (hK h a).1 = 14 := by simpa using ok_tag ho.1
      refine ⟨(kk _ r' h' ef).1, fun X c1 c2 H locs ls n1 n2 e1 e2 w1 w2 w3 => ?_⟩
      have he := wl_at (B := B) (dA := dA) (ok_lt ho.1)
      rw [cel_14 ht] at he
      exact va_lald X.x X.b X.k.1 w1 a 1 he rfl ho.2 hdg ((kk _ r' h' ef).2 X c1 c2 H locs ls n1 n2 e1 e2 w1 w2 w3)
    · rw [if_neg ho] at ef; cases ef
theorem j_ald17  {r : Option Nat} {i : Int32} {g : Option Nat → Option (α × Hp)} (hdg : decode cc pc = .ok (.aaload, 1)) (kk : ∀ x : Option Nat, J p l e R s m args below meth c cc nL own fr lo ret nme D dA B n0 s0 Q (pc + 1) lv (vr x :: st) h (g x)) : J p l e R s m args below meth c cc nL own fr lo ret nme D dA B n0 s0 Q pc lv (vi i :: vr r :: st) h (lr 17 r i h g) := by
  intro r' h' ef
  cases r with
  | none => cases ef
  | some a =>
    unfold lr at ef
    dsimp only at ef
    by_cases ho : ok h [17] a = true ∧ ¬ (i < 0 ∨ (hK h a).2 ≤ i.toNatClampNeg)
    · rw [if_pos ho] at ef
      have ht : (hK h a).1 = 17 := by simpa using ok_tag ho.1
      refine ⟨(kk _ r' h' ef).1, fun X c1 c2 H locs ls n1 n2 e1 e2 w1 w2 w3 => ?_⟩
      have he := wl_at (B := B) (dA := dA) (ok_lt ho.1)
      rw [cel_17 ht] at he
      exact va_aldq X.x X.b X.k.1 w1 a 4 he rfl ho.2 hdg ((kk _ r' h' ef).2 X c1 c2 H locs ls n1 n2 e1 e2 w1 w2 w3)
    · rw [if_neg ho] at ef; cases ef
theorem j_ald18  {r : Option Nat} {i : Int32} {g : Option Nat → Option (α × Hp)} (hdg : decode cc pc = .ok (.aaload, 1)) (kk : ∀ x : Option Nat, J p l e R s m args below meth c cc nL own fr lo ret nme D dA B n0 s0 Q (pc + 1) lv (vr x :: st) h (g x)) : J p l e R s m args below meth c cc nL own fr lo ret nme D dA B n0 s0 Q pc lv (vi i :: vr r :: st) h (lr 18 r i h g) := by
  intro r' h' ef
  cases r with
  | none => cases ef
  | some a =>
    unfold lr at ef
    dsimp only at ef
    by_cases ho : ok h [18] a = true ∧ ¬ (i < 0 ∨ (hK h a).2 ≤ i.toNatClampNeg)
    · rw [if_pos ho] at ef
      have ht : (hK h a).1 = 18 := by simpa using ok_tag ho.1
      refine ⟨(kk _ r' h' ef).1, fun X c1 c2 H locs ls n1 n2 e1 e2 w1 w2 w3 => ?_⟩
      have he := wl_at (B := B) (dA := dA) (ok_lt ho.1)
      rw [cel_18 ht] at he
      exact va_aldq X.x X.b X.k.1 w1 a 5 he rfl ho.2 hdg ((kk _ r' h' ef).2 X c1 c2 H locs ls n1 n2 e1 e2 w1 w2 w3)
    · rw [if_neg ho] at ef; cases ef
theorem j_iast  {r : Option Nat} {i : Int32} {x : Int32} {g : Hp → Option (α × Hp)} (hdg : decode cc pc = .ok (.iastore, 1)) (kk : ∀ h1, J p l e R s m args below meth c cc nL own fr lo ret nme D dA B n0 s0 Q (pc + 1) lv st h1 (g h1)) : J p l e R s m args below meth c cc nL own fr lo ret nme D dA B n0 s0 Q pc lv (vi x :: vi i :: vr r :: st) h (si r i x h g) := by
  intro r' h' ef
  cases r with
  | none => cases ef
  | some a =>
    unfold si at ef
    dsimp only at ef
    by_cases ho : ok h [13] a = true ∧ ¬ (i < 0 ∨ (hK h a).2 ≤ i.toNatClampNeg)
    · rw [if_pos ho] at ef
      have ht : (hK h a).1 = 13 := by simpa using ok_tag ho.1
      refine ⟨(kk _ r' h' ef).1, fun X c1 c2 H locs ls n1 n2 e1 e2 w1 w2 w3 => ?_⟩
      have he := wl_at (B := B) (dA := dA) (ok_lt ho.1)
      rw [cel_13 ht] at he
      refine va_iast X.x X.b X.k.1 w1 (wl_D B dA h) w2 a 0 he rfl ho.2 hdg fun H1 locs1 g1 g2 g3 => ?_
      have hset : (wl B dA h).set a (B + a, .inl (dA 0, (hK h a).2, .inl (upd (hI h a) i.toNatClampNeg (x)))) = wl B dA (sI h a i.toNatClampNeg (x)) := wl_ext (h := h) (h1 := sI h a i.toNatClampNeg (x)) rfl (by rw [cel_13 (h := sI h a i.toNatClampNeg (x)) ht]; show (Sum.inl (dA 0, (hK h a).2, Sum.inl (up2 (hI h) a i.toNatClampNeg (x) a)) : va_E) = _; rw [up2_self]; rfl) (fun b hb => sI_o hb)
      rw [hset] at g1
      exact (kk _ r' h' ef).2 X c1 c2 H1 locs1 ls n1 n2 e1 e2 g1 g3 w3
    · rw [if_neg ho] at ef; cases ef
theorem j_bast  {r : Option Nat} {i : Int32} {x : Int32} {g : Hp → Option (α × Hp)} (hdg : decode cc pc = .ok (.bastore, 1)) (kk : ∀ h1, J p l e R s m args below meth c cc nL own fr lo ret nme D dA B n0 s0 Q (pc + 1) lv st h1 (g h1)) : J p l e R s m args below meth c cc nL own fr lo ret nme D dA B n0 s0 Q pc lv (vi x :: vi i :: vr r :: st) h (sb r i x h g) := by
  intro r' h' ef
  cases r with
  | none => cases ef
  | some a =>
    unfold sb at ef
    dsimp only at ef
    by_cases ho : ok h [15] a = true ∧ ¬ (i < 0 ∨ (hK h a).2 ≤ i.toNatClampNeg)
    · rw [if_pos ho] at ef
      have ht : (hK h a).1 = 15 := by simpa using ok_tag ho.1
      refine ⟨(kk _ r' h' ef).1, fun X c1 c2 H locs ls n1 n2 e1 e2 w1 w2 w3 => ?_⟩
      have he := wl_at (B := B) (dA := dA) (ok_lt ho.1)
      rw [cel_15 ht] at he
      refine va_bast X.x X.b X.k.1 w1 (wl_D B dA h) w2 a 2 he rfl ho.2 hdg fun H1 locs1 g1 g2 g3 => ?_
      have hset : (wl B dA h).set a (B + a, .inl (dA 2, (hK h a).2, .inl (upd (hI h a) i.toNatClampNeg (vp_nar .byte x)))) = wl B dA (sI h a i.toNatClampNeg (vp_nar .byte x)) := wl_ext (h := h) (h1 := sI h a i.toNatClampNeg (vp_nar .byte x)) rfl (by rw [cel_15 (h := sI h a i.toNatClampNeg (vp_nar .byte x)) ht]; show (Sum.inl (dA 2, (hK h a).2, Sum.inl (up2 (hI h) a i.toNatClampNeg (vp_nar .byte x) a)) : va_E) = _; rw [up2_self]; rfl) (fun b hb => sI_o hb)
      rw [hset] at g1
      exact (kk _ r' h' ef).2 X c1 c2 H1 locs1 ls n1 n2 e1 e2 g1 g3 w3
    · rw [if_neg ho] at ef; cases ef
theorem j_zast  {r : Option Nat} {i : Int32} {x : Int32} {g : Hp → Option (α × Hp)} (hdg : decode cc pc = .ok (.bastore, 1)) (kk : ∀ h1, J p l e R s m args below meth c cc nL own fr lo ret nme D dA B n0 s0 Q (pc + 1) lv st h1 (g h1)) : J p l e R s m args below meth c cc nL own fr lo ret nme D dA B n0 s0 Q pc lv (vi x :: vi i :: vr r :: st) h (sz r i x h g) := by
  intro r' h' ef
  cases r with
  | none => cases ef
  | some a =>
    unfold sz at ef
    dsimp only at ef
    by_cases ho : ok h [16] a = true ∧ ¬ (i < 0 ∨ (hK h a).2 ≤ i.toNatClampNeg)
    · rw [if_pos ho] at ef
      have ht : (hK h a).1 = 16 := by simpa using ok_tag ho.1
      refine ⟨(kk _ r' h' ef).1, fun X c1 c2 H locs ls n1 n2 e1 e2 w1 w2 w3 => ?_⟩
      have he := wl_at (B := B) (dA := dA) (ok_lt ho.1)
      rw [cel_16 ht] at he
      refine va_zast X.x X.b X.k.1 w1 (wl_D B dA h) w2 a 3 he rfl ho.2 hdg fun H1 locs1 g1 g2 g3 => ?_
      have hset : (wl B dA h).set a (B + a, .inl (dA 3, (hK h a).2, .inl (upd (hI h a) i.toNatClampNeg (vp_nar .boolean x)))) = wl B dA (sI h a i.toNatClampNeg (vp_nar .boolean x)) := wl_ext (h := h) (h1 := sI h a i.toNatClampNeg (vp_nar .boolean x)) rfl (by rw [cel_16 (h := sI h a i.toNatClampNeg (vp_nar .boolean x)) ht]; show (Sum.inl (dA 3, (hK h a).2, Sum.inl (up2 (hI h) a i.toNatClampNeg (vp_nar .boolean x) a)) : va_E) = _; rw [up2_self]; rfl) (fun b hb => sI_o hb)
      rw [hset] at g1
      exact (kk _ r' h' ef).2 X c1 c2 H1 locs1 ls n1 n2 e1 e2 g1 g3 w3
    · rw [if_neg ho] at ef; cases ef
theorem j_last  {r : Option Nat} {i : Int32} {x : Int64} {g : Hp → Option (α × Hp)} (hdg : decode cc pc = .ok (.lastore, 1)) (kk : ∀ h1, J p l e R s m args below meth c cc nL own fr lo ret nme D dA B n0 s0 Q (pc + 1) lv st h1 (g h1)) : J p l e R s m args below meth c cc nL own fr lo ret nme D dA B n0 s0 Q pc lv (vl x :: vi i :: vr r :: st) h (sl r i x h g) := by
  intro r' h' ef
  cases r with
  | none => cases ef
  | some a =>
    unfold sl at ef
    dsimp only at ef
    by_cases ho : ok h [14] a = true ∧ ¬ (i < 0 ∨ (hK h a).2 ≤ i.toNatClampNeg)
    · rw [if_pos ho] at ef
      have ht : (hK h a).1 = 14 := by simpa using ok_tag ho.1
      refine ⟨(kk _ r' h' ef).1, fun X c1 c2 H locs ls n1 n2 e1 e2 w1 w2 w3 => ?_⟩
      have he := wl_at (B := B) (dA := dA) (ok_lt ho.1)
      rw [cel_14 ht] at he
      refine va_last X.x X.b X.k.1 w1 (wl_D B dA h) w2 a 1 he rfl ho.2 hdg fun H1 locs1 g1 g2 g3 => ?_
      have hset : (wl B dA h).set a (B + a, .inl (dA 1, (hK h a).2, .inr (.inl (vp_updL (hL h a) i.toNatClampNeg (x))))) = wl B dA (sL h a i.toNatClampNeg (x)) := wl_ext (h := h) (h1 := sL h a i.toNatClampNeg (x)) rfl (by rw [cel_14 (h := sL h a i.toNatClampNeg (x)) ht]; show (Sum.inl (dA 1, (hK h a).2, Sum.inr (Sum.inl (up2 (hL h) a i.toNatClampNeg (x) a))) : va_E) = _; rw [up2_self]; rfl) (fun b hb => sL_o hb)
      rw [hset] at g1
      exact (kk _ r' h' ef).2 X c1 c2 H1 locs1 ls n1 n2 e1 e2 g1 g3 w3
    · rw [if_neg ho] at ef; cases ef
theorem map_up {f : Nat → Option Nat} {k : Nat} {x : Option Nat} : (fun j => (va_up f k x j).map (fun a => B + a)) = va_up (fun j => (f j).map (fun a => B + a)) k (x.map (fun a => B + a)) := by
  funext j
  by_cases e : j = k <;> simp [va_up, e]
theorem recv_at {H : Heap} {a t : Nat} {r : vw_C} (hK1 : va_K D kCL (tyl dA) s) (w1 : va_P D kCL (wl B dA h) H) (ha : a < hz h) (ht : (hK h a).1 = t) (hr : kCL[t]? = some r) : ∃ cell : Cell, H[B + a]? = some cell ∧ cell.vm.isStatics = false ∧ s.vm.findClass r.1 = some cell.cls := by
  have he := wl_at (B := B) (dA := dA) ha
  rw [cel_obj ht (k_lt _ _ hr)] at he
  exact va_recv hK1 w1 hr he
theorem j_ast17  {r x : Option Nat} {i : Int32} {g : Hp → Option (α × Hp)} (hdg : decode cc pc = .ok (.aastore, 1)) (kk : ∀ h1, J p l e R s m args below meth c cc nL own fr lo ret nme D dA B n0 s0 Q (pc + 1) lv st h1 (g h1)) : J p l e R s m args below meth c cc nL own fr lo ret nme D dA B n0 s0 Q pc lv (vr x :: vi i :: vr r :: st) h (sr 17 [0] r i x h g) := by
  intro r' h' ef
  cases r with
  | none => cases ef
  | some a =>
    unfold sr at ef
    dsimp only at ef
    by_cases ho : (ok h [17] a = true ∧ ¬ (i < 0 ∨ (hK h a).2 ≤ i.toNatClampNeg)) ∧ (∀ b, x = some b → ok h [0] b = true)
    · rw [if_pos ho] at ef
      have ht : (hK h a).1 = 17 := by simpa using ok_tag ho.1.1
      refine ⟨(kk _ r' h' ef).1, fun X c1 c2 H locs ls n1 n2 e1 e2 w1 w2 w3 => ?_⟩
      have he := wl_at (B := B) (dA := dA) (ok_lt ho.1.1)
      rw [cel_17 ht] at he
      have hset : (wl B dA h).set a (B + a, .inl (dA 4, (hK h a).2, .inr (.inr (.inr (.inr (va_up (fun j => (hR h a j).map (fun a => B + a)) i.toNatClampNeg (x.map (fun a => B + a)))))))) = wl B dA (sR h a i.toNatClampNeg x) := by
        refine wl_ext (h := h) (h1 := sR h a i.toNatClampNeg x) rfl ?_ (fun b hb => sR_o hb)
        rw [cel_17 (h := sR h a i.toNatClampNeg x) ht]
        show (Sum.inl (dA 4, (hK h a).2, Sum.inr (Sum.inr (Sum.inr (Sum.inr (fun j => (up2 (hR h) a i.toNatClampNeg x a j).map (fun a => B + a)))))) : va_E) = _
        rw [up2_self, map_up]
      cases x with
      | none =>
        refine va_astqN X.x X.b X.k.1 w1 (wl_D B dA h) w2 a 4 he rfl ho.1.2 hdg fun H1 locs1 g1 g2 g3 => ?_
        simp only [Option.map_none] at hset
        rw [hset] at g1
        exact (kk _ r' h' ef).2 X c1 c2 H1 locs1 ls n1 n2 e1 e2 g1 g3 w3
      | some b =>
        have hb := ho.2 b rfl
        have htb : (hK h b).1 = 0 := by simpa using ok_tag hb
        have heb := wl_at (B := B) (dA := dA) (ok_lt hb)
        rw [cel_obj htb (by decide)] at heb
        refine va_astq X.x X.b X.k.1 w1 (wl_D B dA h) w2 a 4 b 0 (r := ("RingingChamber$Lead", kT0, 3)) he rfl heb rfl ho.1.2 hdg fun H1 locs1 g1 g2 g3 => ?_
        simp only [Option.map_some] at hset
        rw [hset] at g1
        exact (kk _ r' h' ef).2 X c1 c2 H1 locs1 ls n1 n2 e1 e2 g1 g3 w3
    · rw [if_neg ho] at ef; cases ef
theorem k_us {t : Nat} (ht : t ∈ [1, 2, 3, 6, 7, 10]) : t < 13 := by simp at ht; omega
theorem k_cast : ∀ (t : Nat) (r : vw_C), t ∈ [1, 2, 3, 6, 7, 10] → kCL[t]? = some r → Cond.castable r.1 "RingingChamber$Method" ∈ lw_tbl := by
  intro t r ht hr
  simp only [List.mem_cons, List.not_mem_nil, or_false] at ht
  rcases ht with rfl | rfl | rfl | rfl | rfl | rfl <;> cases hr <;> exact List.contains_iff_mem.mp (by decide +kernel)
theorem va_any_of {H : Heap} {C E : String} {a : Nat} {cell : Cell} (hc : va_Nw (.castable C E) s) (g1 : H[a]? = some cell) (g2 : cell.vm.isStatics = false) (g3 : s.vm.findClass C = some cell.cls) : va_Any E s H a := by
  obtain ⟨k, hk, -⟩ := Vm.findClass_spec g3
  refine ⟨cell, g1, g2, ⟨k, hk⟩, fun comp hE => ?_⟩
  obtain ⟨c1, t1, h1, h2, h3⟩ := Cond.castable_spec hc
  rw [g3] at h1; rw [hE] at h2
  cases h1; cases h2
  exact h3
theorem j_ast18  {r x : Option Nat} {i : Int32} {g : Hp → Option (α × Hp)} (hdg : decode cc pc = .ok (.aastore, 1)) (kk : ∀ h1, J p l e R s m args below meth c cc nL own fr lo ret nme D dA B n0 s0 Q (pc + 1) lv st h1 (g h1)) : J p l e R s m args below meth c cc nL own fr lo ret nme D dA B n0 s0 Q pc lv (vr x :: vi i :: vr r :: st) h (sr 18 [1, 2, 3, 6, 7, 10] r i x h g) := by
  intro r' h' ef
  cases r with
  | none => cases ef
  | some a =>
    unfold sr at ef
    dsimp only at ef
    by_cases ho : (ok h [18] a = true ∧ ¬ (i < 0 ∨ (hK h a).2 ≤ i.toNatClampNeg)) ∧ (∀ b, x = some b → ok h [1, 2, 3, 6, 7, 10] b = true)
    · rw [if_pos ho] at ef
      have ht : (hK h a).1 = 18 := by simpa using ok_tag ho.1.1
      refine ⟨(kk _ r' h' ef).1, fun X c1 c2 H locs ls n1 n2 e1 e2 w1 w2 w3 => ?_⟩
      have he := wl_at (B := B) (dA := dA) (ok_lt ho.1.1)
      rw [cel_18 ht] at he
      have hset : (wl B dA h).set a (B + a, .inl (dA 5, (hK h a).2, .inr (.inr (.inr (.inr (va_up (fun j => (hR h a j).map (fun a => B + a)) i.toNatClampNeg (x.map (fun a => B + a)))))))) = wl B dA (sR h a i.toNatClampNeg x) := by
        refine wl_ext (h := h) (h1 := sR h a i.toNatClampNeg x) rfl ?_ (fun b hb => sR_o hb)
        rw [cel_18 (h := sR h a i.toNatClampNeg x) ht]
        show (Sum.inl (dA 5, (hK h a).2, Sum.inr (Sum.inr (Sum.inr (Sum.inr (fun j => (up2 (hR h) a i.toNatClampNeg x a j).map (fun a => B + a)))))) : va_E) = _
        rw [up2_self, map_up]
      cases x with
      | none =>
        refine va_astqN X.x X.b X.k.1 w1 (wl_D B dA h) w2 a 5 he rfl ho.1.2 hdg fun H1 locs1 g1 g2 g3 => ?_
        simp only [Option.map_none] at hset
        rw [hset] at g1
        exact (kk _ r' h' ef).2 X c1 c2 H1 locs1 ls n1 n2 e1 e2 g1 g3 w3
      | some b =>
        have hb := ho.2 b rfl
        have hany : va_Any "RingingChamber$Method" s H (B + b) := by
          obtain ⟨⟨C, T, N⟩, hr⟩ := k_at (k_us (ok_tag hb))
          obtain ⟨cell, g1, g2, g3⟩ := recv_at X.k.1 w1 (ok_lt hb) rfl hr
          exact va_any_of (X.k.2.2.2.2 _ (k_cast _ _ (ok_tag hb) hr) rfl) g1 g2 g3
        refine va_astqM X.x X.b X.k.1 w1 (wl_D B dA h) w2 a 5 he rfl hany ho.1.2 hdg fun H1 locs1 g1 g2 g3 => ?_
        simp only [Option.map_some] at hset
        rw [hset] at g1
        exact (kk _ r' h' ef).2 X c1 c2 H1 locs1 ls n1 n2 e1 e2 g1 g3 w3
    · rw [if_neg ho] at ef; cases ef
theorem j_alen  {r : Option Nat} {g : Int32 → Option (α × Hp)} (hdg : decode cc pc = .ok (.arraylength, 1)) (kk : ∀ x : Int32, J p l e R s m args below meth c cc nL own fr lo ret nme D dA B n0 s0 Q (pc + 1) lv (vi x :: st) h (g x)) : J p l e R s m args below meth c cc nL own fr lo ret nme D dA B n0 s0 Q pc lv (vr r :: st) h (al r h g) := by
  intro r' h' ef
  cases r with
  | none => cases ef
  | some a =>
    unfold al at ef
    dsimp only at ef
    by_cases ho : ok h [13, 14, 15, 16, 17, 18] a = true
    · rw [if_pos ho] at ef
      refine ⟨(kk _ r' h' ef).1, fun X c1 c2 H locs ls n1 n2 e1 e2 w1 w2 w3 => ?_⟩
      have he := wl_at (B := B) (dA := dA) (ok_lt ho)
      have ht := ok_tag ho
      simp only [List.mem_cons, List.not_mem_nil, or_false] at ht
      rcases ht with ht | ht | ht | ht | ht | ht
      · rw [cel_13 ht] at he; exact va_alen X.x X.b X.k.1 w1 a 0 he rfl rfl hdg ((kk _ r' h' ef).2 X c1 c2 H locs ls n1 n2 e1 e2 w1 w2 w3)
      · rw [cel_14 ht] at he; exact va_alen X.x X.b X.k.1 w1 a 1 he rfl rfl hdg ((kk _ r' h' ef).2 X c1 c2 H locs ls n1 n2 e1 e2 w1 w2 w3)
      · rw [cel_15 ht] at he; exact va_alen X.x X.b X.k.1 w1 a 2 he rfl rfl hdg ((kk _ r' h' ef).2 X c1 c2 H locs ls n1 n2 e1 e2 w1 w2 w3)
      · rw [cel_16 ht] at he; exact va_alen X.x X.b X.k.1 w1 a 3 he rfl rfl hdg ((kk _ r' h' ef).2 X c1 c2 H locs ls n1 n2 e1 e2 w1 w2 w3)
      · rw [cel_17 ht] at he; exact va_alen X.x X.b X.k.1 w1 a 4 he rfl rfl hdg ((kk _ r' h' ef).2 X c1 c2 H locs ls n1 n2 e1 e2 w1 w2 w3)
      · rw [cel_18 ht] at he; exact va_alen X.x X.b X.k.1 w1 a 5 he rfl rfl hdg ((kk _ r' h' ef).2 X c1 c2 H locs ls n1 n2 e1 e2 w1 w2 w3)
    · rw [if_neg ho] at ef; cases ef
/-- the heap's size, from the room's count and the cells -/
theorem W.hsz {H : Heap} {locs : List Loc} {cells slots : Nat} {Q1 : State → Prop} {g : JFrame} (k : H.size ≤ s.heap.size + cells → W p l e R s m args below meth c H locs cells slots Q1 g) : W p l e R s m args below meth c H locs cells slots Q1 g := by
  intro T hT X
  refine k ?_ T hT X
  have h1 := X.same.2.2.1
  rw [← hT]
  exact h1
theorem hp_size {H : Heap} {locs : List Loc} {cells : Nat} (X : Cx p R s m args meth c cc nL own fr lo ret nme D dA B n0) (w1 : va_P D kCL (wl B dA h) H) (w2 : va_S (fun q => B ≤ q) s.heap H locs) (e1 : cells + n0 = hz h) (hu : H.size ≤ s.heap.size + cells) : H.size = B + hz h := by
  have h1 := X.sz
  have h2 := w2.1
  by_cases h3 : hz h = 0
  · omega
  · have h4 := (w1 (hz h - 1) _ (wl_at (by omega))).lt
    dsimp only at h4
    omega
theorem wl_new (t n : Nat) : wl B dA (nwO h t n) = wl B dA h ++ [(B + hz h, cel B dA (nwO h t n) (hz h))] := by
  show (List.range (hz h + 1)).map _ = _
  rw [List.range_succ, List.map_append]
  congr 1
  refine List.map_congr_left fun a ha => ?_
  have hn : a ≠ hz h := Nat.ne_of_lt (List.mem_range.mp ha)
  rw [cel_congr (h := h) (a := a)] <;> simp [hK, hI, hL, hR, nwO, va_up, hn]
theorem nw_K (t n : Nat) : hK (nwO h t n) (hz h) = (t, n) := by simp [hK, nwO, va_up]
theorem k_dv : ∀ (t : Nat) (r : vw_C), kCL[t]? = some r → ∀ k, k < r.2.2 → defaultValue (kTY t k) = (if fty t k = 0 then .int 0 else if fty t k = 1 then .long 0 else .null) := k_cases (by decide +kernel) (by decide +kernel) (by decide +kernel) (by decide +kernel) (by decide +kernel) (by decide +kernel) (by decide +kernel) (by decide +kernel) (by decide +kernel) (by decide +kernel) (by decide +kernel) (by decide +kernel) (by decide +kernel)
theorem k_tn : ∀ (t : Nat) (r : vw_C), kCL[t]? = some r → Cond.instantiable r.1 (nfl t) ∈ GT := fun t r h => by rw [← k_n t r h]; exact (k_inst t r h).1
def NL (own : String) (idx t : Nat) : Prop := ∃ r : vw_C, kCL[t]? = some r ∧ Cond.classLink own idx r.1 ∈ GT
theorem j_new  {idx t : Nat} {g : Option Nat → Hp → Option (α × Hp)} (hdg : decode cc pc = .ok (.new idx, 3)) (N : NL own idx t) (kk : ∀ r h1, J p l e R s m args below meth c cc nL own fr lo ret nme D dA B n0 s0 Q (pc + 3) lv (vr r :: st) h1 (g r h1)) : J p l e R s m args below meth c cc nL own fr lo ret nme D dA B n0 s0 Q pc lv st h (nw t h g) := by
  intro r' h' ef
  obtain ⟨⟨C, T, N⟩, t1, t2⟩ := N
  have k1 := kk (some (hz h)) (nwO h t (nfl t)) r' h' ef
  have z1 : hz h + 1 ≤ hz h' := k1.1.1
  have z2 : hs h + nfl t ≤ hs h' := k1.1.2
  refine ⟨⟨by omega, by omega⟩, fun X c1 c2 H locs ls n1 n2 e1 e2 w1 w2 w3 => W.hsz fun hu => ?_⟩
  have hH := hp_size X w1 w2 e1 hu
  have hKn := X.k.1.1 t _ t1
  refine W.newcK (C := C) (n := nfl t) X.x X.b X.own (X.ts _ t2) (X.ts _ (k_tn t _ t1)) (X.ts _ (k_inst t _ t1).2) rfl hdg (by omega) (by omega) hKn.2.1 hH fun H1 kC hkC g1 g2 g3 => ?_
  refine k1.2 X c1 c2 H1 locs ls (n1 + 1) (n2 + nfl t) (by show n1 + 1 + n0 = hz h + 1; omega) (by show n2 + nfl t + s0 = hs h + nfl t; omega) ?_ ?_ w3
  · rw [wl_new]
    refine va_P.app (w1.kept fun k q hq => g3 _ (by have := (w1 k q hq).lt; omega)) ?_
    intro k q hq
    have hz0 : k < 1 := (List.getElem?_eq_some_iff.mp hq).1
    rw [show k = 0 by omega] at hq
    cases hq
    show va_at D kCL (B + hz h, cel B dA (nwO h t (nfl t)) (hz h)) H1
    rw [cel_obj (t := t) (by rw [nw_K]) (k_lt _ _ t1)]
    refine ⟨_, t1, (u_born (kTY t) X.ts (k_in _ _ t1) hKn hkC g1 (k_ty _ _ t1)).to fun k hk => ?_⟩
    have hk1 : k < nfl t := by rw [← show N = nfl t from k_n _ _ t1]; exact hk
    rw [k_dv _ _ t1 k hk, vp_V, List.getD_eq_getElem?_getD, flds_at hk1]
    show _ = fvl B (nwO h t (nfl t)) (hz h) (fty t k) k
    unfold fvl
    by_cases q1 : fty t k = 0
    · rw [if_pos q1, if_pos q1]; simp [hI, nwO, va_up]
    · rw [if_neg q1, if_neg q1]
      by_cases q2 : fty t k = 1
      · rw [if_pos q2, if_pos q2]; simp [hL, nwO, va_up]
      · rw [if_neg q2, if_neg q2]; simp [hR, nwO, va_up, rv, va_rf]
  · exact ⟨by have := w2.1; omega, fun q q1 q2 => (g3 q (by have := w2.1; omega)).trans (w2.2.1 q q1 q2), w2.2.2⟩
theorem j_newa13  {n : Int32} {g : Option Nat → Hp → Option (α × Hp)} (hdg : decode cc pc = .ok (.newarray .int, 2)) (harr : Cond.arrayClass .int ∈ GT) (kk : ∀ r h1, J p l e R s m args below meth c cc nL own fr lo ret nme D dA B n0 s0 Q (pc + 2) lv (vr r :: st) h1 (g r h1)) : J p l e R s m args below meth c cc nL own fr lo ret nme D dA B n0 s0 Q pc lv (vi n :: st) h (na 13 n h g) := by
  intro r' h' ef
  unfold na at ef
  by_cases ho : ¬ n < 0 ∧ n.toNatClampNeg ≤ 1000000
  · rw [if_pos ho] at ef
    have k1 := kk (some (hz h)) (nwO h 13 n.toNatClampNeg) r' h' ef
    have z1 : hz h + 1 ≤ hz h' := k1.1.1
    have z2 : hs h + n.toNatClampNeg ≤ hs h' := k1.1.2
    refine ⟨⟨by omega, by omega⟩, fun X c1 c2 H locs ls n1 n2 e1 e2 w1 w2 w3 => W.hsz fun hu => ?_⟩
    have hH := hp_size X w1 w2 e1 hu
    refine va_newaK (atype := .int) X.x X.b (X.ts _ harr) rfl hdg rfl ho.1 rfl (by show n.toNatClampNeg * _ ≤ _; have := ho.2; simp only [newarray.typeOf, componentBytes]; omega) (by omega) (by omega) hH fun H1 cA g1 g2 g3 g4 g5 => ?_
    have hcA : cA = dA 0 := Option.some.inj (g5.symm.trans (X.k.1.2 0 _ rfl).2)
    subst hcA
    refine k1.2 X c1 c2 H1 locs ls (n1 + 1) (n2 + n.toNatClampNeg) (by show n1 + 1 + n0 = hz h + 1; omega) (by show n2 + n.toNatClampNeg + s0 = hs h + n.toNatClampNeg; omega) ?_ ?_ w3
    · rw [wl_new]
      refine va_P.app (w1.kept fun k q hq => g3 _ (by have := (w1 k q hq).lt; omega)) ?_
      intro k q hq
      have hz0 : k < 1 := (List.getElem?_eq_some_iff.mp hq).1
      rw [show k = 0 by omega] at hq
      cases hq
      show va_at D kCL (B + hz h, cel B dA (nwO h 13 n.toNatClampNeg) (hz h)) H1
      rw [cel_13 (by rw [nw_K]), nw_K]
      show H1[B + hz h]? = some (vp_cell (dA 0) (n.toNatClampNeg, .inl (hI (nwO h 13 n.toNatClampNeg) (hz h))))
      rw [g1, show hI (nwO h 13 n.toNatClampNeg) (hz h) = (fun _ => 0) from by simp [hI, hL, nwO, va_up]]
      rfl
    · exact ⟨by have := w2.1; omega, fun q q1 q2 => (g3 q (by have := w2.1; omega)).trans (w2.2.1 q q1 q2), w2.2.2⟩
  · rw [if_neg ho] at ef; cases ef
theorem j_newa14  {n : Int32} {g : Option Nat → Hp → Option (α × Hp)} (hdg : decode cc pc = .ok (.newarray .long, 2)) (harr : Cond.arrayClass .long ∈ GT) (kk : ∀ r h1, J p l e R s m args below meth c cc nL own fr lo ret nme D dA B n0 s0 Q (pc + 2) lv (vr r :: st) h1 (g r h1)) : J p l e R s m args below meth c cc nL own fr lo ret nme D dA B n0 s0 Q pc lv (vi n :: st) h (na 14 n h g) := by
  intro r' h' ef
  unfold na at ef
  by_cases ho : ¬ n < 0 ∧ n.toNatClampNeg ≤ 1000000
  · rw [if_pos ho] at ef
    have k1 := kk (some (hz h)) (nwO h 14 n.toNatClampNeg) r' h' ef
    have z1 : hz h + 1 ≤ hz h' := k1.1.1
    have z2 : hs h + n.toNatClampNeg ≤ hs h' := k1.1.2
    refine ⟨⟨by omega, by omega⟩, fun X c1 c2 H locs ls n1 n2 e1 e2 w1 w2 w3 => W.hsz fun hu => ?_⟩
    have hH := hp_size X w1 w2 e1 hu
    refine va_newaK (atype := .long) X.x X.b (X.ts _ harr) rfl hdg rfl ho.1 rfl (by show n.toNatClampNeg * _ ≤ _; have := ho.2; simp only [newarray.typeOf, componentBytes]; omega) (by omega) (by omega) hH fun H1 cA g1 g2 g3 g4 g5 => ?_
    have hcA : cA = dA 1 := Option.some.inj (g5.symm.trans (X.k.1.2 1 _ rfl).2)
    subst hcA
    refine k1.2 X c1 c2 H1 locs ls (n1 + 1) (n2 + n.toNatClampNeg) (by show n1 + 1 + n0 = hz h + 1; omega) (by show n2 + n.toNatClampNeg + s0 = hs h + n.toNatClampNeg; omega) ?_ ?_ w3
    · rw [wl_new]
      refine va_P.app (w1.kept fun k q hq => g3 _ (by have := (w1 k q hq).lt; omega)) ?_
      intro k q hq
      have hz0 : k < 1 := (List.getElem?_eq_some_iff.mp hq).1
      rw [show k = 0 by omega] at hq
      cases hq
      show va_at D kCL (B + hz h, cel B dA (nwO h 14 n.toNatClampNeg) (hz h)) H1
      rw [cel_14 (by rw [nw_K]), nw_K]
      show H1[B + hz h]? = some (vp_cell (dA 1) (n.toNatClampNeg, .inr (.inl (hL (nwO h 14 n.toNatClampNeg) (hz h)))))
      rw [g1, show hL (nwO h 14 n.toNatClampNeg) (hz h) = (fun _ => 0) from by simp [hI, hL, nwO, va_up]]
      rfl
    · exact ⟨by have := w2.1; omega, fun q q1 q2 => (g3 q (by have := w2.1; omega)).trans (w2.2.1 q q1 q2), w2.2.2⟩
  · rw [if_neg ho] at ef; cases ef
theorem j_newa15  {n : Int32} {g : Option Nat → Hp → Option (α × Hp)} (hdg : decode cc pc = .ok (.newarray .byte, 2)) (harr : Cond.arrayClass .byte ∈ GT) (kk : ∀ r h1, J p l e R s m args below meth c cc nL own fr lo ret nme D dA B n0 s0 Q (pc + 2) lv (vr r :: st) h1 (g r h1)) : J p l e R s m args below meth c cc nL own fr lo ret nme D dA B n0 s0 Q pc lv (vi n :: st) h (na 15 n h g) := by
  intro r' h' ef
  unfold na at ef
  by_cases ho : ¬ n < 0 ∧ n.toNatClampNeg ≤ 1000000
  · rw [if_pos ho] at ef
    have k1 := kk (some (hz h)) (nwO h 15 n.toNatClampNeg) r' h' ef
    have z1 : hz h + 1 ≤ hz h' := k1.1.1
    have z2 : hs h + n.toNatClampNeg ≤ hs h' := k1.1.2
    refine ⟨⟨by omega, by omega⟩, fun X c1 c2 H locs ls n1 n2 e1 e2 w1 w2 w3 => W.hsz fun hu => ?_⟩
    have hH := hp_size X w1 w2 e1 hu
    refine va_newaK (atype := .byte) X.x X.b (X.ts _ harr) rfl hdg rfl ho.1 rfl (by show n.toNatClampNeg * _ ≤ _; have := ho.2; simp only [newarray.typeOf, componentBytes]; omega) (by omega) (by omega) hH fun H1 cA g1 g2 g3 g4 g5 => ?_
    have hcA : cA = dA 2 := Option.some.inj (g5.symm.trans (X.k.1.2 2 _ rfl).2)
    subst hcA
    refine k1.2 X c1 c2 H1 locs ls (n1 + 1) (n2 + n.toNatClampNeg) (by show n1 + 1 + n0 = hz h + 1; omega) (by show n2 + n.toNatClampNeg + s0 = hs h + n.toNatClampNeg; omega) ?_ ?_ w3
    · rw [wl_new]
      refine va_P.app (w1.kept fun k q hq => g3 _ (by have := (w1 k q hq).lt; omega)) ?_
      intro k q hq
      have hz0 : k < 1 := (List.getElem?_eq_some_iff.mp hq).1
      rw [show k = 0 by omega] at hq
      cases hq
      show va_at D kCL (B + hz h, cel B dA (nwO h 15 n.toNatClampNeg) (hz h)) H1
      rw [cel_15 (by rw [nw_K]), nw_K]
      show H1[B + hz h]? = some (vp_cell (dA 2) (n.toNatClampNeg, .inl (hI (nwO h 15 n.toNatClampNeg) (hz h))))
      rw [g1, show hI (nwO h 15 n.toNatClampNeg) (hz h) = (fun _ => 0) from by simp [hI, hL, nwO, va_up]]
      rfl
    · exact ⟨by have := w2.1; omega, fun q q1 q2 => (g3 q (by have := w2.1; omega)).trans (w2.2.1 q q1 q2), w2.2.2⟩
  · rw [if_neg ho] at ef; cases ef
theorem j_newa16  {n : Int32} {g : Option Nat → Hp → Option (α × Hp)} (hdg : decode cc pc = .ok (.newarray .boolean, 2)) (harr : Cond.arrayClass .boolean ∈ GT) (kk : ∀ r h1, J p l e R s m args below meth c cc nL own fr lo ret nme D dA B n0 s0 Q (pc + 2) lv (vr r :: st) h1 (g r h1)) : J p l e R s m args below meth c cc nL own fr lo ret nme D dA B n0 s0 Q pc lv (vi n :: st) h (na 16 n h g) := by
  intro r' h' ef
  unfold na at ef
  by_cases ho : ¬ n < 0 ∧ n.toNatClampNeg ≤ 1000000
  · rw [if_pos ho] at ef
    have k1 := kk (some (hz h)) (nwO h 16 n.toNatClampNeg) r' h' ef
    have z1 : hz h + 1 ≤ hz h' := k1.1.1
    have z2 : hs h + n.toNatClampNeg ≤ hs h' := k1.1.2
    refine ⟨⟨by omega, by omega⟩, fun X c1 c2 H locs ls n1 n2 e1 e2 w1 w2 w3 => W.hsz fun hu => ?_⟩
    have hH := hp_size X w1 w2 e1 hu
    refine va_newaK (atype := .boolean) X.x X.b (X.ts _ harr) rfl hdg rfl ho.1 rfl (by show n.toNatClampNeg * _ ≤ _; have := ho.2; simp only [newarray.typeOf, componentBytes]; omega) (by omega) (by omega) hH fun H1 cA g1 g2 g3 g4 g5 => ?_
    have hcA : cA = dA 3 := Option.some.inj (g5.symm.trans (X.k.1.2 3 _ rfl).2)
    subst hcA
    refine k1.2 X c1 c2 H1 locs ls (n1 + 1) (n2 + n.toNatClampNeg) (by show n1 + 1 + n0 = hz h + 1; omega) (by show n2 + n.toNatClampNeg + s0 = hs h + n.toNatClampNeg; omega) ?_ ?_ w3
    · rw [wl_new]
      refine va_P.app (w1.kept fun k q hq => g3 _ (by have := (w1 k q hq).lt; omega)) ?_
      intro k q hq
      have hz0 : k < 1 := (List.getElem?_eq_some_iff.mp hq).1
      rw [show k = 0 by omega] at hq
      cases hq
      show va_at D kCL (B + hz h, cel B dA (nwO h 16 n.toNatClampNeg) (hz h)) H1
      rw [cel_16 (by rw [nw_K]), nw_K]
      show H1[B + hz h]? = some (vp_cell (dA 3) (n.toNatClampNeg, .inl (hI (nwO h 16 n.toNatClampNeg) (hz h))))
      rw [g1, show hI (nwO h 16 n.toNatClampNeg) (hz h) = (fun _ => 0) from by simp [hI, hL, nwO, va_up]]
      rfl
    · exact ⟨by have := w2.1; omega, fun q q1 q2 => (g3 q (by have := w2.1; omega)).trans (w2.2.1 q q1 q2), w2.2.2⟩
  · rw [if_neg ho] at ef; cases ef
theorem j_newa17  {idx : Nat} {n : Int32} {g : Option Nat → Hp → Option (α × Hp)} (hdg : decode cc pc = .ok (.anewarray idx, 3)) (hcl : Cond.classLink own idx "RingingChamber$Lead" ∈ GT) (kk : ∀ r h1, J p l e R s m args below meth c cc nL own fr lo ret nme D dA B n0 s0 Q (pc + 3) lv (vr r :: st) h1 (g r h1)) : J p l e R s m args below meth c cc nL own fr lo ret nme D dA B n0 s0 Q pc lv (vi n :: st) h (na 17 n h g) := by
  intro r' h' ef
  unfold na at ef
  by_cases ho : ¬ n < 0 ∧ n.toNatClampNeg ≤ 1000000
  · rw [if_pos ho] at ef
    have k1 := kk (some (hz h)) (nwO h 17 n.toNatClampNeg) r' h' ef
    have z1 : hz h + 1 ≤ hz h' := k1.1.1
    have z2 : hs h + n.toNatClampNeg ≤ hs h' := k1.1.2
    refine ⟨⟨by omega, by omega⟩, fun X c1 c2 H locs ls n1 n2 e1 e2 w1 w2 w3 => W.hsz fun hu => ?_⟩
    have hH := hp_size X w1 w2 e1 hu
    refine W.anew X.x X.b X.own (X.ts _ hcl) (va_AO.use X.k.2.1) rfl hdg rfl ho.1 (by have := ho.2; omega) (by omega) (by omega) fun cA kA comp f1 f2 f3 f4 => ?_
    have hcA : cA = dA 4 := by
      obtain ⟨_, _, _, _, _, q4⟩ := (X.k.1.2 4 _ rfl).2
      exact Option.some.inj (f1.symm.trans q4)
    subst hcA
    generalize hH1 : H.push ({ cls := dA 4, slots := Array.replicate n.toNatClampNeg .null, vm := .none } : Cell) = H1
    have g2 : H1.size = H.size + 1 := by rw [← hH1, Array.size_push]
    have g1 : H1[H.size]? = some (arrV (dA 4) n.toNatClampNeg (fun _ => .null)) := by rw [← hH1, Array.getElem?_push_size, ← arrV_new]
    have g3 : ∀ q : Nat, q < H.size → H1[q]? = H[q]? := fun q hq => by rw [← hH1, Array.getElem?_push, if_neg (Nat.ne_of_lt hq)]
    rw [hH] at g1 g2 g3
    rw [hH]
    refine k1.2 X c1 c2 H1 locs ls (n1 + 1) (n2 + n.toNatClampNeg) (by show n1 + 1 + n0 = hz h + 1; omega) (by show n2 + n.toNatClampNeg + s0 = hs h + n.toNatClampNeg; omega) ?_ ?_ w3
    · rw [wl_new]
      refine va_P.app (w1.kept fun k q hq => g3 _ (by have := (w1 k q hq).lt; omega)) ?_
      intro k q hq
      have hz0 : k < 1 := (List.getElem?_eq_some_iff.mp hq).1
      rw [show k = 0 by omega] at hq
      cases hq
      show va_at D kCL (B + hz h, cel B dA (nwO h 17 n.toNatClampNeg) (hz h)) H1
      rw [cel_17 (by rw [nw_K]), nw_K]
      show H1[B + hz h]? = some (vp_cell (dA 4) (n.toNatClampNeg, .inr (.inr (.inr (.inr (fun j => (hR (nwO h 17 n.toNatClampNeg) (hz h) j).map (fun a => B + a)))))))
      rw [g1, show hR (nwO h 17 n.toNatClampNeg) (hz h) = (fun _ => none) from by simp [hR, nwO, va_up]]
      rfl
    · exact ⟨by have := w2.1; omega, fun q q1 q2 => (g3 q (by have := w2.1; omega)).trans (w2.2.1 q q1 q2), w2.2.2⟩
  · rw [if_neg ho] at ef; cases ef
theorem j_newa18  {idx : Nat} {n : Int32} {g : Option Nat → Hp → Option (α × Hp)} (hdg : decode cc pc = .ok (.anewarray idx, 3)) (hcl : Cond.classLink own idx "RingingChamber$Method" ∈ GT) (kk : ∀ r h1, J p l e R s m args below meth c cc nL own fr lo ret nme D dA B n0 s0 Q (pc + 3) lv (vr r :: st) h1 (g r h1)) : J p l e R s m args below meth c cc nL own fr lo ret nme D dA B n0 s0 Q pc lv (vi n :: st) h (na 18 n h g) := by
  intro r' h' ef
  unfold na at ef
  by_cases ho : ¬ n < 0 ∧ n.toNatClampNeg ≤ 1000000
  · rw [if_pos ho] at ef
    have k1 := kk (some (hz h)) (nwO h 18 n.toNatClampNeg) r' h' ef
    have z1 : hz h + 1 ≤ hz h' := k1.1.1
    have z2 : hs h + n.toNatClampNeg ≤ hs h' := k1.1.2
    refine ⟨⟨by omega, by omega⟩, fun X c1 c2 H locs ls n1 n2 e1 e2 w1 w2 w3 => W.hsz fun hu => ?_⟩
    have hH := hp_size X w1 w2 e1 hu
    refine W.anew X.x X.b X.own (X.ts _ hcl) (va_AO.use X.k.2.2.1) rfl hdg rfl ho.1 (by have := ho.2; omega) (by omega) (by omega) fun cA kA comp f1 f2 f3 f4 => ?_
    have hcA : cA = dA 5 := by
      obtain ⟨_, _, _, _, _, q4⟩ := (X.k.1.2 5 _ rfl).2
      exact Option.some.inj (f1.symm.trans q4)
    subst hcA
    generalize hH1 : H.push ({ cls := dA 5, slots := Array.replicate n.toNatClampNeg .null, vm := .none } : Cell) = H1
    have g2 : H1.size = H.size + 1 := by rw [← hH1, Array.size_push]
    have g1 : H1[H.size]? = some (arrV (dA 5) n.toNatClampNeg (fun _ => .null)) := by rw [← hH1, Array.getElem?_push_size, ← arrV_new]
    have g3 : ∀ q : Nat, q < H.size → H1[q]? = H[q]? := fun q hq => by rw [← hH1, Array.getElem?_push, if_neg (Nat.ne_of_lt hq)]
    rw [hH] at g1 g2 g3
    rw [hH]
    refine k1.2 X c1 c2 H1 locs ls (n1 + 1) (n2 + n.toNatClampNeg) (by show n1 + 1 + n0 = hz h + 1; omega) (by show n2 + n.toNatClampNeg + s0 = hs h + n.toNatClampNeg; omega) ?_ ?_ w3
    · rw [wl_new]
      refine va_P.app (w1.kept fun k q hq => g3 _ (by have := (w1 k q hq).lt; omega)) ?_
      intro k q hq
      have hz0 : k < 1 := (List.getElem?_eq_some_iff.mp hq).1
      rw [show k = 0 by omega] at hq
      cases hq
      show va_at D kCL (B + hz h, cel B dA (nwO h 18 n.toNatClampNeg) (hz h)) H1
      rw [cel_18 (by rw [nw_K]), nw_K]
      show H1[B + hz h]? = some (vp_cell (dA 5) (n.toNatClampNeg, .inr (.inr (.inr (.inr (fun j => (hR (nwO h 18 n.toNatClampNeg) (hz h) j).map (fun a => B + a)))))))
      rw [g1, show hR (nwO h 18 n.toNatClampNeg) (hz h) = (fun _ => none) from by simp [hR, nwO, va_up]]
      rfl
    · exact ⟨by have := w2.1; omega, fun q q1 q2 => (g3 q (by have := w2.1; omega)).trans (w2.2.1 q q1 q2), w2.2.2⟩
  · rw [if_neg ho] at ef; cases ef
end RA
end
section
def vI (x : Int32) : Option AV := some (vi x)
def vL (x : Int64) : Option AV := some (vl x)
def vR (x : Option Nat) : Option AV := some (vr x)
def vU (_ : Unit) : Option AV := none
def rz (x : Int32) (h : Hp) : Option (Int32 × Hp) := if x = 0 ∨ x = 1 then some (x, h) else none
/-- the end of a method's walk: it returns r, and the heap is h' -/
def QM {α : Type} (below : List Frame) (args : Array Value) (s : State) (D : va_G) (dA : Nat → ClassId) (B n0 s0 : Nat) (vo : α → Option AV) : α → Hp → State → Prop := fun r h' => MQ below (Qv D dA B ((vo r).map (val B)) h') args s (hz h' - n0) (hs h' - s0) (fun q => B ≤ q)
abbrev rmo (fr lo cs sl : Nat) : Room := { frames := fr, cells := cs, slots := sl, locals := lo }
/-- a method's contract: it does what the pure program f tells -/
def Ct {α : Type} (l : Launch) (y : MethodName) (b : ByteArray) (mL : Nat) (rt : Option FieldType) (fr lo : Nat) (D : va_G) (dA : Nat → ClassId) (B : Nat) (as : List AV) (h : Hp) (vo : α → Option AV) (f : Option (α × Hp)) : Prop :=
  ∀ (r : α) (h' : Hp), f = some (r, h') → (Program → Env → Room → State → MethodId → Array Value → List Frame → Method → Code → hz h ≤ hz h' ∧ hs h ≤ hs h') ∧ Met l y (Cond.code y b mL rt :: GT) (rmo fr lo (hz h' - hz h) (hs h' - hs h)) (va_Pc (as.map (val B)) (Wk D dA B h)) (Qv D dA B ((vo r).map (val B)) h') (hz h' - hz h) (hs h' - hs h) (fun q => B ≤ q)
def lva : Nat → List AV → List (Nat × AV)
  | _, [] => []
  | i, v :: vs => (i, v) :: lva (if isL v then i + 2 else i + 1) vs
theorem lva_ml (B : Nat) : ∀ (as : List AV) (i : Nat), ml B (lva i as) = lv_args i (as.map (val B)) := by
  intro as
  induction as with
  | nil => intro i; rfl
  | cons v vs ih =>
    intro i
    show (i, val B v) :: ml B (lva (if isL v then i + 2 else i + 1) vs) = (i, val B v) :: lv_args (if (val B v).category = 2 then i + 2 else i + 1) (vs.map (val B))
    rw [ih, val_cat]
    rcases v with x | x | r | b <;> rfl
theorem lg_len (B : Nat) : ∀ as : List AV, (lg_sl (as.map (val B))).length = (as.map cat).sum := by
  intro as
  induction as with
  | nil => rfl
  | cons v vs ih =>
    have h1 : lg_sl ((v :: vs).map (val B)) = (if (val B v).category = 2 then [Slot.val (val B v), Slot.second] else [Slot.val (val B v)]) ++ lg_sl (vs.map (val B)) := rfl
    rw [h1, List.length_append, ih, val_cat, List.map_cons, List.sum_cons]
    rcases v with x | x | r | b <;> rfl
section RC
variable {α : Type} {p : Program} {l : Launch} {e : Env} {R : Room} {s : State} {m : MethodId} {args : Array Value} {below : List Frame} {meth : Method} {c : Code} {cc : ByteArray} {nL : Nat} {own : String} {fr lo : Nat} {ret : Option FieldType} {nme : String} {D : va_G} {dA : Nat → ClassId} {B n0 s0 : Nat} {Q : α → Hp → State → Prop} {pc : Nat} {lv : List (Nat × AV)} {st : List AV} {h : Hp} {f : Option (α × Hp)}
theorem Ct.of {y : MethodName} {b : ByteArray} {mL : Nat} {rt : Option FieldType} {as : List AV} {vo : α → Option AV} (hy : plainName y.cls = true) (hlen : (as.map cat).sum ≤ mL)
    (body : ∀ (p : Program) (e : Env) (R : Room) (s : State) (m : MethodId) (args : Array Value) (below : List Frame) (meth : Method) (c : Code), J p l e R s m args below meth c b mL y.cls fr lo rt y.name D dA B (hz h) (hs h) (QM below args s D dA B (hz h) (hs h) vo) 0 (lva 0 as) [] h f) : Ct l y b mL rt fr lo D dA B as h vo f := by
  intro r h' ef
  refine ⟨fun p e R s m args below meth c => (body p e R s m args below meth c r h' ef).1, ?_⟩
  refine Met.ofW (cc := b) (maxL := mL) (ret := rt) hy rfl ?_
  intro p e s m args below meth c s₁ B1 hml hv
  obtain ⟨rfl, hsz, hP, hK⟩ := hv
  have hb := body p e (rmo fr lo (hz h' - hz h) (hs h' - hs h)) s m (as.map (val B)).toArray below meth c r h' ef
  have hts := atoms_spec (ws := Cond.code y b mL rt :: GT) B1.pre
  have X : Cx p (rmo fr lo (hz h' - hz h) (hs h' - hs h)) s m (as.map (val B)).toArray meth c b mL y.cls fr lo rt y.name D dA B (hz h) :=
    ⟨B1.exec, B1.bytes, hml, findClass_of_methodNamed B1.named, fun w hw => hts w (List.mem_cons_of_mem _ hw), hK, B1.notSynchronized, hsz, rfl, rfl, B1.returns, (name_of_methodNamed B1.named B1.method).1⟩
  have hl := lv_entry (as.map (val B)) (n := mL) (by rw [lg_len]; exact hlen)
  rw [lg_entry_eq]
  exact hb.2 X (by show hz h' ≤ hz h + (hz h' - hz h); omega) (by show hs h' ≤ hs h + (hs h' - hs h); omega) s.heap [] _ 0 0 (by omega) (by omega) hP va_S.rf (by rw [lva_ml]; exact hl)
theorem Ct.of2 {y : MethodName} {b : ByteArray} {mL : Nat} {rt : Option FieldType} {as : List AV} {vo : α → Option AV} {own nme : String} {lv : List (Nat × AV)} (ho : y.cls = own) (hnm : y.name = nme) (hy : plainName own = true) (hlen : (as.map cat).sum ≤ mL) (hlv : lva 0 as = lv)
    (body : ∀ (p : Program) (e : Env) (R : Room) (s : State) (m : MethodId) (args : Array Value) (below : List Frame) (meth : Method) (c : Code), J p l e R s m args below meth c b mL own fr lo rt nme D dA B (hz h) (hs h) (QM below args s D dA B (hz h) (hs h) vo) 0 lv [] h f) : Ct l y b mL rt fr lo D dA B as h vo f := by
  subst ho hnm hlv
  exact Ct.of hy hlen body
theorem Ct.eq {y : MethodName} {b : ByteArray} {mL : Nat} {rt : Option FieldType} {as : List AV} {vo : α → Option AV} {g : Option (α × Hp)} (e : f = g) (k : Ct l y b mL rt fr lo D dA B as h vo g) : Ct l y b mL rt fr lo D dA B as h vo f := e ▸ k
theorem j_lv {lv' : List (Nat × AV)} (e1 : lv = lv') (k : J p l e R s m args below meth c cc nL own fr lo ret nme D dA B n0 s0 Q pc lv' st h f) : J p l e R s m args below meth c cc nL own fr lo ret nme D dA B n0 s0 Q pc lv st h f := e1 ▸ k
theorem J.eq {f' : Option (α × Hp)} (e1 : f = f') (k : J p l e R s m args below meth c cc nL own fr lo ret nme D dA B n0 s0 Q pc lv st h f') : J p l e R s m args below meth c cc nL own fr lo ret nme D dA B n0 s0 Q pc lv st h f := e1 ▸ k
theorem run_go {v : Option Value} {h1 : Hp} {H : Heap} {locs : List Loc} {ls : Array Slot} {cells slots mc ms : Nat} {Q1 : State → Prop} {st0 rest : List Value} {a : Array Value} (hr : va_Run p l e R s m args below meth c H locs cells slots mc ms (F0 m pc ls st0) rest (Qv D dA B v h1 a) (fun q => B ≤ q)) (hS : va_S (fun q => B ≤ q) s.heap H locs)
    (kk : ∀ (H1 : Heap) (locs1 : List Loc), va_P D kCL (wl B dA h1) H1 → va_S (fun q => B ≤ q) s.heap H1 locs1 → W p l e R s m args below meth c H1 locs1 (cells + mc) (slots + ms) Q1 (F0 m (pc + 3) ls (v.toList ++ rest))) : W p l e R s m args below meth c H locs cells slots Q1 (F0 m pc ls st0) := by
  intro T hT X
  obtain ⟨v', st₀, t, T', L, h0, X', hL, e1, e2, ⟨hv, ⟨hp, hk0⟩, hz1, hk⟩, st⟩ := hr T hT X
  cases hv
  rw [h0] at hz1 hk
  obtain ⟨t2, a1, b1⟩ := kk T'.heap (locs ++ L) (by rw [e1]; exact hp)
    ⟨Nat.le_trans hS.1 (by rw [e1]; exact hz1), fun q h1 h2 => by rw [e1, hk q (Nat.lt_of_lt_of_le h1 hS.1) h2]; exact hS.2.1 q h1 h2, fun q hq => by
      rcases List.mem_append.mp hq with h | h
      · exact hS.2.2 q h
      · exact hL q h⟩ T' rfl X'
  exact ⟨t2, st t2 a1, b1⟩
theorem wk_blind {as : List Value} : FrameBlind (va_Pc as (Wk D dA B h)) := fun a U g mk q => by
  obtain ⟨q0, q1, qP, qK⟩ := q
  exact ⟨q0, q1, qP, Kx.moved (u := U) (U := U.calling g mk a) (Vm.Alike.refl U.vm) qK⟩
theorem good_ws {w : Cond} (hw : w ∈ GT) : GoodIn GT (w :: GT) := fun v hv => by
  rcases List.mem_cons.mp hv with rfl | hv
  · exact ⟨hw, good_of_word (gt_good hw)⟩
  · exact ⟨hv, good_of_word (gt_good hv)⟩
/-- what every call's words are -/
def SL (own : String) (idx : Nat) (y : MethodName) (b : ByteArray) (mL : Nat) (rt : Option FieldType) (n : Nat) : Prop := Cond.code y b mL rt ∈ GT ∧ Cond.initialized y.cls ∈ GT ∧ Cond.methodLink own idx y ∈ GT ∧ (y.cls ≠ "java/lang/invoke/MethodHandle" ∧ y.cls ≠ "java/lang/invoke/VarHandle" ∧ (parseMethodDescriptor y.desc).map (fun d => d.parameters.length) = some n)
theorem sl_B {y : MethodName} {b : ByteArray} {mL n idx fr' lo' cs sl' : Nat} {rt : Option FieldType} (X : Cx p R s m args meth c cc nL own fr lo ret nme D dA B n0) (S : SL own idx y b mL rt n) (hfr : fr' + 1 ≤ fr) (hlo : 8 + (mL + 11) + lo' ≤ lo) : CallB R s args own idx y b mL rt (Cond.code y b mL rt :: GT) (rmo fr' lo' cs sl') cs sl' n :=
  callB_of n X.ts (good_ws S.1) rfl rfl rfl (X.ts _ S.2.1) (X.ts _ S.2.2.1) S.2.2.2 ⟨by rw [X.fr]; exact hfr, by rw [X.lo]; exact hlo⟩
theorem wk_of {H : Heap} {locs : List Loc} {cells : Nat} (X : Cx p R s m args meth c cc nL own fr lo ret nme D dA B n0) (w1 : va_P D kCL (wl B dA h) H) (w2 : va_S (fun q => B ≤ q) s.heap H locs) (e1 : cells + n0 = hz h) (hu : H.size ≤ s.heap.size + cells) (U : State) (hU : U.heap = H) (hW : s.WarmedH U.vm) : Wk D dA B h U := ⟨by rw [hU]; exact hp_size X w1 w2 e1 hu, by rw [hU]; exact w1, Kx.moved hW.alike X.k⟩
theorem rest_ok {ls : Array Slot} {st0 : List Value} (h8 : (st.map cat).sum ≤ 8) : 2 * (F0 m pc ls st0).monitorRoom + ((st.map (val B)).map fun v => v.category).sum ≤ 8 := lv_room (by rw [cat_sum]; exact h8)
/-- behind a call -/
theorem j_run {β : Type} {F : Option (β × Hp)} {vo : β → Option AV} {g : β → Hp → Option (α × Hp)} {st0 : List AV} {as : Array Value} {y : MethodName} {b : ByteArray} {mL fr' lo' : Nat} {rt : Option FieldType} {av : List AV} (hC : Ct l y b mL rt fr' lo' D dA B av h vo F)
    (hrun : ∀ (X : Cx p R s m args meth c cc nL own fr lo ret nme D dA B n0) (r1 : β) (h1 : Hp) (H : Heap) (locs : List Loc) (ls : Array Slot) (cells slots : Nat), Met l y (Cond.code y b mL rt :: GT) (rmo fr' lo' (hz h1 - hz h) (hs h1 - hs h)) (va_Pc (av.map (val B)) (Wk D dA B h)) (Qv D dA B ((vo r1).map (val B)) h1) (hz h1 - hz h) (hs h1 - hs h) (fun q => B ≤ q) → va_P D kCL (wl B dA h) H → (∀ U : State, U.heap = H → s.WarmedH U.vm → Wk D dA B h U) → ls.size = nL → cells + (hz h1 - hz h) ≤ R.cells ∧ slots + (hs h1 - hs h) ≤ R.slots → va_Run p l e R s m args below meth c H locs cells slots (hz h1 - hz h) (hs h1 - hs h) (F0 m pc ls (st0.map (val B))) (st.map (val B)) (Qv D dA B ((vo r1).map (val B)) h1 as) (fun q => B ≤ q))
    (kk : ∀ r1 h1, J p l e R s m args below meth c cc nL own fr lo ret nme D dA B n0 s0 Q (pc + 3) lv ((vo r1).toList ++ st) h1 (g r1 h1)) : J p l e R s m args below meth c cc nL own fr lo ret nme D dA B n0 s0 Q pc lv st0 h (cl F g) := by
  intro r' h' ef
  cases hF : F with
  | none => rw [hF] at ef; cases ef
  | some q =>
    obtain ⟨r1, h1⟩ := q
    rw [hF] at ef
    have k1 := kk r1 h1 r' h' ef
    obtain ⟨m1, hM⟩ := hC r1 h1 hF
    have m1 := m1 p e R s m args below meth c
    refine ⟨⟨Nat.le_trans m1.1 k1.1.1, Nat.le_trans m1.2 k1.1.2⟩, fun X c1 c2 H locs ls n1 n2 e1 e2 w1 w2 w3 => W.hsz fun hu => ?_⟩
    refine run_go (hrun X r1 h1 H locs ls n1 n2 hM w1 (wk_of X w1 w2 e1 hu) w3.1 ⟨by have := k1.1.1; omega, by have := k1.1.2; omega⟩) w2 fun H1 locs1 g1 g2 => ?_
    have k2 := k1.2 X c1 c2 H1 locs1 ls (n1 + (hz h1 - hz h)) (n2 + (hs h1 - hs h)) (by omega) (by omega) g1 g2 w3
    rw [List.map_append] at k2
    have e3 : ((vo r1).toList).map (val B) = ((vo r1).map (val B)).toList := by cases vo r1 <;> rfl
    rw [e3] at k2
    exact k2
theorem j_cSI0 {y : MethodName} {b : ByteArray} {mL idx fr' lo' : Nat} {rt : Option FieldType} {F : Option (Int32 × Hp)} {g : Int32 → Hp → Option (α × Hp)} (hdg : decode cc pc = .ok (.invokestatic idx, 3)) (S : SL own idx y b mL rt 0) (S2 : Cond.static y ∈ GT) (hC : Ct l y b mL rt fr' lo' D dA B [] h vI F) (hfr : fr' + 1 ≤ fr) (hlo : 8 + (mL + 11) + lo' ≤ lo) (h8 : (st.map cat).sum ≤ 8) (kk : ∀ (x : Int32) (h1 : Hp), J p l e R s m args below meth c cc nL own fr lo ret nme D dA B n0 s0 Q (pc + 3) lv (vi x :: st) h1 (g x h1)) : J p l e R s m args below meth c cc nL own fr lo ret nme D dA B n0 s0 Q pc lv (st) h (cl F g) := by
  refine j_run hC (as := ([].map (val B)).toArray) (fun X r1 h1 H locs ls n1 n2 hM w1 wk w3 hf => va_runS (As := [].map (val B)) ⟨X.x, X.b, X.ml, X.own, X.ts⟩ hM ⟨sl_B X S hfr hlo, X.ts _ S2⟩ ⟨wk_blind, fun U hU hW => ⟨rfl, wk U hU hW⟩⟩ rfl rfl w3 rfl (rest_ok h8) hdg hf) kk
theorem j_cSL0 {y : MethodName} {b : ByteArray} {mL idx fr' lo' : Nat} {rt : Option FieldType} {F : Option (Int64 × Hp)} {g : Int64 → Hp → Option (α × Hp)} (hdg : decode cc pc = .ok (.invokestatic idx, 3)) (S : SL own idx y b mL rt 0) (S2 : Cond.static y ∈ GT) (hC : Ct l y b mL rt fr' lo' D dA B [] h vL F) (hfr : fr' + 1 ≤ fr) (hlo : 8 + (mL + 11) + lo' ≤ lo) (h8 : (st.map cat).sum ≤ 8) (kk : ∀ (x : Int64) (h1 : Hp), J p l e R s m args below meth c cc nL own fr lo ret nme D dA B n0 s0 Q (pc + 3) lv (vl x :: st) h1 (g x h1)) : J p l e R s m args below meth c cc nL own fr lo ret nme D dA B n0 s0 Q pc lv (st) h (cl F g) := by
  refine j_run hC (as := ([].map (val B)).toArray) (fun X r1 h1 H locs ls n1 n2 hM w1 wk w3 hf => va_runS (As := [].map (val B)) ⟨X.x, X.b, X.ml, X.own, X.ts⟩ hM ⟨sl_B X S hfr hlo, X.ts _ S2⟩ ⟨wk_blind, fun U hU hW => ⟨rfl, wk U hU hW⟩⟩ rfl rfl w3 rfl (rest_ok h8) hdg hf) kk
theorem j_cSR0 {y : MethodName} {b : ByteArray} {mL idx fr' lo' : Nat} {rt : Option FieldType} {F : Option (Option Nat × Hp)} {g : Option Nat → Hp → Option (α × Hp)} (hdg : decode cc pc = .ok (.invokestatic idx, 3)) (S : SL own idx y b mL rt 0) (S2 : Cond.static y ∈ GT) (hC : Ct l y b mL rt fr' lo' D dA B [] h vR F) (hfr : fr' + 1 ≤ fr) (hlo : 8 + (mL + 11) + lo' ≤ lo) (h8 : (st.map cat).sum ≤ 8) (kk : ∀ (x : Option Nat) (h1 : Hp), J p l e R s m args below meth c cc nL own fr lo ret nme D dA B n0 s0 Q (pc + 3) lv (vr x :: st) h1 (g x h1)) : J p l e R s m args below meth c cc nL own fr lo ret nme D dA B n0 s0 Q pc lv (st) h (cl F g) := by
  refine j_run hC (as := ([].map (val B)).toArray) (fun X r1 h1 H locs ls n1 n2 hM w1 wk w3 hf => va_runS (As := [].map (val B)) ⟨X.x, X.b, X.ml, X.own, X.ts⟩ hM ⟨sl_B X S hfr hlo, X.ts _ S2⟩ ⟨wk_blind, fun U hU hW => ⟨rfl, wk U hU hW⟩⟩ rfl rfl w3 rfl (rest_ok h8) hdg hf) kk
theorem j_cSU0 {y : MethodName} {b : ByteArray} {mL idx fr' lo' : Nat} {rt : Option FieldType} {F : Option (Unit × Hp)} {g : Unit → Hp → Option (α × Hp)} (hdg : decode cc pc = .ok (.invokestatic idx, 3)) (S : SL own idx y b mL rt 0) (S2 : Cond.static y ∈ GT) (hC : Ct l y b mL rt fr' lo' D dA B [] h vU F) (hfr : fr' + 1 ≤ fr) (hlo : 8 + (mL + 11) + lo' ≤ lo) (h8 : (st.map cat).sum ≤ 8) (kk : ∀ (x : Unit) (h1 : Hp), J p l e R s m args below meth c cc nL own fr lo ret nme D dA B n0 s0 Q (pc + 3) lv st h1 (g x h1)) : J p l e R s m args below meth c cc nL own fr lo ret nme D dA B n0 s0 Q pc lv (st) h (cl F g) := by
  refine j_run hC (as := ([].map (val B)).toArray) (fun X r1 h1 H locs ls n1 n2 hM w1 wk w3 hf => va_runS (As := [].map (val B)) ⟨X.x, X.b, X.ml, X.own, X.ts⟩ hM ⟨sl_B X S hfr hlo, X.ts _ S2⟩ ⟨wk_blind, fun U hU hW => ⟨rfl, wk U hU hW⟩⟩ rfl rfl w3 rfl (rest_ok h8) hdg hf) kk
theorem j_cSI1 {y : MethodName} {b : ByteArray} {mL idx fr' lo' : Nat} {rt : Option FieldType} {a1 : AV} {F : Option (Int32 × Hp)} {g : Int32 → Hp → Option (α × Hp)} (hdg : decode cc pc = .ok (.invokestatic idx, 3)) (S : SL own idx y b mL rt 1) (S2 : Cond.static y ∈ GT) (hC : Ct l y b mL rt fr' lo' D dA B [a1] h vI F) (hfr : fr' + 1 ≤ fr) (hlo : 8 + (mL + 11) + lo' ≤ lo) (h8 : (st.map cat).sum ≤ 8) (kk : ∀ (x : Int32) (h1 : Hp), J p l e R s m args below meth c cc nL own fr lo ret nme D dA B n0 s0 Q (pc + 3) lv (vi x :: st) h1 (g x h1)) : J p l e R s m args below meth c cc nL own fr lo ret nme D dA B n0 s0 Q pc lv (a1 :: st) h (cl F g) := by
  refine j_run hC (as := ([a1].map (val B)).toArray) (fun X r1 h1 H locs ls n1 n2 hM w1 wk w3 hf => va_runS (As := [a1].map (val B)) ⟨X.x, X.b, X.ml, X.own, X.ts⟩ hM ⟨sl_B X S hfr hlo, X.ts _ S2⟩ ⟨wk_blind, fun U hU hW => ⟨rfl, wk U hU hW⟩⟩ rfl rfl w3 rfl (rest_ok h8) hdg hf) kk
theorem j_cSL1 {y : MethodName} {b : ByteArray} {mL idx fr' lo' : Nat} {rt : Option FieldType} {a1 : AV} {F : Option (Int64 × Hp)} {g : Int64 → Hp → Option (α × Hp)} (hdg : decode cc pc = .ok (.invokestatic idx, 3)) (S : SL own idx y b mL rt 1) (S2 : Cond.static y ∈ GT) (hC : Ct l y b mL rt fr' lo' D dA B [a1] h vL F) (hfr : fr' + 1 ≤ fr) (hlo : 8 + (mL + 11) + lo' ≤ lo) (h8 : (st.map cat).sum ≤ 8) (kk : ∀ (x : Int64) (h1 : Hp), J p l e R s m args below meth c cc nL own fr lo ret nme D dA B n0 s0 Q (pc + 3) lv (vl x :: st) h1 (g x h1)) : J p l e R s m args below meth c cc nL own fr lo ret nme D dA B n0 s0 Q pc lv (a1 :: st) h (cl F g) := by
  refine j_run hC (as := ([a1].map (val B)).toArray) (fun X r1 h1 H locs ls n1 n2 hM w1 wk w3 hf => va_runS (As := [a1].map (val B)) ⟨X.x, X.b, X.ml, X.own, X.ts⟩ hM ⟨sl_B X S hfr hlo, X.ts _ S2⟩ ⟨wk_blind, fun U hU hW => ⟨rfl, wk U hU hW⟩⟩ rfl rfl w3 rfl (rest_ok h8) hdg hf) kk
theorem j_cSR1 {y : MethodName} {b : ByteArray} {mL idx fr' lo' : Nat} {rt : Option FieldType} {a1 : AV} {F : Option (Option Nat × Hp)} {g : Option Nat → Hp → Option (α × Hp)} (hdg : decode cc pc = .ok (.invokestatic idx, 3)) (S : SL own idx y b mL rt 1) (S2 : Cond.static y ∈ GT) (hC : Ct l y b mL rt fr' lo' D dA B [a1] h vR F) (hfr : fr' + 1 ≤ fr) (hlo : 8 + (mL + 11) + lo' ≤ lo) (h8 : (st.map cat).sum ≤ 8) (kk : ∀ (x : Option Nat) (h1 : Hp), J p l e R s m args below meth c cc nL own fr lo ret nme D dA B n0 s0 Q (pc + 3) lv (vr x :: st) h1 (g x h1)) : J p l e R s m args below meth c cc nL own fr lo ret nme D dA B n0 s0 Q pc lv (a1 :: st) h (cl F g) := by
  refine j_run hC (as := ([a1].map (val B)).toArray) (fun X r1 h1 H locs ls n1 n2 hM w1 wk w3 hf => va_runS (As := [a1].map (val B)) ⟨X.x, X.b, X.ml, X.own, X.ts⟩ hM ⟨sl_B X S hfr hlo, X.ts _ S2⟩ ⟨wk_blind, fun U hU hW => ⟨rfl, wk U hU hW⟩⟩ rfl rfl w3 rfl (rest_ok h8) hdg hf) kk
theorem j_cSU1 {y : MethodName} {b : ByteArray} {mL idx fr' lo' : Nat} {rt : Option FieldType} {a1 : AV} {F : Option (Unit × Hp)} {g : Unit → Hp → Option (α × Hp)} (hdg : decode cc pc = .ok (.invokestatic idx, 3)) (S : SL own idx y b mL rt 1) (S2 : Cond.static y ∈ GT) (hC : Ct l y b mL rt fr' lo' D dA B [a1] h vU F) (hfr : fr' + 1 ≤ fr) (hlo : 8 + (mL + 11) + lo' ≤ lo) (h8 : (st.map cat).sum ≤ 8) (kk : ∀ (x : Unit) (h1 : Hp), J p l e R s m args below meth c cc nL own fr lo ret nme D dA B n0 s0 Q (pc + 3) lv st h1 (g x h1)) : J p l e R s m args below meth c cc nL own fr lo ret nme D dA B n0 s0 Q pc lv (a1 :: st) h (cl F g) := by
  refine j_run hC (as := ([a1].map (val B)).toArray) (fun X r1 h1 H locs ls n1 n2 hM w1 wk w3 hf => va_runS (As := [a1].map (val B)) ⟨X.x, X.b, X.ml, X.own, X.ts⟩ hM ⟨sl_B X S hfr hlo, X.ts _ S2⟩ ⟨wk_blind, fun U hU hW => ⟨rfl, wk U hU hW⟩⟩ rfl rfl w3 rfl (rest_ok h8) hdg hf) kk
theorem j_cSI2 {y : MethodName} {b : ByteArray} {mL idx fr' lo' : Nat} {rt : Option FieldType} {a1 a2 : AV} {F : Option (Int32 × Hp)} {g : Int32 → Hp → Option (α × Hp)} (hdg : decode cc pc = .ok (.invokestatic idx, 3)) (S : SL own idx y b mL rt 2) (S2 : Cond.static y ∈ GT) (hC : Ct l y b mL rt fr' lo' D dA B [a1, a2] h vI F) (hfr : fr' + 1 ≤ fr) (hlo : 8 + (mL + 11) + lo' ≤ lo) (h8 : (st.map cat).sum ≤ 8) (kk : ∀ (x : Int32) (h1 : Hp), J p l e R s m args below meth c cc nL own fr lo ret nme D dA B n0 s0 Q (pc + 3) lv (vi x :: st) h1 (g x h1)) : J p l e R s m args below meth c cc nL own fr lo ret nme D dA B n0 s0 Q pc lv (a2 :: a1 :: st) h (cl F g) := by
  refine j_run hC (as := ([a1, a2].map (val B)).toArray) (fun X r1 h1 H locs ls n1 n2 hM w1 wk w3 hf => va_runS (As := [a1, a2].map (val B)) ⟨X.x, X.b, X.ml, X.own, X.ts⟩ hM ⟨sl_B X S hfr hlo, X.ts _ S2⟩ ⟨wk_blind, fun U hU hW => ⟨rfl, wk U hU hW⟩⟩ rfl rfl w3 rfl (rest_ok h8) hdg hf) kk
theorem j_cSL2 {y : MethodName} {b : ByteArray} {mL idx fr' lo' : Nat} {rt : Option FieldType} {a1 a2 : AV} {F : Option (Int64 × Hp)} {g : Int64 → Hp → Option (α × Hp)} (hdg : decode cc pc = .ok (.invokestatic idx, 3)) (S : SL own idx y b mL rt 2) (S2 : Cond.static y ∈ GT) (hC : Ct l y b mL rt fr' lo' D dA B [a1, a2] h vL F) (hfr : fr' + 1 ≤ fr) (hlo : 8 + (mL + 11) + lo' ≤ lo) (h8 : (st.map cat).sum ≤ 8) (kk : ∀ (x : Int64) (h1 : Hp), J p l e R s m args below meth c cc nL own fr lo ret nme D dA B n0 s0 Q (pc + 3) lv (vl x :: st) h1 (g x h1)) : J p l e R s m args below meth c cc nL own fr lo ret nme D dA B n0 s0 Q pc lv (a2 :: a1 :: st) h (cl F g) := by
  refine j_run hC (as := ([a1, a2].map (val B)).toArray) (fun X r1 h1 H locs ls n1 n2 hM w1 wk w3 hf => va_runS (As := [a1, a2].map (val B)) ⟨X.x, X.b, X.ml, X.own, X.ts⟩ hM ⟨sl_B X S hfr hlo, X.ts _ S2⟩ ⟨wk_blind, fun U hU hW => ⟨rfl, wk U hU hW⟩⟩ rfl rfl w3 rfl (rest_ok h8) hdg hf) kk
theorem j_cSR2 {y : MethodName} {b : ByteArray} {mL idx fr' lo' : Nat} {rt : Option FieldType} {a1 a2 : AV} {F : Option (Option Nat × Hp)} {g : Option Nat → Hp → Option (α × Hp)} (hdg : decode cc pc = .ok (.invokestatic idx, 3)) (S : SL own idx y b mL rt 2) (S2 : Cond.static y ∈ GT) (hC : Ct l y b mL rt fr' lo' D dA B [a1, a2] h vR F) (hfr : fr' + 1 ≤ fr) (hlo : 8 + (mL + 11) + lo' ≤ lo) (h8 : (st.map cat).sum ≤ 8) (kk : ∀ (x : Option Nat) (h1 : Hp), J p l e R s m args below meth c cc nL own fr lo ret nme D dA B n0 s0 Q (pc + 3) lv (vr x :: st) h1 (g x h1)) : J p l e R s m args below meth c cc nL own fr lo ret nme D dA B n0 s0 Q pc lv (a2 :: a1 :: st) h (cl F g) := by
  refine j_run hC (as := ([a1, a2].map (val B)).toArray) (fun X r1 h1 H locs ls n1 n2 hM w1 wk w3 hf => va_runS (As := [a1, a2].map (val B)) ⟨X.x, X.b, X.ml, X.own, X.ts⟩ hM ⟨sl_B X S hfr hlo, X.ts _ S2⟩ ⟨wk_blind, fun U hU hW => ⟨rfl, wk U hU hW⟩⟩ rfl rfl w3 rfl (rest_ok h8) hdg hf) kk
theorem j_cSU2 {y : MethodName} {b : ByteArray} {mL idx fr' lo' : Nat} {rt : Option FieldType} {a1 a2 : AV} {F : Option (Unit × Hp)} {g : Unit → Hp → Option (α × Hp)} (hdg : decode cc pc = .ok (.invokestatic idx, 3)) (S : SL own idx y b mL rt 2) (S2 : Cond.static y ∈ GT) (hC : Ct l y b mL rt fr' lo' D dA B [a1, a2] h vU F) (hfr : fr' + 1 ≤ fr) (hlo : 8 + (mL + 11) + lo' ≤ lo) (h8 : (st.map cat).sum ≤ 8) (kk : ∀ (x : Unit) (h1 : Hp), J p l e R s m args below meth c cc nL own fr lo ret nme D dA B n0 s0 Q (pc + 3) lv st h1 (g x h1)) : J p l e R s m args below meth c cc nL own fr lo ret nme D dA B n0 s0 Q pc lv (a2 :: a1 :: st) h (cl F g) := by
  refine j_run hC (as := ([a1, a2].map (val B)).toArray) (fun X r1 h1 H locs ls n1 n2 hM w1 wk w3 hf => va_runS (As := [a1, a2].map (val B)) ⟨X.x, X.b, X.ml, X.own, X.ts⟩ hM ⟨sl_B X S hfr hlo, X.ts _ S2⟩ ⟨wk_blind, fun U hU hW => ⟨rfl, wk U hU hW⟩⟩ rfl rfl w3 rfl (rest_ok h8) hdg hf) kk
theorem j_cSI3 {y : MethodName} {b : ByteArray} {mL idx fr' lo' : Nat} {rt : Option FieldType} {a1 a2 a3 : AV} {F : Option (Int32 × Hp)} {g : Int32 → Hp → Option (α × Hp)} (hdg : decode cc pc = .ok (.invokestatic idx, 3)) (S : SL own idx y b mL rt 3) (S2 : Cond.static y ∈ GT) (hC : Ct l y b mL rt fr' lo' D dA B [a1, a2, a3] h vI F) (hfr : fr' + 1 ≤ fr) (hlo : 8 + (mL + 11) + lo' ≤ lo) (h8 : (st.map cat).sum ≤ 8) (kk : ∀ (x : Int32) (h1 : Hp), J p l e R s m args below meth c cc nL own fr lo ret nme D dA B n0 s0 Q (pc + 3) lv (vi x :: st) h1 (g x h1)) : J p l e R s m args below meth c cc nL own fr lo ret nme D dA B n0 s0 Q pc lv (a3 :: a2 :: a1 :: st) h (cl F g) := by
  refine j_run hC (as := ([a1, a2, a3].map (val B)).toArray) (fun X r1 h1 H locs ls n1 n2 hM w1 wk w3 hf => va_runS (As := [a1, a2, a3].map (val B)) ⟨X.x, X.b, X.ml, X.own, X.ts⟩ hM ⟨sl_B X S hfr hlo, X.ts _ S2⟩ ⟨wk_blind, fun U hU hW => ⟨rfl, wk U hU hW⟩⟩ rfl rfl w3 rfl (rest_ok h8) hdg hf) kk
theorem j_cSL3 {y : MethodName} {b : ByteArray} {mL idx fr' lo' : Nat} {rt : Option FieldType} {a1 a2 a3 : AV} {F : Option (Int64 × Hp)} {g : Int64 → Hp → Option (α × Hp)} (hdg : decode cc pc = .ok (.invokestatic idx, 3)) (S : SL own idx y b mL rt 3) (S2 : Cond.static y ∈ GT) (hC : Ct l y b mL rt fr' lo' D dA B [a1, a2, a3] h vL F) (hfr : fr' + 1 ≤ fr) (hlo : 8 + (mL + 11) + lo' ≤ lo) (h8 : (st.map cat).sum ≤ 8) (kk : ∀ (x : Int64) (h1 : Hp), J p l e R s m args below meth c cc nL own fr lo ret nme D dA B n0 s0 Q (pc + 3) lv (vl x :: st) h1 (g x h1)) : J p l e R s m args below meth c cc nL own fr lo ret nme D dA B n0 s0 Q pc lv (a3 :: a2 :: a1 :: st) h (cl F g) := by
  refine j_run hC (as := ([a1, a2, a3].map (val B)).toArray) (fun X r1 h1 H locs ls n1 n2 hM w1 wk w3 hf => va_runS (As := [a1, a2, a3].map (val B)) ⟨X.x, X.b, X.ml, X.own, X.ts⟩ hM ⟨sl_B X S hfr hlo, X.ts _ S2⟩ ⟨wk_blind, fun U hU hW => ⟨rfl, wk U hU hW⟩⟩ rfl rfl w3 rfl (rest_ok h8) hdg hf) kk
theorem j_cSR3 {y : MethodName} {b : ByteArray} {mL idx fr' lo' : Nat} {rt : Option FieldType} {a1 a2 a3 : AV} {F : Option (Option Nat × Hp)} {g : Option Nat → Hp → Option (α × Hp)} (hdg : decode cc pc = .ok (.invokestatic idx, 3)) (S : SL own idx y b mL rt 3) (S2 : Cond.static y ∈ GT) (hC : Ct l y b mL rt fr' lo' D dA B [a1, a2, a3] h vR F) (hfr : fr' + 1 ≤ fr) (hlo : 8 + (mL + 11) + lo' ≤ lo) (h8 : (st.map cat).sum ≤ 8) (kk : ∀ (x : Option Nat) (h1 : Hp), J p l e R s m args below meth c cc nL own fr lo ret nme D dA B n0 s0 Q (pc + 3) lv (vr x :: st) h1 (g x h1)) : J p l e R s m args below meth c cc nL own fr lo ret nme D dA B n0 s0 Q pc lv (a3 :: a2 :: a1 :: st) h (cl F g) := by
  refine j_run hC (as := ([a1, a2, a3].map (val B)).toArray) (fun X r1 h1 H locs ls n1 n2 hM w1 wk w3 hf => va_runS (As := [a1, a2, a3].map (val B)) ⟨X.x, X.b, X.ml, X.own, X.ts⟩ hM ⟨sl_B X S hfr hlo, X.ts _ S2⟩ ⟨wk_blind, fun U hU hW => ⟨rfl, wk U hU hW⟩⟩ rfl rfl w3 rfl (rest_ok h8) hdg hf) kk
theorem j_cSU3 {y : MethodName} {b : ByteArray} {mL idx fr' lo' : Nat} {rt : Option FieldType} {a1 a2 a3 : AV} {F : Option (Unit × Hp)} {g : Unit → Hp → Option (α × Hp)} (hdg : decode cc pc = .ok (.invokestatic idx, 3)) (S : SL own idx y b mL rt 3) (S2 : Cond.static y ∈ GT) (hC : Ct l y b mL rt fr' lo' D dA B [a1, a2, a3] h vU F) (hfr : fr' + 1 ≤ fr) (hlo : 8 + (mL + 11) + lo' ≤ lo) (h8 : (st.map cat).sum ≤ 8) (kk : ∀ (x : Unit) (h1 : Hp), J p l e R s m args below meth c cc nL own fr lo ret nme D dA B n0 s0 Q (pc + 3) lv st h1 (g x h1)) : J p l e R s m args below meth c cc nL own fr lo ret nme D dA B n0 s0 Q pc lv (a3 :: a2 :: a1 :: st) h (cl F g) := by
  refine j_run hC (as := ([a1, a2, a3].map (val B)).toArray) (fun X r1 h1 H locs ls n1 n2 hM w1 wk w3 hf => va_runS (As := [a1, a2, a3].map (val B)) ⟨X.x, X.b, X.ml, X.own, X.ts⟩ hM ⟨sl_B X S hfr hlo, X.ts _ S2⟩ ⟨wk_blind, fun U hU hW => ⟨rfl, wk U hU hW⟩⟩ rfl rfl w3 rfl (rest_ok h8) hdg hf) kk
theorem j_cSI4 {y : MethodName} {b : ByteArray} {mL idx fr' lo' : Nat} {rt : Option FieldType} {a1 a2 a3 a4 : AV} {F : Option (Int32 × Hp)} {g : Int32 → Hp → Option (α × Hp)} (hdg : decode cc pc = .ok (.invokestatic idx, 3)) (S : SL own idx y b mL rt 4) (S2 : Cond.static y ∈ GT) (hC : Ct l y b mL rt fr' lo' D dA B [a1, a2, a3, a4] h vI F) (hfr : fr' + 1 ≤ fr) (hlo : 8 + (mL + 11) + lo' ≤ lo) (h8 : (st.map cat).sum ≤ 8) (kk : ∀ (x : Int32) (h1 : Hp), J p l e R s m args below meth c cc nL own fr lo ret nme D dA B n0 s0 Q (pc + 3) lv (vi x :: st) h1 (g x h1)) : J p l e R s m args below meth c cc nL own fr lo ret nme D dA B n0 s0 Q pc lv (a4 :: a3 :: a2 :: a1 :: st) h (cl F g) := by
  refine j_run hC (as := ([a1, a2, a3, a4].map (val B)).toArray) (fun X r1 h1 H locs ls n1 n2 hM w1 wk w3 hf => va_runS (As := [a1, a2, a3, a4].map (val B)) ⟨X.x, X.b, X.ml, X.own, X.ts⟩ hM ⟨sl_B X S hfr hlo, X.ts _ S2⟩ ⟨wk_blind, fun U hU hW => ⟨rfl, wk U hU hW⟩⟩ rfl rfl w3 rfl (rest_ok h8) hdg hf) kk
theorem j_cSL4 {y : MethodName} {b : ByteArray} {mL idx fr' lo' : Nat} {rt : Option FieldType} {a1 a2 a3 a4 : AV} {F : Option (Int64 × Hp)} {g : Int64 → Hp → Option (α × Hp)} (hdg : decode cc pc = .ok (.invokestatic idx, 3)) (S : SL own idx y b mL rt 4) (S2 : Cond.static y ∈ GT) (hC : Ct l y b mL rt fr' lo' D dA B [a1, a2, a3, a4] h vL F) (hfr : fr' + 1 ≤ fr) (hlo : 8 + (mL + 11) + lo' ≤ lo) (h8 : (st.map cat).sum ≤ 8) (kk : ∀ (x : Int64) (h1 : Hp), J p l e R s m args below meth c cc nL own fr lo ret nme D dA B n0 s0 Q (pc + 3) lv (vl x :: st) h1 (g x h1)) : J p l e R s m args below meth c cc nL own fr lo ret nme D dA B n0 s0 Q pc lv (a4 :: a3 :: a2 :: a1 :: st) h (cl F g) := by
  refine j_run hC (as := ([a1, a2, a3, a4].map (val B)).toArray) (fun X r1 h1 H locs ls n1 n2 hM w1 wk w3 hf => va_runS (As := [a1, a2, a3, a4].map (val B)) ⟨X.x, X.b, X.ml, X.own, X.ts⟩ hM ⟨sl_B X S hfr hlo, X.ts _ S2⟩ ⟨wk_blind, fun U hU hW => ⟨rfl, wk U hU hW⟩⟩ rfl rfl w3 rfl (rest_ok h8) hdg hf) kk
theorem j_cSR4 {y : MethodName} {b : ByteArray} {mL idx fr' lo' : Nat} {rt : Option FieldType} {a1 a2 a3 a4 : AV} {F : Option (Option Nat × Hp)} {g : Option Nat → Hp → Option (α × Hp)} (hdg : decode cc pc = .ok (.invokestatic idx, 3)) (S : SL own idx y b mL rt 4) (S2 : Cond.static y ∈ GT) (hC : Ct l y b mL rt fr' lo' D dA B [a1, a2, a3, a4] h vR F) (hfr : fr' + 1 ≤ fr) (hlo : 8 + (mL + 11) + lo' ≤ lo) (h8 : (st.map cat).sum ≤ 8) (kk : ∀ (x : Option Nat) (h1 : Hp), J p l e R s m args below meth c cc nL own fr lo ret nme D dA B n0 s0 Q (pc + 3) lv (vr x :: st) h1 (g x h1)) : J p l e R s m args below meth c cc nL own fr lo ret nme D dA B n0 s0 Q pc lv (a4 :: a3 :: a2 :: a1 :: st) h (cl F g) := by
  refine j_run hC (as := ([a1, a2, a3, a4].map (val B)).toArray) (fun X r1 h1 H locs ls n1 n2 hM w1 wk w3 hf => va_runS (As := [a1, a2, a3, a4].map (val B)) ⟨X.x, X.b, X.ml, X.own, X.ts⟩ hM ⟨sl_B X S hfr hlo, X.ts _ S2⟩ ⟨wk_blind, fun U hU hW => ⟨rfl, wk U hU hW⟩⟩ rfl rfl w3 rfl (rest_ok h8) hdg hf) kk
theorem j_cSU4 {y : MethodName} {b : ByteArray} {mL idx fr' lo' : Nat} {rt : Option FieldType} {a1 a2 a3 a4 : AV} {F : Option (Unit × Hp)} {g : Unit → Hp → Option (α × Hp)} (hdg : decode cc pc = .ok (.invokestatic idx, 3)) (S : SL own idx y b mL rt 4) (S2 : Cond.static y ∈ GT) (hC : Ct l y b mL rt fr' lo' D dA B [a1, a2, a3, a4] h vU F) (hfr : fr' + 1 ≤ fr) (hlo : 8 + (mL + 11) + lo' ≤ lo) (h8 : (st.map cat).sum ≤ 8) (kk : ∀ (x : Unit) (h1 : Hp), J p l e R s m args below meth c cc nL own fr lo ret nme D dA B n0 s0 Q (pc + 3) lv st h1 (g x h1)) : J p l e R s m args below meth c cc nL own fr lo ret nme D dA B n0 s0 Q pc lv (a4 :: a3 :: a2 :: a1 :: st) h (cl F g) := by
  refine j_run hC (as := ([a1, a2, a3, a4].map (val B)).toArray) (fun X r1 h1 H locs ls n1 n2 hM w1 wk w3 hf => va_runS (As := [a1, a2, a3, a4].map (val B)) ⟨X.x, X.b, X.ml, X.own, X.ts⟩ hM ⟨sl_B X S hfr hlo, X.ts _ S2⟩ ⟨wk_blind, fun U hU hW => ⟨rfl, wk U hU hW⟩⟩ rfl rfl w3 rfl (rest_ok h8) hdg hf) kk
theorem j_cSI5 {y : MethodName} {b : ByteArray} {mL idx fr' lo' : Nat} {rt : Option FieldType} {a1 a2 a3 a4 a5 : AV} {F : Option (Int32 × Hp)} {g : Int32 → Hp → Option (α × Hp)} (hdg : decode cc pc = .ok (.invokestatic idx, 3)) (S : SL own idx y b mL rt 5) (S2 : Cond.static y ∈ GT) (hC : Ct l y b mL rt fr' lo' D dA B [a1, a2, a3, a4, a5] h vI F) (hfr : fr' + 1 ≤ fr) (hlo : 8 + (mL + 11) + lo' ≤ lo) (h8 : (st.map cat).sum ≤ 8) (kk : ∀ (x : Int32) (h1 : Hp), J p l e R s m args below meth c cc nL own fr lo ret nme D dA B n0 s0 Q (pc + 3) lv (vi x :: st) h1 (g x h1)) : J p l e R s m args below meth c cc nL own fr lo ret nme D dA B n0 s0 Q pc lv (a5 :: a4 :: a3 :: a2 :: a1 :: st) h (cl F g) := by
  refine j_run hC (as := ([a1, a2, a3, a4, a5].map (val B)).toArray) (fun X r1 h1 H locs ls n1 n2 hM w1 wk w3 hf => va_runS (As := [a1, a2, a3, a4, a5].map (val B)) ⟨X.x, X.b, X.ml, X.own, X.ts⟩ hM ⟨sl_B X S hfr hlo, X.ts _ S2⟩ ⟨wk_blind, fun U hU hW => ⟨rfl, wk U hU hW⟩⟩ rfl rfl w3 rfl (rest_ok h8) hdg hf) kk
theorem j_cSL5 {y : MethodName} {b : ByteArray} {mL idx fr' lo' : Nat} {rt : Option FieldType} {a1 a2 a3 a4 a5 : AV} {F : Option (Int64 × Hp)} {g : Int64 → Hp → Option (α × Hp)} (hdg : decode cc pc = .ok (.invokestatic idx, 3)) (S : SL own idx y b mL rt 5) (S2 : Cond.static y ∈ GT) (hC : Ct l y b mL rt fr' lo' D dA B [a1, a2, a3, a4, a5] h vL F) (hfr : fr' + 1 ≤ fr) (hlo : 8 + (mL + 11) + lo' ≤ lo) (h8 : (st.map cat).sum ≤ 8) (kk : ∀ (x : Int64) (h1 : Hp), J p l e R s m args below meth c cc nL own fr lo ret nme D dA B n0 s0 Q (pc + 3) lv (vl x :: st) h1 (g x h1)) : J p l e R s m args below meth c cc nL own fr lo ret nme D dA B n0 s0 Q pc lv (a5 :: a4 :: a3 :: a2 :: a1 :: st) h (cl F g) := by
  refine j_run hC (as := ([a1, a2, a3, a4, a5].map (val B)).toArray) (fun X r1 h1 H locs ls n1 n2 hM w1 wk w3 hf => va_runS (As := [a1, a2, a3, a4, a5].map (val B)) ⟨X.x, X.b, X.ml, X.own, X.ts⟩ hM ⟨sl_B X S hfr hlo, X.ts _ S2⟩ ⟨wk_blind, fun U hU hW => ⟨rfl, wk U hU hW⟩⟩ rfl rfl w3 rfl (rest_ok h8) hdg hf) kk
theorem j_cSR5 {y : MethodName} {b : ByteArray} {mL idx fr' lo' : Nat} {rt : Option FieldType} {a1 a2 a3 a4 a5 : AV} {F : Option (Option Nat × Hp)} {g : Option Nat → Hp → Option (α × Hp)} (hdg : decode cc pc = .ok (.invokestatic idx, 3)) (S : SL own idx y b mL rt 5) (S2 : Cond.static y ∈ GT) (hC : Ct l y b mL rt fr' lo' D dA B [a1, a2, a3, a4, a5] h vR F) (hfr : fr' + 1 ≤ fr) (hlo : 8 + (mL + 11) + lo' ≤ lo) (h8 : (st.map cat).sum ≤ 8) (kk : ∀ (x : Option Nat) (h1 : Hp), J p l e R s m args below meth c cc nL own fr lo ret nme D dA B n0 s0 Q (pc + 3) lv (vr x :: st) h1 (g x h1)) : J p l e R s m args below meth c cc nL own fr lo ret nme D dA B n0 s0 Q pc lv (a5 :: a4 :: a3 :: a2 :: a1 :: st) h (cl F g) := by
  refine j_run hC (as := ([a1, a2, a3, a4, a5].map (val B)).toArray) (fun X r1 h1 H locs ls n1 n2 hM w1 wk w3 hf => va_runS (As := [a1, a2, a3, a4, a5].map (val B)) ⟨X.x, X.b, X.ml, X.own, X.ts⟩ hM ⟨sl_B X S hfr hlo, X.ts _ S2⟩ ⟨wk_blind, fun U hU hW => ⟨rfl, wk U hU hW⟩⟩ rfl rfl w3 rfl (rest_ok h8) hdg hf) kk
theorem j_cSU5 {y : MethodName} {b : ByteArray} {mL idx fr' lo' : Nat} {rt : Option FieldType} {a1 a2 a3 a4 a5 : AV} {F : Option (Unit × Hp)} {g : Unit → Hp → Option (α × Hp)} (hdg : decode cc pc = .ok (.invokestatic idx, 3)) (S : SL own idx y b mL rt 5) (S2 : Cond.static y ∈ GT) (hC : Ct l y b mL rt fr' lo' D dA B [a1, a2, a3, a4, a5] h vU F) (hfr : fr' + 1 ≤ fr) (hlo : 8 + (mL + 11) + lo' ≤ lo) (h8 : (st.map cat).sum ≤ 8) (kk : ∀ (x : Unit) (h1 : Hp), J p l e R s m args below meth c cc nL own fr lo ret nme D dA B n0 s0 Q (pc + 3) lv st h1 (g x h1)) : J p l e R s m args below meth c cc nL own fr lo ret nme D dA B n0 s0 Q pc lv (a5 :: a4 :: a3 :: a2 :: a1 :: st) h (cl F g) := by
  refine j_run hC (as := ([a1, a2, a3, a4, a5].map (val B)).toArray) (fun X r1 h1 H locs ls n1 n2 hM w1 wk w3 hf => va_runS (As := [a1, a2, a3, a4, a5].map (val B)) ⟨X.x, X.b, X.ml, X.own, X.ts⟩ hM ⟨sl_B X S hfr hlo, X.ts _ S2⟩ ⟨wk_blind, fun U hU hW => ⟨rfl, wk U hU hW⟩⟩ rfl rfl w3 rfl (rest_ok h8) hdg hf) kk
end RC
end
section
/-- the receiver's kind is looked at -/
def ck {β : Type} (ts : List Nat) (r : Option Nat) (h : Hp) (f : Option β) : Option β := match r with
  | none => none
  | some a => if ok h ts a = true then f else none
def dl {β : Type} : List (Nat × Option β) → Nat → Option β
  | [], _ => none
  | q :: r, k => if k = q.1 then q.2 else dl r k
/-- which program it is, by the receiver's kind -/
def ds {β : Type} (cs : List (Nat × Option β)) (r : Option Nat) (h : Hp) : Option β := match r with
  | none => none
  | some a => if a < hz h then dl cs (hK h a).1 else none
def kn {β : Type} (r : Option Nat) (f : Option β) : Option β := match r with
  | none => none
  | some _ => f
def sw {β : Type} (x : Int32) : List (Int32 × Option β) → Option β → Option β
  | [], d => d
  | q :: r, d => if x = q.1 then q.2 else sw x r d
def swt (x : Int32) : List (Int32 × Nat) → Nat → Nat
  | [], d => d
  | q :: r, d => if x = q.1 then q.2 else swt x r d
def allQ {α : Type} (P : α → Prop) : List α → Prop
  | [] => True
  | q :: r => P q ∧ allQ P r
theorem allQ.nil {α : Type} {P : α → Prop} : allQ P [] := trivial
theorem allQ.cons {α : Type} {P : α → Prop} {q : α} {r : List α} (hq : P q) (hr : allQ P r) : allQ P (q :: r) := ⟨hq, hr⟩
theorem allQ_mem {α : Type} {P : α → Prop} : ∀ {l : List α}, allQ P l → ∀ q ∈ l, P q := by
  intro l
  induction l with
  | nil => intro _ q hq; cases hq
  | cons a r ih =>
    intro h q hq
    rcases List.mem_cons.mp hq with rfl | hq
    · exact h.1
    · exact ih h.2 q hq
theorem dl_mem {β : Type} : ∀ {cs : List (Nat × Option β)} {k : Nat}, dl cs k ≠ none → ∃ f, (k, f) ∈ cs ∧ dl cs k = f := by
  intro cs
  induction cs with
  | nil => intro k h; exact absurd rfl h
  | cons a r ih =>
    intro k h
    unfold dl at h ⊢
    by_cases e : k = a.1
    · rw [if_pos e] at h ⊢
      exact ⟨a.2, List.mem_cons.mpr (Or.inl (by rw [e])), rfl⟩
    · rw [if_neg e] at h ⊢
      obtain ⟨f, h1, h2⟩ := ih h
      exact ⟨f, List.mem_cons_of_mem _ h1, h2⟩
section RI
variable {α : Type} {p : Program} {l : Launch} {e : Env} {R : Room} {s : State} {m : MethodId} {args : Array Value} {below : List Frame} {meth : Method} {c : Code} {cc : ByteArray} {nL : Nat} {own : String} {fr lo : Nat} {ret : Option FieldType} {nme : String} {D : va_G} {dA : Nat → ClassId} {B n0 s0 : Nat} {Q : α → Hp → State → Prop} {pc : Nat} {lv : List (Nat × AV)} {st : List AV} {h : Hp} {f : Option (α × Hp)}
theorem sel_priv {y : MethodName} {C : String} {n n' : Nat} (hy : y.cls ≠ "java/lang/invoke/MethodHandle" ∧ y.cls ≠ "java/lang/invoke/VarHandle") (hC : (Cond.instantiable C n).before args s = true) (hins : (Cond.instantiable y.cls n').before args s = true) (hpriv : (Cond.privateMethod y).before args s = true) (hinst : (Cond.instanceMethod y).before args s = true) : (Cond.selects C y y).before args s = true := by
  obtain ⟨c1, k1, hc1, -, -, -, -, -⟩ := Cond.instantiable_spec hC
  obtain ⟨c2, k2, hc2, hk2, -, hn2, -, -⟩ := Cond.instantiable_spec hins
  obtain ⟨mk, mm, hnamed, hmm, -, -⟩ := Cond.instanceMethod_spec hinst
  have hfound : s.methodFound? y.cls y.name y.desc = some mk := State.methodFound?_of_named hnamed hy
  have hcls : mk.cls = c2 := Option.some.inj ((findClass_of_methodNamed hnamed).symm.trans hc2)
  have hsel : selectMethod {} s.vm c1 mk = .method mk := selectMethod_private hmm (Cond.privateMethod_at hpriv mk mm hnamed hmm)
  have hni : k2.isInterface = false := (Bool.or_eq_false_iff.mp hn2).1
  simp only [Cond.before, Cond.holds, Cond.value, hc1, hfound, hnamed, hsel, hcls, hk2]
  simp; exact hni
/-- a virtual call's words, for a receiver of kind t: the entry names x, the code is y's -/
def VT (own : String) (idx n t : Nat) (x y : MethodName) (b : ByteArray) (mL : Nat) (rt : Option FieldType) : Prop := ∃ r : vw_C, kCL[t]? = some r ∧
  ((x = y ∧ SL own idx y b mL rt n ∧ Cond.instanceMethod y ∈ GT ∧ (Cond.selects r.1 y y ∈ GT ∨ (Cond.privateMethod y ∈ GT ∧ ∃ n', Cond.instantiable y.cls n' ∈ GT))) ∨
   (∃ owner : String, Cond.code y b mL rt ∈ GT ∧ Cond.initialized y.cls ∈ GT ∧ (owner ≠ "java/lang/invoke/MethodHandle" ∧ owner ≠ "java/lang/invoke/VarHandle") ∧ (parseMethodDescriptor x.desc).map (fun d => d.parameters.length) = some n ∧ Cond.methodLink own idx x ∈ GT ∧ Cond.sameMethod x.cls owner x.name x.desc ∈ GT ∧ Cond.declares ⟨owner, x.name, x.desc⟩ ∈ lw_tbl ∧ Cond.selects r.1 x y ∈ GT ∧ Cond.instanceMethod y ∈ GT))
theorem vt_run {y x : MethodName} {b : ByteArray} {mL idx fr' lo' n t a0 cs sl' : Nat} {rt : Option FieldType} {as : List AV} {Qc : Array Value → State → Outcome → State → Prop} {H : Heap} {locs : List Loc} {ls : Array Slot} {cells slots : Nat} (X : Cx p R s m args meth c cc nL own fr lo ret nme D dA B n0) (V : VT own idx n t x y b mL rt) (hfr : fr' + 1 ≤ fr) (hlo : 8 + (mL + 11) + lo' ≤ lo) (hdg : decode cc pc = .ok (.invokevirtual idx, 3)) (ha : a0 < hz h) (ht : (hK h a0).1 = t) (hn : as.length = n)
    (hM : Met l y (Cond.code y b mL rt :: GT) (rmo fr' lo' cs sl') (va_Pc ((vr (some a0) :: as).map (val B)) (Wk D dA B h)) Qc cs sl' (fun q => B ≤ q)) (w1 : va_P D kCL (wl B dA h) H) (wk : ∀ U : State, U.heap = H → s.WarmedH U.vm → Wk D dA B h U) (w3 : ls.size = nL) (h8 : (st.map cat).sum ≤ 8) (hf : cells + cs ≤ R.cells ∧ slots + sl' ≤ R.slots) :
    va_Run p l e R s m args below meth c H locs cells slots cs sl' (F0 m pc ls ((as.map (val B)).reverse ++ .ref (B + a0) :: st.map (val B))) (st.map (val B)) (Qc ((vr (some a0) :: as).map (val B)).toArray) (fun q => B ≤ q) := by
  obtain ⟨r, hr, V⟩ := V
  have hrec := recv_at (B := B) (dA := dA) X.k.1 w1 ha ht hr
  rcases V with ⟨rfl, S, S2, S3⟩ | ⟨owner, S1, S2, S3, S4, S5, S6, S7, S8, S9⟩
  · have hsel : (Cond.selects r.1 x x).before args s = true := by
      rcases S3 with S3 | ⟨S3, n', S4⟩
      · exact X.ts _ S3
      · exact sel_priv ⟨S.2.2.2.1, S.2.2.2.2.1⟩ (X.ts _ (k_inst _ _ hr).1) (X.ts _ S4) (X.ts _ S3) (X.ts _ S2)
    exact va_runV (C := r.1) (b := B + a0) (As := as.map (val B)) ⟨X.x, X.b, X.ml, X.own, X.ts⟩ hM ⟨sl_B X S hfr hlo, X.ts _ S2, hsel⟩ ⟨wk_blind, hrec, fun U hU hW => ⟨rfl, wk U hU hW⟩⟩ rfl (by rw [List.length_map]; exact hn) w3 rfl (rest_ok h8) hdg hf
  · have cu : va_CU R s args own r.1 owner idx x y b mL rt (Cond.code y b mL rt :: GT) (rmo fr' lo' cs sl') cs sl' n := by
      refine ⟨⟨rfl, rfl, by rw [X.fr]; exact hfr, by rw [X.lo]; exact hlo, pay_in X.ts (good_ws S1), List.mem_cons_self⟩, X.ts _ S1, X.ts _ S2, S3, fun sig h => ?_, X.ts _ S5, X.ts _ S6, va_Decl.abs (X.k.2.2.2.2 _ S7 rfl), X.ts _ S8, X.ts _ S9⟩
      rw [h] at S4
      exact (Option.some.inj S4).symm
    exact va_runU (C := r.1) (b := B + a0) (As := as.map (val B)) ⟨X.x, X.b, X.ml, X.own, X.ts⟩ hM cu ⟨wk_blind, hrec, fun U hU hW => ⟨rfl, wk U hU hW⟩⟩ rfl (by rw [List.length_map]; exact hn) w3 rfl (rest_ok h8) hdg hf
/-- one kind's share of a virtual call -/
def VD {β : Type} (l : Launch) (own : String) (idx n fr lo : Nat) (D : va_G) (dA : Nat → ClassId) (B : Nat) (x : MethodName) (av : List AV) (h : Hp) (vo : β → Option AV) (q : Nat × Option (β × Hp)) : Prop := ∃ (y : MethodName) (b : ByteArray) (mL : Nat) (rt : Option FieldType) (fr' lo' : Nat), VT own idx n q.1 x y b mL rt ∧ Ct l y b mL rt fr' lo' D dA B av h vo q.2 ∧ fr' + 1 ≤ fr ∧ 8 + (mL + 11) + lo' ≤ lo
theorem VD.mk {β : Type} {x y : MethodName} {b : ByteArray} {idx n t mL fr' lo' : Nat} {rt : Option FieldType} {av : List AV} {vo : β → Option AV} {F : Option (β × Hp)} (V : VT own idx n t x y b mL rt) (C : Ct l y b mL rt fr' lo' D dA B av h vo F) (c1 : fr' + 1 ≤ fr) (c2 : 8 + (mL + 11) + lo' ≤ lo) : VD l own idx n fr lo D dA B x av h vo (t, F) := ⟨y, b, mL, rt, fr', lo', V, C, c1, c2⟩
theorem j_none {β : Type} {g : β → Hp → Option (α × Hp)} : J p l e R s m args below meth c cc nL own fr lo ret nme D dA B n0 s0 Q pc lv st h (cl none g) := fun _ _ ef => by cases ef
theorem j_ds {β : Type} {x : MethodName} {idx n : Nat} {as : List AV} {r0 : Option Nat} {vo : β → Option AV} {cs : List (Nat × Option (β × Hp))} {g : β → Hp → Option (α × Hp)} {st0 : List AV} (hdg : decode cc pc = .ok (.invokevirtual idx, 3)) (hall : allQ (VD l own idx n fr lo D dA B x (vr r0 :: as) h vo) cs) (hn : as.length = n) (h8 : (st.map cat).sum ≤ 8) (hst : st0 = as.reverse ++ vr r0 :: st) (kk : ∀ r1 h1, J p l e R s m args below meth c cc nL own fr lo ret nme D dA B n0 s0 Q (pc + 3) lv ((vo r1).toList ++ st) h1 (g r1 h1)) : J p l e R s m args below meth c cc nL own fr lo ret nme D dA B n0 s0 Q pc lv st0 h (cl (ds cs r0 h) g) := by
  cases r0 with
  | none => exact j_none
  | some a0 =>
    by_cases ha : a0 < hz h
    · have e0 : ds cs (some a0) h = dl cs (hK h a0).1 := by show (if a0 < hz h then _ else _) = _; rw [if_pos ha]
      rw [e0]
      by_cases hd : dl cs (hK h a0).1 = none
      · rw [hd]; exact j_none
      · obtain ⟨f1, h1, h2⟩ := dl_mem hd
        rw [h2]
        obtain ⟨y, b, mL, rt, fr', lo', V, C, c1, c2⟩ := allQ_mem hall _ h1
        refine j_run C (as := ((vr (some a0) :: as).map (val B)).toArray) (fun X r1 h1 H locs ls n1 n2 hM w1 wk w3 hf => ?_) kk
        rw [hst, List.map_append, List.map_reverse]
        exact vt_run X V c1 c2 hdg ha rfl hn hM w1 wk w3 h8 hf
    · have e0 : ds cs (some a0) h = none := by show (if a0 < hz h then _ else _) = _; rw [if_neg ha]
      rw [e0]; exact j_none
theorem j_ini {x : MethodName} {b : ByteArray} {idx n mL fr' lo' : Nat} {ts : List Nat} {as : List AV} {r0 : Option Nat} {F : Option (Unit × Hp)} {g : Unit → Hp → Option (α × Hp)} {st0 : List AV} (hdg : decode cc pc = .ok (.invokespecial idx, 3)) (S : SL own idx x b mL none n) (S2 : x.name = "<init>" ∧ Cond.instanceMethod x ∈ GT) (hC : Ct l x b mL none fr' lo' D dA B (vr r0 :: as) h vU F) (hfr : fr' + 1 ≤ fr) (hlo : 8 + (mL + 11) + lo' ≤ lo) (hn : as.length = n) (h8 : (st.map cat).sum ≤ 8) (hst : st0 = as.reverse ++ vr r0 :: st) (kk : ∀ r1 h1, J p l e R s m args below meth c cc nL own fr lo ret nme D dA B n0 s0 Q (pc + 3) lv st h1 (g r1 h1)) : J p l e R s m args below meth c cc nL own fr lo ret nme D dA B n0 s0 Q pc lv st0 h (cl (ck ts r0 h F) g) := by
  cases r0 with
  | none => exact j_none
  | some a0 =>
    by_cases ha : ok h ts a0 = true
    · have e0 : ck ts (some a0) h F = F := by show (if ok h ts a0 = true then _ else _) = _; rw [if_pos ha]
      rw [e0]
      refine j_run hC (as := ((vr (some a0) :: as).map (val B)).toArray) (fun X r1 h1 H locs ls n1 n2 hM w1 wk w3 hf => ?_) kk
      rw [hst, List.map_append, List.map_reverse]
      exact va_runI (b := B + a0) (As := as.map (val B)) ⟨X.x, X.b, X.ml, X.own, X.ts⟩ hM ⟨sl_B X S hfr hlo, S2.1, X.ts _ S2.2⟩ ⟨wk_blind, fun U hU hW => ⟨rfl, wk U hU hW⟩⟩ rfl (by rw [List.length_map]; exact hn) w3 rfl (rest_ok h8) hdg hf
    · have e0 : ck ts (some a0) h F = none := by show (if ok h ts a0 = true then _ else _) = _; rw [if_neg ha]
      rw [e0]; exact j_none
/-- a call of the class above -/
theorem j_sup {β : Type} {vo : β → Option AV} {x : MethodName} {b : ByteArray} {idx n mL fr' lo' : Nat} {rt : Option FieldType} {ts : List Nat} {as : List AV} {r0 : Option Nat} {F : Option (β × Hp)} {g : β → Hp → Option (α × Hp)} {st0 : List AV} (hdg : decode cc pc = .ok (.invokespecial idx, 3)) (S : SL own idx x b mL rt n) (S2 : (Cond.sameMethod x.cls x.cls x.name x.desc ∈ GT ∧ Cond.superclass own x.cls ∈ GT) ∧ x.name ≠ "<init>" ∧ Cond.instanceMethod x ∈ GT) (hts : ∀ t ∈ ts, t < 13) (hC : Ct l x b mL rt fr' lo' D dA B (vr r0 :: as) h vo F) (hfr : fr' + 1 ≤ fr) (hlo : 8 + (mL + 11) + lo' ≤ lo) (hn : as.length = n) (h8 : (st.map cat).sum ≤ 8) (hst : st0 = as.reverse ++ vr r0 :: st) (kk : ∀ r1 h1, J p l e R s m args below meth c cc nL own fr lo ret nme D dA B n0 s0 Q (pc + 3) lv ((vo r1).toList ++ st) h1 (g r1 h1)) : J p l e R s m args below meth c cc nL own fr lo ret nme D dA B n0 s0 Q pc lv st0 h (cl (ck ts r0 h F) g) := by
  cases r0 with
  | none => exact j_none
  | some a0 =>
    by_cases ha : ok h ts a0 = true
    · have e0 : ck ts (some a0) h F = F := by show (if ok h ts a0 = true then _ else _) = _; rw [if_pos ha]
      rw [e0]
      refine j_run hC (as := ((vr (some a0) :: as).map (val B)).toArray) (fun X r1 h1 H locs ls n1 n2 hM w1 wk w3 hf => ?_) kk
      rw [hst, List.map_append, List.map_reverse]
      obtain ⟨r, hr⟩ := k_at (hts _ (ok_tag ha))
      have hrec := recv_at (B := B) (dA := dA) X.k.1 w1 (ok_lt ha) rfl hr
      have cs : va_CS R s args own idx x b mL rt (Cond.code x b mL rt :: GT) (rmo fr' lo' (hz h1 - hz h) (hs h1 - hs h)) (hz h1 - hz h) (hs h1 - hs h) n := by
        refine ⟨⟨rfl, rfl, by rw [X.fr]; exact hfr, by rw [X.lo]; exact hlo, pay_in X.ts (good_ws S.1), List.mem_cons_self⟩, X.ts _ S.2.2.1, X.ts _ S2.1.1, X.ts _ S2.1.2, X.ts _ S2.2.2, X.ts _ S.2.1, X.ts _ S.1, S2.2.1, fun sig hq => ?_⟩
        have h5 := S.2.2.2.2.2
        rw [hq] at h5
        exact (Option.some.inj h5).symm
      exact va_runSU (C := r.1) (b := B + a0) (As := as.map (val B)) ((X.k.1.1 _ _ hr).2) ⟨X.x, X.b, X.ml, X.own, X.ts⟩ hM cs ⟨wk_blind, hrec, fun U hU hW => ⟨rfl, wk U hU hW⟩⟩ rfl (by rw [List.length_map]; exact hn) w3 rfl (rest_ok h8) hdg hf
    · have e0 : ck ts (some a0) h F = none := by show (if ok h ts a0 = true then _ else _) = _; rw [if_neg ha]
      rw [e0]; exact j_none
theorem j_vI0 {x0 : MethodName} {idx : Nat} {r0 : Option Nat} {cs : List (Nat × Option (Int32 × Hp))} {g : Int32 → Hp → Option (α × Hp)} (hdg : decode cc pc = .ok (.invokevirtual idx, 3)) (hall : allQ (VD l own idx 0 fr lo D dA B x0 [vr r0] h vI) cs) (h8 : (st.map cat).sum ≤ 8) (kk : ∀ (x : Int32) (h1 : Hp), J p l e R s m args below meth c cc nL own fr lo ret nme D dA B n0 s0 Q (pc + 3) lv (vi x :: st) h1 (g x h1)) : J p l e R s m args below meth c cc nL own fr lo ret nme D dA B n0 s0 Q pc lv (vr r0 :: st) h (cl (ds cs r0 h) g) := j_ds (as := []) hdg hall rfl h8 rfl kk
theorem j_vL0 {x0 : MethodName} {idx : Nat} {r0 : Option Nat} {cs : List (Nat × Option (Int64 × Hp))} {g : Int64 → Hp → Option (α × Hp)} (hdg : decode cc pc = .ok (.invokevirtual idx, 3)) (hall : allQ (VD l own idx 0 fr lo D dA B x0 [vr r0] h vL) cs) (h8 : (st.map cat).sum ≤ 8) (kk : ∀ (x : Int64) (h1 : Hp), J p l e R s m args below meth c cc nL own fr lo ret nme D dA B n0 s0 Q (pc + 3) lv (vl x :: st) h1 (g x h1)) : J p l e R s m args below meth c cc nL own fr lo ret nme D dA B n0 s0 Q pc lv (vr r0 :: st) h (cl (ds cs r0 h) g) := j_ds (as := []) hdg hall rfl h8 rfl kk
theorem j_vR0 {x0 : MethodName} {idx : Nat} {r0 : Option Nat} {cs : List (Nat × Option (Option Nat × Hp))} {g : Option Nat → Hp → Option (α × Hp)} (hdg : decode cc pc = .ok (.invokevirtual idx, 3)) (hall : allQ (VD l own idx 0 fr lo D dA B x0 [vr r0] h vR) cs) (h8 : (st.map cat).sum ≤ 8) (kk : ∀ (x : Option Nat) (h1 : Hp), J p l e R s m args below meth c cc nL own fr lo ret nme D dA B n0 s0 Q (pc + 3) lv (vr x :: st) h1 (g x h1)) : J p l e R s m args below meth c cc nL own fr lo ret nme D dA B n0 s0 Q pc lv (vr r0 :: st) h (cl (ds cs r0 h) g) := j_ds (as := []) hdg hall rfl h8 rfl kk
theorem j_vU0 {x0 : MethodName} {idx : Nat} {r0 : Option Nat} {cs : List (Nat × Option (Unit × Hp))} {g : Unit → Hp → Option (α × Hp)} (hdg : decode cc pc = .ok (.invokevirtual idx, 3)) (hall : allQ (VD l own idx 0 fr lo D dA B x0 [vr r0] h vU) cs) (h8 : (st.map cat).sum ≤ 8) (kk : ∀ (x : Unit) (h1 : Hp), J p l e R s m args below meth c cc nL own fr lo ret nme D dA B n0 s0 Q (pc + 3) lv st h1 (g x h1)) : J p l e R s m args below meth c cc nL own fr lo ret nme D dA B n0 s0 Q pc lv (vr r0 :: st) h (cl (ds cs r0 h) g) := j_ds (as := []) hdg hall rfl h8 rfl kk
theorem j_i0 {x : MethodName} {b : ByteArray} {idx mL fr' lo' : Nat} {ts : List Nat} {r0 : Option Nat} {F : Option (Unit × Hp)} {g : Unit → Hp → Option (α × Hp)} (hdg : decode cc pc = .ok (.invokespecial idx, 3)) (S : SL own idx x b mL none 0) (S2 : x.name = "<init>" ∧ Cond.instanceMethod x ∈ GT) (hC : Ct l x b mL none fr' lo' D dA B [vr r0] h vU F) (hfr : fr' + 1 ≤ fr) (hlo : 8 + (mL + 11) + lo' ≤ lo) (h8 : (st.map cat).sum ≤ 8) (kk : ∀ (x : Unit) (h1 : Hp), J p l e R s m args below meth c cc nL own fr lo ret nme D dA B n0 s0 Q (pc + 3) lv st h1 (g x h1)) : J p l e R s m args below meth c cc nL own fr lo ret nme D dA B n0 s0 Q pc lv (vr r0 :: st) h (cl (ck ts r0 h F) g) := j_ini (as := []) hdg S S2 hC hfr hlo rfl h8 rfl kk
theorem j_vI1 {x0 : MethodName} {idx : Nat} {a1 : AV} {r0 : Option Nat} {cs : List (Nat × Option (Int32 × Hp))} {g : Int32 → Hp → Option (α × Hp)} (hdg : decode cc pc = .ok (.invokevirtual idx, 3)) (hall : allQ (VD l own idx 1 fr lo D dA B x0 [vr r0, a1] h vI) cs) (h8 : (st.map cat).sum ≤ 8) (kk : ∀ (x : Int32) (h1 : Hp), J p l e R s m args below meth c cc nL own fr lo ret nme D dA B n0 s0 Q (pc + 3) lv (vi x :: st) h1 (g x h1)) : J p l e R s m args below meth c cc nL own fr lo ret nme D dA B n0 s0 Q pc lv (a1 :: vr r0 :: st) h (cl (ds cs r0 h) g) := j_ds (as := [a1]) hdg hall rfl h8 rfl kk
theorem j_vL1 {x0 : MethodName} {idx : Nat} {a1 : AV} {r0 : Option Nat} {cs : List (Nat × Option (Int64 × Hp))} {g : Int64 → Hp → Option (α × Hp)} (hdg : decode cc pc = .ok (.invokevirtual idx, 3)) (hall : allQ (VD l own idx 1 fr lo D dA B x0 [vr r0, a1] h vL) cs) (h8 : (st.map cat).sum ≤ 8) (kk : ∀ (x : Int64) (h1 : Hp), J p l e R s m args below meth c cc nL own fr lo ret nme D dA B n0 s0 Q (pc + 3) lv (vl x :: st) h1 (g x h1)) : J p l e R s m args below meth c cc nL own fr lo ret nme D dA B n0 s0 Q pc lv (a1 :: vr r0 :: st) h (cl (ds cs r0 h) g) := j_ds (as := [a1]) hdg hall rfl h8 rfl kk
theorem j_vR1 {x0 : MethodName} {idx : Nat} {a1 : AV} {r0 : Option Nat} {cs : List (Nat × Option (Option Nat × Hp))} {g : Option Nat → Hp → Option (α × Hp)} (hdg : decode cc pc = .ok (.invokevirtual idx, 3)) (hall : allQ (VD l own idx 1 fr lo D dA B x0 [vr r0, a1] h vR) cs) (h8 : (st.map cat).sum ≤ 8) (kk : ∀ (x : Option Nat) (h1 : Hp), J p l e R s m args below meth c cc nL own fr lo ret nme D dA B n0 s0 Q (pc + 3) lv (vr x :: st) h1 (g x h1)) : J p l e R s m args below meth c cc nL own fr lo ret nme D dA B n0 s0 Q pc lv (a1 :: vr r0 :: st) h (cl (ds cs r0 h) g) := j_ds (as := [a1]) hdg hall rfl h8 rfl kk
theorem j_vU1 {x0 : MethodName} {idx : Nat} {a1 : AV} {r0 : Option Nat} {cs : List (Nat × Option (Unit × Hp))} {g : Unit → Hp → Option (α × Hp)} (hdg : decode cc pc = .ok (.invokevirtual idx, 3)) (hall : allQ (VD l own idx 1 fr lo D dA B x0 [vr r0, a1] h vU) cs) (h8 : (st.map cat).sum ≤ 8) (kk : ∀ (x : Unit) (h1 : Hp), J p l e R s m args below meth c cc nL own fr lo ret nme D dA B n0 s0 Q (pc + 3) lv st h1 (g x h1)) : J p l e R s m args below meth c cc nL own fr lo ret nme D dA B n0 s0 Q pc lv (a1 :: vr r0 :: st) h (cl (ds cs r0 h) g) := j_ds (as := [a1]) hdg hall rfl h8 rfl kk
theorem j_i1 {x : MethodName} {b : ByteArray} {idx mL fr' lo' : Nat} {ts : List Nat} {a1 : AV} {r0 : Option Nat} {F : Option (Unit × Hp)} {g : Unit → Hp → Option (α × Hp)} (hdg : decode cc pc = .ok (.invokespecial idx, 3)) (S : SL own idx x b mL none 1) (S2 : x.name = "<init>" ∧ Cond.instanceMethod x ∈ GT) (hC : Ct l x b mL none fr' lo' D dA B [vr r0, a1] h vU F) (hfr : fr' + 1 ≤ fr) (hlo : 8 + (mL + 11) + lo' ≤ lo) (h8 : (st.map cat).sum ≤ 8) (kk : ∀ (x : Unit) (h1 : Hp), J p l e R s m args below meth c cc nL own fr lo ret nme D dA B n0 s0 Q (pc + 3) lv st h1 (g x h1)) : J p l e R s m args below meth c cc nL own fr lo ret nme D dA B n0 s0 Q pc lv (a1 :: vr r0 :: st) h (cl (ck ts r0 h F) g) := j_ini (as := [a1]) hdg S S2 hC hfr hlo rfl h8 rfl kk
theorem j_vI2 {x0 : MethodName} {idx : Nat} {a1 a2 : AV} {r0 : Option Nat} {cs : List (Nat × Option (Int32 × Hp))} {g : Int32 → Hp → Option (α × Hp)} (hdg : decode cc pc = .ok (.invokevirtual idx, 3)) (hall : allQ (VD l own idx 2 fr lo D dA B x0 [vr r0, a1, a2] h vI) cs) (h8 : (st.map cat).sum ≤ 8) (kk : ∀ (x : Int32) (h1 : Hp), J p l e R s m args below meth c cc nL own fr lo ret nme D dA B n0 s0 Q (pc + 3) lv (vi x :: st) h1 (g x h1)) : J p l e R s m args below meth c cc nL own fr lo ret nme D dA B n0 s0 Q pc lv (a2 :: a1 :: vr r0 :: st) h (cl (ds cs r0 h) g) := j_ds (as := [a1, a2]) hdg hall rfl h8 rfl kk
theorem j_vL2 {x0 : MethodName} {idx : Nat} {a1 a2 : AV} {r0 : Option Nat} {cs : List (Nat × Option (Int64 × Hp))} {g : Int64 → Hp → Option (α × Hp)} (hdg : decode cc pc = .ok (.invokevirtual idx, 3)) (hall : allQ (VD l own idx 2 fr lo D dA B x0 [vr r0, a1, a2] h vL) cs) (h8 : (st.map cat).sum ≤ 8) (kk : ∀ (x : Int64) (h1 : Hp), J p l e R s m args below meth c cc nL own fr lo ret nme D dA B n0 s0 Q (pc + 3) lv (vl x :: st) h1 (g x h1)) : J p l e R s m args below meth c cc nL own fr lo ret nme D dA B n0 s0 Q pc lv (a2 :: a1 :: vr r0 :: st) h (cl (ds cs r0 h) g) := j_ds (as := [a1, a2]) hdg hall rfl h8 rfl kk
theorem j_vR2 {x0 : MethodName} {idx : Nat} {a1 a2 : AV} {r0 : Option Nat} {cs : List (Nat × Option (Option Nat × Hp))} {g : Option Nat → Hp → Option (α × Hp)} (hdg : decode cc pc = .ok (.invokevirtual idx, 3)) (hall : allQ (VD l own idx 2 fr lo D dA B x0 [vr r0, a1, a2] h vR) cs) (h8 : (st.map cat).sum ≤ 8) (kk : ∀ (x : Option Nat) (h1 : Hp), J p l e R s m args below meth c cc nL own fr lo ret nme D dA B n0 s0 Q (pc + 3) lv (vr x :: st) h1 (g x h1)) : J p l e R s m args below meth c cc nL own fr lo ret nme D dA B n0 s0 Q pc lv (a2 :: a1 :: vr r0 :: st) h (cl (ds cs r0 h) g) := j_ds (as := [a1, a2]) hdg hall rfl h8 rfl kk
theorem j_vU2 {x0 : MethodName} {idx : Nat} {a1 a2 : AV} {r0 : Option Nat} {cs : List (Nat × Option (Unit × Hp))} {g : Unit → Hp → Option (α × Hp)} (hdg : decode cc pc = .ok (.invokevirtual idx, 3)) (hall : allQ (VD l own idx 2 fr lo D dA B x0 [vr r0, a1, a2] h vU) cs) (h8 : (st.map cat).sum ≤ 8) (kk : ∀ (x : Unit) (h1 : Hp), J p l e R s m args below meth c cc nL own fr lo ret nme D dA B n0 s0 Q (pc + 3) lv st h1 (g x h1)) : J p l e R s m args below meth c cc nL own fr lo ret nme D dA B n0 s0 Q pc lv (a2 :: a1 :: vr r0 :: st) h (cl (ds cs r0 h) g) := j_ds (as := [a1, a2]) hdg hall rfl h8 rfl kk
theorem j_i2 {x : MethodName} {b : ByteArray} {idx mL fr' lo' : Nat} {ts : List Nat} {a1 a2 : AV} {r0 : Option Nat} {F : Option (Unit × Hp)} {g : Unit → Hp → Option (α × Hp)} (hdg : decode cc pc = .ok (.invokespecial idx, 3)) (S : SL own idx x b mL none 2) (S2 : x.name = "<init>" ∧ Cond.instanceMethod x ∈ GT) (hC : Ct l x b mL none fr' lo' D dA B [vr r0, a1, a2] h vU F) (hfr : fr' + 1 ≤ fr) (hlo : 8 + (mL + 11) + lo' ≤ lo) (h8 : (st.map cat).sum ≤ 8) (kk : ∀ (x : Unit) (h1 : Hp), J p l e R s m args below meth c cc nL own fr lo ret nme D dA B n0 s0 Q (pc + 3) lv st h1 (g x h1)) : J p l e R s m args below meth c cc nL own fr lo ret nme D dA B n0 s0 Q pc lv (a2 :: a1 :: vr r0 :: st) h (cl (ck ts r0 h F) g) := j_ini (as := [a1, a2]) hdg S S2 hC hfr hlo rfl h8 rfl kk
theorem j_vI3 {x0 : MethodName} {idx : Nat} {a1 a2 a3 : AV} {r0 : Option Nat} {cs : List (Nat × Option (Int32 × Hp))} {g : Int32 → Hp → Option (α × Hp)} (hdg : decode cc pc = .ok (.invokevirtual idx, 3)) (hall : allQ (VD l own idx 3 fr lo D dA B x0 [vr r0, a1, a2, a3] h vI) cs) (h8 : (st.map cat).sum ≤ 8) (kk : ∀ (x : Int32) (h1 : Hp), J p l e R s m args below meth c cc nL own fr lo ret nme D dA B n0 s0 Q (pc + 3) lv (vi x :: st) h1 (g x h1)) : J p l e R s m args below meth c cc nL own fr lo ret nme D dA B n0 s0 Q pc lv (a3 :: a2 :: a1 :: vr r0 :: st) h (cl (ds cs r0 h) g) := j_ds (as := [a1, a2, a3]) hdg hall rfl h8 rfl kk
theorem j_vL3 {x0 : MethodName} {idx : Nat} {a1 a2 a3 : AV} {r0 : Option Nat} {cs : List (Nat × Option (Int64 × Hp))} {g : Int64 → Hp → Option (α × Hp)} (hdg : decode cc pc = .ok (.invokevirtual idx, 3)) (hall : allQ (VD l own idx 3 fr lo D dA B x0 [vr r0, a1, a2, a3] h vL) cs) (h8 : (st.map cat).sum ≤ 8) (kk : ∀ (x : Int64) (h1 : Hp), J p l e R s m args below meth c cc nL own fr lo ret nme D dA B n0 s0 Q (pc + 3) lv (vl x :: st) h1 (g x h1)) : J p l e R s m args below meth c cc nL own fr lo ret nme D dA B n0 s0 Q pc lv (a3 :: a2 :: a1 :: vr r0 :: st) h (cl (ds cs r0 h) g) := j_ds (as := [a1, a2, a3]) hdg hall rfl h8 rfl kk
theorem j_vR3 {x0 : MethodName} {idx : Nat} {a1 a2 a3 : AV} {r0 : Option Nat} {cs : List (Nat × Option (Option Nat × Hp))} {g : Option Nat → Hp → Option (α × Hp)} (hdg : decode cc pc = .ok (.invokevirtual idx, 3)) (hall : allQ (VD l own idx 3 fr lo D dA B x0 [vr r0, a1, a2, a3] h vR) cs) (h8 : (st.map cat).sum ≤ 8) (kk : ∀ (x : Option Nat) (h1 : Hp), J p l e R s m args below meth c cc nL own fr lo ret nme D dA B n0 s0 Q (pc + 3) lv (vr x :: st) h1 (g x h1)) : J p l e R s m args below meth c cc nL own fr lo ret nme D dA B n0 s0 Q pc lv (a3 :: a2 :: a1 :: vr r0 :: st) h (cl (ds cs r0 h) g) := j_ds (as := [a1, a2, a3]) hdg hall rfl h8 rfl kk
theorem j_vU3 {x0 : MethodName} {idx : Nat} {a1 a2 a3 : AV} {r0 : Option Nat} {cs : List (Nat × Option (Unit × Hp))} {g : Unit → Hp → Option (α × Hp)} (hdg : decode cc pc = .ok (.invokevirtual idx, 3)) (hall : allQ (VD l own idx 3 fr lo D dA B x0 [vr r0, a1, a2, a3] h vU) cs) (h8 : (st.map cat).sum ≤ 8) (kk : ∀ (x : Unit) (h1 : Hp), J p l e R s m args below meth c cc nL own fr lo ret nme D dA B n0 s0 Q (pc + 3) lv st h1 (g x h1)) : J p l e R s m args below meth c cc nL own fr lo ret nme D dA B n0 s0 Q pc lv (a3 :: a2 :: a1 :: vr r0 :: st) h (cl (ds cs r0 h) g) := j_ds (as := [a1, a2, a3]) hdg hall rfl h8 rfl kk
theorem j_i3 {x : MethodName} {b : ByteArray} {idx mL fr' lo' : Nat} {ts : List Nat} {a1 a2 a3 : AV} {r0 : Option Nat} {F : Option (Unit × Hp)} {g : Unit → Hp → Option (α × Hp)} (hdg : decode cc pc = .ok (.invokespecial idx, 3)) (S : SL own idx x b mL none 3) (S2 : x.name = "<init>" ∧ Cond.instanceMethod x ∈ GT) (hC : Ct l x b mL none fr' lo' D dA B [vr r0, a1, a2, a3] h vU F) (hfr : fr' + 1 ≤ fr) (hlo : 8 + (mL + 11) + lo' ≤ lo) (h8 : (st.map cat).sum ≤ 8) (kk : ∀ (x : Unit) (h1 : Hp), J p l e R s m args below meth c cc nL own fr lo ret nme D dA B n0 s0 Q (pc + 3) lv st h1 (g x h1)) : J p l e R s m args below meth c cc nL own fr lo ret nme D dA B n0 s0 Q pc lv (a3 :: a2 :: a1 :: vr r0 :: st) h (cl (ck ts r0 h F) g) := j_ini (as := [a1, a2, a3]) hdg S S2 hC hfr hlo rfl h8 rfl kk
theorem j_vI4 {x0 : MethodName} {idx : Nat} {a1 a2 a3 a4 : AV} {r0 : Option Nat} {cs : List (Nat × Option (Int32 × Hp))} {g : Int32 → Hp → Option (α × Hp)} (hdg : decode cc pc = .ok (.invokevirtual idx, 3)) (hall : allQ (VD l own idx 4 fr lo D dA B x0 [vr r0, a1, a2, a3, a4] h vI) cs) (h8 : (st.map cat).sum ≤ 8) (kk : ∀ (x : Int32) (h1 : Hp), J p l e R s m args below meth c cc nL own fr lo ret nme D dA B n0 s0 Q (pc + 3) lv (vi x :: st) h1 (g x h1)) : J p l e R s m args below meth c cc nL own fr lo ret nme D dA B n0 s0 Q pc lv (a4 :: a3 :: a2 :: a1 :: vr r0 :: st) h (cl (ds cs r0 h) g) := j_ds (as := [a1, a2, a3, a4]) hdg hall rfl h8 rfl kk
theorem j_vL4 {x0 : MethodName} {idx : Nat} {a1 a2 a3 a4 : AV} {r0 : Option Nat} {cs : List (Nat × Option (Int64 × Hp))} {g : Int64 → Hp → Option (α × Hp)} (hdg : decode cc pc = .ok (.invokevirtual idx, 3)) (hall : allQ (VD l own idx 4 fr lo D dA B x0 [vr r0, a1, a2, a3, a4] h vL) cs) (h8 : (st.map cat).sum ≤ 8) (kk : ∀ (x : Int64) (h1 : Hp), J p l e R s m args below meth c cc nL own fr lo ret nme D dA B n0 s0 Q (pc + 3) lv (vl x :: st) h1 (g x h1)) : J p l e R s m args below meth c cc nL own fr lo ret nme D dA B n0 s0 Q pc lv (a4 :: a3 :: a2 :: a1 :: vr r0 :: st) h (cl (ds cs r0 h) g) := j_ds (as := [a1, a2, a3, a4]) hdg hall rfl h8 rfl kk
theorem j_vR4 {x0 : MethodName} {idx : Nat} {a1 a2 a3 a4 : AV} {r0 : Option Nat} {cs : List (Nat × Option (Option Nat × Hp))} {g : Option Nat → Hp → Option (α × Hp)} (hdg : decode cc pc = .ok (.invokevirtual idx, 3)) (hall : allQ (VD l own idx 4 fr lo D dA B x0 [vr r0, a1, a2, a3, a4] h vR) cs) (h8 : (st.map cat).sum ≤ 8) (kk : ∀ (x : Option Nat) (h1 : Hp), J p l e R s m args below meth c cc nL own fr lo ret nme D dA B n0 s0 Q (pc + 3) lv (vr x :: st) h1 (g x h1)) : J p l e R s m args below meth c cc nL own fr lo ret nme D dA B n0 s0 Q pc lv (a4 :: a3 :: a2 :: a1 :: vr r0 :: st) h (cl (ds cs r0 h) g) := j_ds (as := [a1, a2, a3, a4]) hdg hall rfl h8 rfl kk
theorem j_vU4 {x0 : MethodName} {idx : Nat} {a1 a2 a3 a4 : AV} {r0 : Option Nat} {cs : List (Nat × Option (Unit × Hp))} {g : Unit → Hp → Option (α × Hp)} (hdg : decode cc pc = .ok (.invokevirtual idx, 3)) (hall : allQ (VD l own idx 4 fr lo D dA B x0 [vr r0, a1, a2, a3, a4] h vU) cs) (h8 : (st.map cat).sum ≤ 8) (kk : ∀ (x : Unit) (h1 : Hp), J p l e R s m args below meth c cc nL own fr lo ret nme D dA B n0 s0 Q (pc + 3) lv st h1 (g x h1)) : J p l e R s m args below meth c cc nL own fr lo ret nme D dA B n0 s0 Q pc lv (a4 :: a3 :: a2 :: a1 :: vr r0 :: st) h (cl (ds cs r0 h) g) := j_ds (as := [a1, a2, a3, a4]) hdg hall rfl h8 rfl kk
theorem j_i4 {x : MethodName} {b : ByteArray} {idx mL fr' lo' : Nat} {ts : List Nat} {a1 a2 a3 a4 : AV} {r0 : Option Nat} {F : Option (Unit × Hp)} {g : Unit → Hp → Option (α × Hp)} (hdg : decode cc pc = .ok (.invokespecial idx, 3)) (S : SL own idx x b mL none 4) (S2 : x.name = "<init>" ∧ Cond.instanceMethod x ∈ GT) (hC : Ct l x b mL none fr' lo' D dA B [vr r0, a1, a2, a3, a4] h vU F) (hfr : fr' + 1 ≤ fr) (hlo : 8 + (mL + 11) + lo' ≤ lo) (h8 : (st.map cat).sum ≤ 8) (kk : ∀ (x : Unit) (h1 : Hp), J p l e R s m args below meth c cc nL own fr lo ret nme D dA B n0 s0 Q (pc + 3) lv st h1 (g x h1)) : J p l e R s m args below meth c cc nL own fr lo ret nme D dA B n0 s0 Q pc lv (a4 :: a3 :: a2 :: a1 :: vr r0 :: st) h (cl (ck ts r0 h F) g) := j_ini (as := [a1, a2, a3, a4]) hdg S S2 hC hfr hlo rfl h8 rfl kk
theorem j_vI5 {x0 : MethodName} {idx : Nat} {a1 a2 a3 a4 a5 : AV} {r0 : Option Nat} {cs : List (Nat × Option (Int32 × Hp))} {g : Int32 → Hp → Option (α × Hp)} (hdg : decode cc pc = .ok (.invokevirtual idx, 3)) (hall : allQ (VD l own idx 5 fr lo D dA B x0 [vr r0, a1, a2, a3, a4, a5] h vI) cs) (h8 : (st.map cat).sum ≤ 8) (kk : ∀ (x : Int32) (h1 : Hp), J p l e R s m args below meth c cc nL own fr lo ret nme D dA B n0 s0 Q (pc + 3) lv (vi x :: st) h1 (g x h1)) : J p l e R s m args below meth c cc nL own fr lo ret nme D dA B n0 s0 Q pc lv (a5 :: a4 :: a3 :: a2 :: a1 :: vr r0 :: st) h (cl (ds cs r0 h) g) := j_ds (as := [a1, a2, a3, a4, a5]) hdg hall rfl h8 rfl kk
theorem j_vL5 {x0 : MethodName} {idx : Nat} {a1 a2 a3 a4 a5 : AV} {r0 : Option Nat} {cs : List (Nat × Option (Int64 × Hp))} {g : Int64 → Hp → Option (α × Hp)} (hdg : decode cc pc = .ok (.invokevirtual idx, 3)) (hall : allQ (VD l own idx 5 fr lo D dA B x0 [vr r0, a1, a2, a3, a4, a5] h vL) cs) (h8 : (st.map cat).sum ≤ 8) (kk : ∀ (x : Int64) (h1 : Hp), J p l e R s m args below meth c cc nL own fr lo ret nme D dA B n0 s0 Q (pc + 3) lv (vl x :: st) h1 (g x h1)) : J p l e R s m args below meth c cc nL own fr lo ret nme D dA B n0 s0 Q pc lv (a5 :: a4 :: a3 :: a2 :: a1 :: vr r0 :: st) h (cl (ds cs r0 h) g) := j_ds (as := [a1, a2, a3, a4, a5]) hdg hall rfl h8 rfl kk
theorem j_vR5 {x0 : MethodName} {idx : Nat} {a1 a2 a3 a4 a5 : AV} {r0 : Option Nat} {cs : List (Nat × Option (Option Nat × Hp))} {g : Option Nat → Hp → Option (α × Hp)} (hdg : decode cc pc = .ok (.invokevirtual idx, 3)) (hall : allQ (VD l own idx 5 fr lo D dA B x0 [vr r0, a1, a2, a3, a4, a5] h vR) cs) (h8 : (st.map cat).sum ≤ 8) (kk : ∀ (x : Option Nat) (h1 : Hp), J p l e R s m args below meth c cc nL own fr lo ret nme D dA B n0 s0 Q (pc + 3) lv (vr x :: st) h1 (g x h1)) : J p l e R s m args below meth c cc nL own fr lo ret nme D dA B n0 s0 Q pc lv (a5 :: a4 :: a3 :: a2 :: a1 :: vr r0 :: st) h (cl (ds cs r0 h) g) := j_ds (as := [a1, a2, a3, a4, a5]) hdg hall rfl h8 rfl kk
theorem j_vU5 {x0 : MethodName} {idx : Nat} {a1 a2 a3 a4 a5 : AV} {r0 : Option Nat} {cs : List (Nat × Option (Unit × Hp))} {g : Unit → Hp → Option (α × Hp)} (hdg : decode cc pc = .ok (.invokevirtual idx, 3)) (hall : allQ (VD l own idx 5 fr lo D dA B x0 [vr r0, a1, a2, a3, a4, a5] h vU) cs) (h8 : (st.map cat).sum ≤ 8) (kk : ∀ (x : Unit) (h1 : Hp), J p l e R s m args below meth c cc nL own fr lo ret nme D dA B n0 s0 Q (pc + 3) lv st h1 (g x h1)) : J p l e R s m args below meth c cc nL own fr lo ret nme D dA B n0 s0 Q pc lv (a5 :: a4 :: a3 :: a2 :: a1 :: vr r0 :: st) h (cl (ds cs r0 h) g) := j_ds (as := [a1, a2, a3, a4, a5]) hdg hall rfl h8 rfl kk
theorem j_i5 {x : MethodName} {b : ByteArray} {idx mL fr' lo' : Nat} {ts : List Nat} {a1 a2 a3 a4 a5 : AV} {r0 : Option Nat} {F : Option (Unit × Hp)} {g : Unit → Hp → Option (α × Hp)} (hdg : decode cc pc = .ok (.invokespecial idx, 3)) (S : SL own idx x b mL none 5) (S2 : x.name = "<init>" ∧ Cond.instanceMethod x ∈ GT) (hC : Ct l x b mL none fr' lo' D dA B [vr r0, a1, a2, a3, a4, a5] h vU F) (hfr : fr' + 1 ≤ fr) (hlo : 8 + (mL + 11) + lo' ≤ lo) (h8 : (st.map cat).sum ≤ 8) (kk : ∀ (x : Unit) (h1 : Hp), J p l e R s m args below meth c cc nL own fr lo ret nme D dA B n0 s0 Q (pc + 3) lv st h1 (g x h1)) : J p l e R s m args below meth c cc nL own fr lo ret nme D dA B n0 s0 Q pc lv (a5 :: a4 :: a3 :: a2 :: a1 :: vr r0 :: st) h (cl (ck ts r0 h F) g) := j_ini (as := [a1, a2, a3, a4, a5]) hdg S S2 hC hfr hlo rfl h8 rfl kk
theorem j_pI0 {x : MethodName} {b : ByteArray} {idx mL fr' lo' : Nat} {rt : Option FieldType} {ts : List Nat} {r0 : Option Nat} {F : Option (Int32 × Hp)} {g : Int32 → Hp → Option (α × Hp)} (hdg : decode cc pc = .ok (.invokespecial idx, 3)) (S : SL own idx x b mL rt 0) (S2 : (Cond.sameMethod x.cls x.cls x.name x.desc ∈ GT ∧ Cond.superclass own x.cls ∈ GT) ∧ x.name ≠ "<init>" ∧ Cond.instanceMethod x ∈ GT) (hts : ∀ t ∈ ts, t < 13) (hC : Ct l x b mL rt fr' lo' D dA B [vr r0] h vI F) (hfr : fr' + 1 ≤ fr) (hlo : 8 + (mL + 11) + lo' ≤ lo) (h8 : (st.map cat).sum ≤ 8) (kk : ∀ (x : Int32) (h1 : Hp), J p l e R s m args below meth c cc nL own fr lo ret nme D dA B n0 s0 Q (pc + 3) lv (vi x :: st) h1 (g x h1)) : J p l e R s m args below meth c cc nL own fr lo ret nme D dA B n0 s0 Q pc lv (vr r0 :: st) h (cl (ck ts r0 h F) g) := j_sup (as := []) hdg S S2 hts hC hfr hlo rfl h8 rfl kk
theorem j_retI {x : Int32} (hdg : decode cc pc = .ok (.ireturn, 1)) : J p l e R s m args below meth c cc nL own fr lo (some .int) nme D dA B n0 s0 (QM below args s D dA B n0 s0 vI) pc lv [vi x] h (some (x, h)) := by
  intro r' h' ef
  cases ef
  refine ⟨⟨Nat.le_refl _, Nat.le_refl _⟩, fun X c1 c2 H locs ls n1 n2 e1 e2 w1 w2 w3 => ?_⟩
  obtain rfl : n1 = hz h - n0 := by omega
  obtain rfl : n2 = hs h - s0 := by omega
  exact W.iret X.x X.b X.rt (fun t ht hW => ⟨rfl, ⟨by rw [ht]; exact w1, Kx.moved hW.alike X.k⟩, w2.F ht⟩) w2.2.2 hdg X.lk
theorem j_retL {x : Int64} (hdg : decode cc pc = .ok (.lreturn, 1)) : J p l e R s m args below meth c cc nL own fr lo (some .long) nme D dA B n0 s0 (QM below args s D dA B n0 s0 vL) pc lv [vl x] h (some (x, h)) := by
  intro r' h' ef
  cases ef
  refine ⟨⟨Nat.le_refl _, Nat.le_refl _⟩, fun X c1 c2 H locs ls n1 n2 e1 e2 w1 w2 w3 => ?_⟩
  obtain rfl : n1 = hz h - n0 := by omega
  obtain rfl : n2 = hs h - s0 := by omega
  exact W.lret X.x X.b X.rt (fun t ht hW => ⟨rfl, ⟨by rw [ht]; exact w1, Kx.moved hW.alike X.k⟩, w2.F ht⟩) w2.2.2 hdg X.lk
theorem j_retU (hdg : decode cc pc = .ok (.return_, 1)) : J p l e R s m args below meth c cc nL own fr lo none nme D dA B n0 s0 (QM below args s D dA B n0 s0 vU) pc lv [] h (some ((), h)) := by
  intro r' h' ef
  cases ef
  refine ⟨⟨Nat.le_refl _, Nat.le_refl _⟩, fun X c1 c2 H locs ls n1 n2 e1 e2 w1 w2 w3 => ?_⟩
  obtain rfl : n1 = hz h - n0 := by omega
  obtain rfl : n2 = hs h - s0 := by omega
  exact W.vret X.x X.b X.rt (fun t ht hW => ⟨rfl, ⟨by rw [ht]; exact w1, Kx.moved hW.alike X.k⟩, w2.F ht⟩) w2.2.2 hdg X.lk
theorem j_retR {x : Option Nat} {ft : FieldType} (hft : (∃ n, ft = .object n) ∨ ∃ t, ft = .array t) (hdg : decode cc pc = .ok (.areturn, 1)) : J p l e R s m args below meth c cc nL own fr lo (some ft) nme D dA B n0 s0 (QM below args s D dA B n0 s0 vR) pc lv [vr x] h (some (x, h)) := by
  intro r' h' ef
  cases ef
  refine ⟨⟨Nat.le_refl _, Nat.le_refl _⟩, fun X c1 c2 H locs ls n1 n2 e1 e2 w1 w2 w3 => ?_⟩
  obtain rfl : n1 = hz h - n0 := by omega
  obtain rfl : n2 = hs h - s0 := by omega
  exact W.aret X.x X.b X.rt hft (by cases x with | none => exact Or.inl rfl | some a => exact Or.inr ⟨_, rfl⟩) (fun t ht hW => ⟨rfl, ⟨by rw [ht]; exact w1, Kx.moved hW.alike X.k⟩, w2.F ht⟩) w2.2.2 hdg X.lk
theorem j_retZ {x : Int32} (hdg : decode cc pc = .ok (.ireturn, 1)) : J p l e R s m args below meth c cc nL own fr lo (some .boolean) nme D dA B n0 s0 (QM below args s D dA B n0 s0 vI) pc lv [vi x] h (rz x h) := by
  by_cases hx : x = 0 ∨ x = 1
  · rw [rz, if_pos hx]
    have hn : narrow .boolean (.int x) = .int x := by rcases hx with rfl | rfl <;> decide
    intro r' h' ef
    cases ef
    refine ⟨⟨Nat.le_refl _, Nat.le_refl _⟩, fun X c1 c2 H locs ls n1 n2 e1 e2 w1 w2 w3 => ?_⟩
    obtain rfl : n1 = hz h - n0 := by omega
    obtain rfl : n2 = hs h - s0 := by omega
    exact W.zret X.x X.b X.rt hn (fun t ht hW => ⟨rfl, ⟨by rw [ht]; exact w1, Kx.moved hW.alike X.k⟩, w2.F ht⟩) w2.2.2 hdg X.lk
  · rw [rz, if_neg hx]; exact J.none
theorem j_obj {idx : Nat} {r : Option Nat} (hdg : decode cc pc = .ok (.invokespecial idx, 3)) (hl : Cond.methodLink own idx objectInit ∈ GT) (hi : Cond.instanceMethod objectInit ∈ GT) (hcd : Cond.code objectInit ⟨#[0xb1]⟩ 1 none ∈ GT) (hfr : 1 ≤ fr) (hlo : 20 ≤ lo) (h8 : (st.map cat).sum ≤ 8) (k : J p l e R s m args below meth c cc nL own fr lo ret nme D dA B n0 s0 Q (pc + 3) lv st h f) : J p l e R s m args below meth c cc nL own fr lo ret nme D dA B n0 s0 Q pc lv (vr r :: st) h (kn r f) := by
  cases r with
  | none => exact fun _ _ ef => by cases ef
  | some a =>
    refine J.go (fun X H locs ls n1 n2 Q1 w3 w => ?_) k
    refine W.objInit X.x X.b X.own (X.ts _ hl) (X.ts _ hi) (X.ts _ hcd) rfl (by rw [X.ml]; exact w3.1) rfl hdg (by rw [X.fr]; exact hfr) (by rw [X.lo]; exact Nat.le_trans (Nat.add_le_add_right (rest_ok h8) 12) hlo) w
theorem j_io {idx : Nat} {r : Option Nat} {g : Int32 → Option (α × Hp)} (hdg : decode cc pc = .ok (.instanceof idx, 3)) (hl : Cond.classLink own idx "RingingChamber$Spliced" ∈ GT) (kk : ∀ x : Int32, J p l e R s m args below meth c cc nL own fr lo ret nme D dA B n0 s0 Q (pc + 3) lv (vi x :: st) h (g x)) : J p l e R s m args below meth c cc nL own fr lo ret nme D dA B n0 s0 Q pc lv (vr r :: st) h (io 6 [1, 2, 3, 6, 7, 10] r h g) := by
  cases r with
  | none => exact J.go (fun X _ _ _ _ _ _ w3 w => lv_instN X.x X.b hdg w) (kk 0)
  | some a =>
    intro r' h' ef
    unfold io at ef
    dsimp only at ef
    by_cases ho : ok h [1, 2, 3, 6, 7, 10] a = true
    · rw [if_pos ho] at ef
      refine ⟨(kk _ r' h' ef).1, fun X c1 c2 H locs ls n1 n2 e1 e2 w1 w2 w3 => ?_⟩
      obtain ⟨r, hr⟩ := k_at (k_us (ok_tag ho))
      have hrec := recv_at (B := B) (dA := dA) X.k.1 w1 (ok_lt ho) rfl hr
      have w := (kk _ r' h' ef).2 X c1 c2 H locs ls n1 n2 e1 e2 w1 w2 w3
      by_cases ht : (hK h a).1 = 6
      · rw [if_pos ht] at w
        rw [ht] at hr
        cases hr
        exact va_instS X.x X.b X.own (X.ts _ hl) ((X.k.1.1 6 _ rfl).2) hrec hdg w
      · rw [if_neg ht] at w
        refine va_instNo X.x X.b X.own (X.ts _ hl) (X.k.2.2.2.1 _ _ ?_ hr) hrec hdg w
        have := ok_tag ho
        simp only [List.mem_cons, List.not_mem_nil, or_false] at this ⊢
        omega
    · rw [if_neg ho] at ef; cases ef
theorem j_kc {idx : Nat} {r : Option Nat} (hdg : decode cc pc = .ok (.checkcast idx, 3)) (hl : Cond.classLink own idx "RingingChamber$Spliced" ∈ GT) (k : J p l e R s m args below meth c cc nL own fr lo ret nme D dA B n0 s0 Q (pc + 3) lv (vr r :: st) h f) : J p l e R s m args below meth c cc nL own fr lo ret nme D dA B n0 s0 Q pc lv (vr r :: st) h (kc 6 r h f) := by
  cases r with
  | none => exact J.go (fun X _ _ _ _ _ _ w3 w => lv_castN X.x X.b hdg w) k
  | some a =>
    intro r' h' ef
    unfold kc at ef
    dsimp only at ef
    by_cases ho : ok h [6] a = true
    · rw [if_pos ho] at ef
      refine ⟨(k r' h' ef).1, fun X c1 c2 H locs ls n1 n2 e1 e2 w1 w2 w3 => ?_⟩
      have ht : (hK h a).1 = 6 := by simpa using ok_tag ho
      have hrec := recv_at (B := B) (dA := dA) (r := ("RingingChamber$Spliced", kT6, 8)) X.k.1 w1 (ok_lt ho) ht rfl
      exact va_castS X.x X.b X.own (X.ts _ hl) ((X.k.1.1 6 _ rfl).2) hrec hdg ((k r' h' ef).2 X c1 c2 H locs ls n1 n2 e1 e2 w1 w2 w3)
    · rw [if_neg ho] at ef; cases ef
theorem j_ac {idx : Nat} {r q : Option Nat} {sp dp n : Int32} {g : Hp → Option (α × Hp)} (hdg : decode cc pc = .ok (.invokestatic idx, 3)) (hl : Cond.methodLink own idx arraycopyName ∈ GT) (hnat : Cond.native arraycopyName ∈ GT) (hst : Cond.static arraycopyName ∈ GT) (hini : Cond.initialized "java/lang/System" ∈ GT) (hfr : 1 ≤ fr) (hlo : 30 ≤ lo) (h8 : (st.map cat).sum ≤ 8) (kk : ∀ h1, J p l e R s m args below meth c cc nL own fr lo ret nme D dA B n0 s0 Q (pc + 3) lv st h1 (g h1)) : J p l e R s m args below meth c cc nL own fr lo ret nme D dA B n0 s0 Q pc lv (vi n :: vi dp :: vr q :: vi sp :: vr r :: st) h (ac r sp q dp n h g) := by
  intro r' h' ef
  cases r with
  | none => cases ef
  | some a =>
    cases q with
    | none => cases ef
    | some b =>
      unfold ac at ef
      dsimp only at ef
      by_cases ho : (ok h [13] a = true ∧ ok h [13] b = true) ∧ (¬ sp < 0 ∧ ¬ dp < 0 ∧ ¬ n < 0) ∧ sp.toNatClampNeg + n.toNatClampNeg ≤ (hK h a).2 ∧ dp.toNatClampNeg + n.toNatClampNeg ≤ (hK h b).2
      · rw [if_pos ho] at ef
        obtain ⟨⟨o1, o2⟩, ⟨o3, o4, o5⟩, o6, o7⟩ := ho
        have t1 : (hK h a).1 = 13 := by simpa using ok_tag o1
        have t2 : (hK h b).1 = 13 := by simpa using ok_tag o2
        refine ⟨(kk _ r' h' ef).1, fun X c1 c2 H locs ls n1 n2 e1 e2 w1 w2 w3 => ?_⟩
        have he1 := wl_at (B := B) (dA := dA) (ok_lt o1)
        have he2 := wl_at (B := B) (dA := dA) (ok_lt o2)
        rw [cel_13 t1] at he1
        rw [cel_13 t2] at he2
        refine va_copyi X.x X.b (by rw [X.ml]; exact w3.1.symm) X.own (X.ts _ hl) (X.ts _ hnat) (X.ts _ hst) (X.ts _ hini) X.k.1 w1 (wl_D B dA h) w2 a b 0 0 he1 he2 rfl rfl rfl o3 o4 o5 o6 o7 (fun i hi => rfl) (by rw [X.fr]; exact hfr) ?_ hdg fun H1 locs1 g1 g2 g3 => ?_
        · rw [X.lo, cat_sum]
          have h9 : nativeFrameWords "java/lang/System" "arraycopy" 5 = 7 := by decide
          rw [h9]
          omega
        · have hset : (wl B dA h).set b (B + b, .inl (dA 0, (hK h b).2, .inl (va_cpy (hI h a) (hI h b) sp.toNatClampNeg dp.toNatClampNeg n.toNatClampNeg))) = wl B dA (sC h b (va_cpy (hI h a) (hI h b) sp.toNatClampNeg dp.toNatClampNeg n.toNatClampNeg)) := wl_ext (h := h) (h1 := sC h b (va_cpy (hI h a) (hI h b) sp.toNatClampNeg dp.toNatClampNeg n.toNatClampNeg)) rfl (by rw [cel_13 (h := sC h b (va_cpy (hI h a) (hI h b) sp.toNatClampNeg dp.toNatClampNeg n.toNatClampNeg)) t2]; show (Sum.inl (dA 0, (hK h b).2, Sum.inl (va_up (hI h) b (va_cpy (hI h a) (hI h b) sp.toNatClampNeg dp.toNatClampNeg n.toNatClampNeg) b)) : va_E) = _; rw [va_up, if_pos rfl]) (fun b' hb => sC_o hb)
          rw [hset] at g1
          exact (kk _ r' h' ef).2 X c1 c2 H1 locs1 ls n1 n2 e1 e2 g1 g3 w3
      · rw [if_neg ho] at ef; cases ef
theorem sw_none {β : Type} {x : Int32} : ∀ {cs : List (Int32 × Option β)} {d : Option β}, (∃ f, (x, f) ∈ cs ∧ sw x cs d = f) ∨ ((∀ q ∈ cs, x ≠ q.1) ∧ sw x cs d = d) := by
  intro cs
  induction cs with
  | nil => intro d; exact Or.inr ⟨fun q hq => (by cases hq), rfl⟩
  | cons a r ih =>
    intro d
    unfold sw
    by_cases e : x = a.1
    · rw [if_pos e]
      exact Or.inl ⟨a.2, List.mem_cons.mpr (Or.inl (by rw [e])), rfl⟩
    · rw [if_neg e]
      rcases ih (d := d) with ⟨f, h1, h2⟩ | ⟨h1, h2⟩
      · exact Or.inl ⟨f, List.mem_cons_of_mem _ h1, h2⟩
      · exact Or.inr ⟨fun q hq => by rcases List.mem_cons.mp hq with rfl | hq; exact e; exact h1 q hq, h2⟩
theorem swt_out {x : Int32} : ∀ {cs : List (Int32 × Nat)} {d : Nat}, (∀ q ∈ cs, x ≠ q.1) → swt x cs d = d := by
  intro cs
  induction cs with
  | nil => intro d _; rfl
  | cons a r ih =>
    intro d h
    unfold swt
    rw [if_neg (h a List.mem_cons_self)]
    exact ih fun q hq => h q (List.mem_cons_of_mem _ hq)
theorem sw_case {k : Int32} {t d : Nat} {ts : List (Int32 × Nat)} {F : Option (α × Hp)} (e1 : swt k ts d = t) (kk : J p l e R s m args below meth c cc nL own fr lo ret nme D dA B n0 s0 Q t lv st h F) : J p l e R s m args below meth c cc nL own fr lo ret nme D dA B n0 s0 Q (swt (k, F).1 ts d) lv st h (k, F).2 := by
  show J p l e R s m args below meth c cc nL own fr lo ret nme D dA B n0 s0 Q (swt k ts d) lv st h F
  rw [e1]; exact kk
/-- a switch, by where it goes -/
theorem j_sw {x : Int32} {cs : List (Int32 × Option (α × Hp))} {ts : List (Int32 × Nat)} {d : Nat} {fd : Option (α × Hp)} (hgo : ∀ (X : Cx p R s m args meth c cc nL own fr lo ret nme D dA B n0) (H : Heap) (locs : List Loc) (ls : Array Slot) (n1 n2 : Nat) (Q1 : State → Prop), W p l e R s m args below meth c H locs n1 n2 Q1 (F0 m (swt x ts d) ls (st.map (val B))) → W p l e R s m args below meth c H locs n1 n2 Q1 (F0 m pc ls (.int x :: st.map (val B)))) (hkeys : cs.map Prod.fst = ts.map Prod.fst) (hall : allQ (fun q => J p l e R s m args below meth c cc nL own fr lo ret nme D dA B n0 s0 Q (swt q.1 ts d) lv st h q.2) cs) (hd : J p l e R s m args below meth c cc nL own fr lo ret nme D dA B n0 s0 Q d lv st h fd) : J p l e R s m args below meth c cc nL own fr lo ret nme D dA B n0 s0 Q pc lv (vi x :: st) h (sw x cs fd) := by
  have key : J p l e R s m args below meth c cc nL own fr lo ret nme D dA B n0 s0 Q (swt x ts d) lv st h (sw x cs fd) := by
    rcases sw_none (x := x) (cs := cs) (d := fd) with ⟨f, h1, h2⟩ | ⟨h1, h2⟩
    · rw [h2]; exact allQ_mem hall _ h1
    · rw [h2, swt_out fun q hq => ?_]
      · exact hd
      · have : q.1 ∈ cs.map Prod.fst := by rw [hkeys]; exact List.mem_map_of_mem hq
        obtain ⟨q', hq', e'⟩ := List.mem_map.mp this
        rw [← e']; exact h1 q' hq'
  exact J.go (fun X H locs ls n1 n2 Q1 w3 w => hgo X H locs ls n1 n2 Q1 w) key
theorem j_tsw {x : Int32} {cs : List (Int32 × Option (α × Hp))} {ts : List (Int32 × Nat)} {d len : Nat} {dflt lo1 hi : Int} {offs : Array Int} {fd : Option (α × Hp)} (hdg : decode cc pc = .ok (.tableswitch dflt lo1 hi offs, len)) (hin : ∀ i : Nat, i < (hi - lo1 + 1).toNat → (offs[i]?).map (fun o => (pc : Int) + o) = some ((swt (Int32.ofInt (lo1 + i)) ts d : Nat) : Int)) (hbd : -2147483648 ≤ lo1 ∧ hi ≤ 2147483647) (hout : ts.all (fun q => decide (lo1 ≤ q.1.toInt) && decide (q.1.toInt ≤ hi)) = true) (hdf : (pc : Int) + dflt = (d : Int)) (hkeys : cs.map Prod.fst = ts.map Prod.fst) (hall : allQ (fun q => J p l e R s m args below meth c cc nL own fr lo ret nme D dA B n0 s0 Q (swt q.1 ts d) lv st h q.2) cs) (hd : J p l e R s m args below meth c cc nL own fr lo ret nme D dA B n0 s0 Q d lv st h fd) : J p l e R s m args below meth c cc nL own fr lo ret nme D dA B n0 s0 Q pc lv (vi x :: st) h (sw x cs fd) := by
  refine j_sw (fun X H locs ls n1 n2 Q1 w => ?_) hkeys hall hd
  by_cases h1 : x.toInt < lo1 ∨ hi < x.toInt
  · refine lv_tableOut X.x X.b hdg h1 hdf ?_
    rw [swt_out fun q hq e => ?_] at w
    · exact w
    · have := List.all_eq_true.mp hout q hq
      rw [Bool.and_eq_true, decide_eq_true_eq, decide_eq_true_eq, ← e] at this
      omega
  · have h2 : ¬ x.toInt < lo1 := fun q => h1 (Or.inl q)
    have h3 : ¬ hi < x.toInt := fun q => h1 (Or.inr q)
    have h4 := hin (x.toInt - lo1).toNat (by omega)
    have h5 : Int32.ofInt (lo1 + ((x.toInt - lo1).toNat : Nat)) = x := by
      rw [show lo1 + (((x.toInt - lo1).toNat : Nat) : Int) = x.toInt by omega]
      exact Int32.ofInt_toInt x
    rw [h5] at h4
    cases ho : offs[(x.toInt - lo1).toNat]? with
    | none => rw [ho] at h4; cases h4
    | some off =>
      rw [ho] at h4
      exact lv_tableIn X.x X.b hdg h2 h3 ho (Option.some.inj h4) w
theorem j_lsw {x : Int32} {cs : List (Int32 × Option (α × Hp))} {ts : List (Int32 × Nat)} {d len : Nat} {dflt : Int} {ps : Array (Int × Int)} {fd : Option (α × Hp)} (hdg : decode cc pc = .ok (.lookupswitch dflt ps, len)) (hp : (ps.toList.zip (ps.toList.drop 1)).all (fun (a, next) => a.1 < next.1) = true) (hgo : ∀ y : Int32, (pc : Int) + Op.lookupswitch.offset ps.toList dflt y.toInt = ((swt y ts d : Nat) : Int)) (hkeys : cs.map Prod.fst = ts.map Prod.fst) (hall : allQ (fun q => J p l e R s m args below meth c cc nL own fr lo ret nme D dA B n0 s0 Q (swt q.1 ts d) lv st h q.2) cs) (hd : J p l e R s m args below meth c cc nL own fr lo ret nme D dA B n0 s0 Q d lv st h fd) : J p l e R s m args below meth c cc nL own fr lo ret nme D dA B n0 s0 Q pc lv (vi x :: st) h (sw x cs fd) :=
  j_sw (fun X H locs ls n1 n2 Q1 w => lv_lookup X.x X.b hdg hp rfl (hgo x) w) hkeys hall hd
end RI
end
section
/-! A static call whose pool entry names a class below the one that declares the method. What an entry that isn't resolved yet costs: nothing but the notes of its class and its method. -/
section SU
variable {Qs : Unit → Pre} {E : CtlPost} {e : Env} {d : Bool} {acts : List Action} {s t : State} {f : JFrame}
set_option maxRecDepth 20000 in
theorem su_first {index ci n c : Nat} {m : MethodId} {dk ck : Class} {cf : ClassFile} {name desc : String} (ht : t.topJava?.isSome) (hp : e.platform.polymorphicOnlyByInvokevirtual = true) (hW : s.WarmedH t.vm) (hE : s.MethodEntryUp e t.vm f.method.cls index c m ci)
    (h1 : s.vm.classes[f.method.cls]? = some dk) (h2 : dk.cf = some cf) (h3 : cf.constantPool[index]? = some (.methodref ci n)) (h4 : cf.constantPool.nameAndType? n = some (name, desc)) (hck : s.vm.classes[c]? = some ck) (hno : (ck.methods.any fun x => x.name == name && !x.isStatic && signaturePolymorphic ck x) = false) :
    wp (invokestatic.sem index) Qs E e d acts (t.setTop f) ↔ wp (invokestatic.sem index) Qs E e d acts ((t.setVm (t.vm.calledUp f.method.cls ci index c m)).setTop f) := by
  obtain ⟨g1, g2, g3, g4⟩ := hE.classFirst
  have h3' : cf.constantPool[index]? = some (if false then .interfaceMethodref ci n else .methodref ci n) := h3
  obtain ⟨ka, a1, a2⟩ := hW.alike.2.2 _ _ h1
  obtain ⟨kb, b1, b2⟩ := hE.warmed.alike.2.2 _ _ h1
  obtain ⟨kc', c1, c2⟩ := g3.alike.2.2 _ _ hck
  obtain ⟨kd, d1, d2⟩ := hE.warmed.alike.2.2 _ _ hck
  have m1 := memberRef_ask_via (e := e) a1 (by rw [a2]; exact h2) h3' h4
  have m2 := memberRef_ask_via (e := e) b1 (by rw [b2]; exact h2) h3' h4
  have n1 : (kc'.methods.any fun x => x.name == name && !x.isStatic && signaturePolymorphic kc' x) = false := by rw [c2]; exact hno
  have n2 : (kd.methods.any fun x => x.name == name && !x.isStatic && signaturePolymorphic kd x) = false := by rw [d2]; exact hno
  have t1 : (t.setVm (t.vm.noted f.method.cls ci (.cls c))).topJava?.isSome := ht
  have t2 : (t.setVm (t.vm.calledUp f.method.cls ci index c m)).topJava?.isSome := ht
  have r1 : ∀ {Q' : ClassId → Pre} {d' : Bool} {acts' : List Action}, wp (Jvm.resolveClassAt ci) Q' E e d' acts' (t.setTop f) ↔ Q' c d' acts' ((t.setVm (t.vm.noted f.method.cls ci (.cls c))).setTop f) := W.resolveClassAt_links (t := t.setTop f) (State.method?_setTop f ht) g1
  have r2 : ∀ {Q' : MethodId → Pre} {d' : Bool} {acts' : List Action}, wp (Jvm.resolveMethodAt index) Q' E e d' acts' ((t.setVm (t.vm.noted f.method.cls ci (.cls c))).setTop f) ↔ Q' m d' acts' ((t.setVm (t.vm.calledUp f.method.cls ci index c m)).setTop f) := W.resolveMethodAt_links (t := (t.setVm (t.vm.noted f.method.cls ci (.cls c))).setTop f) (State.method?_setTop f t1) g4
  have r3 := fun {Q' : ClassId → Pre} {d' : Bool} {acts' : List Action} => W.resolveClassAt_ready (Q := Q') (E := E) (e := e) (d := d') (acts := acts') (s := (t.setVm (t.vm.calledUp f.method.cls ci index c m)).setTop f) (State.method?_setTop f t2) hE.classReady
  have r4 := fun {Q' : MethodId → Pre} {d' : Bool} {acts' : List Action} => W.resolveMethodAt_ready (Q := Q') (E := E) (e := e) (d := d') (acts := acts') (s := (t.setVm (t.vm.calledUp f.method.cls ci index c m)).setTop f) (State.method?_setTop f t2) hE.ready
  simp [invokestatic.sem, hp, Seam.memberRefOf, State.method?_setTop f ht, State.method?_setTop f t2, m1, m2, r1, r2, r3, r4, c1, d1, n1, n2, -Array.any_eq_true]
end SU
section SV
variable {p : Program} {l : Launch} {e : Env} {R : Room} {s : State} {m : MethodId} {args : Array Value} {below : List Frame} {meth : Method} {c : Code} {T : State} {locs : List Loc} {cells slots : Nat}
set_option maxRecDepth 20000 in
theorem su_step (X : Stand p l e R s m args below meth c T locs cells slots) (hexec : p.tables.exec = Jvm.exec) {own owner : String} {index : Nat} {x : MethodName} (hown : s.vm.findClass own = some m.cls) (hlink : (Cond.methodLink own index x).before args s = true) (hsame : (Cond.sameMethod x.cls owner x.name x.desc).before args s = true) (howner : owner ≠ "java/lang/invoke/MethodHandle" ∧ owner ≠ "java/lang/invoke/VarHandle")
    {m' : MethodId} {meth' : Method} {k' : Class} (hn : s.methodNamed? ⟨owner, x.name, x.desc⟩ = some m') (hm' : s.vm.method? m' = some meth') (hstatic : meth'.isStatic = true) (hk' : s.vm.classes[m'.cls]? = some k') (hinit : k'.init = .initialized)
    {g : JFrame} (hg : g.method = m) {argsL rest : List Value} (hlen : argsL.length = meth'.sig.parameters.length) (hstack : g.stack = argsL.reverse ++ rest) (hdg : decode c.code g.pc = .ok (.invokestatic index, 3)) :
    ∃ vm', Stand p l e R s m args below meth c (T.setVm vm') locs cells slots ∧ ∀ target, (∀ acts, Steps p.tables e below (doInvoke e ((T.setVm vm').setTop { g with stack := rest }) acts m' argsL.toArray).1 target) → Steps p.tables e below (T.setTop g) target := by
  have ep := X.admits.platform
  obtain ⟨cn, ck, r1, q1, q2, q3, q4, q5⟩ := Cond.sameMethod_found hsame
  cases hn.symm.trans q5
  obtain ⟨ci, hl, hright⟩ := Cond.methodLink_specUp hown q1 q2 q3 q4 hlink e.platform (by rw [ep]) (by rw [ep])
  have hE : s.MethodEntryUp e T.vm m.cls index cn m' ci := State.methodEntryUp X.warmed hl hright
  obtain ⟨kx, z1, z2⟩ := className_of_methodNamed hn
  cases hk'.symm.trans z1
  obtain ⟨dk, cfile, nt, mname, mdesc, ck', _, _, y1, y2, y3, y4, -, -, y5, -, y6, -⟩ := hl.here
  cases q2.symm.trans y5
  obtain ⟨dk2, u1, u2⟩ := hE.warmed.alike.2.2 _ _ y1
  obtain ⟨k2, v1, v2⟩ := hE.warmed.alike.2.2 _ _ hk'
  obtain ⟨ck2, w1, w2⟩ := hE.warmed.alike.2.2 _ _ q2
  have n1 : (ck.methods.any fun y => y.name == mname && !y.isStatic && signaturePolymorphic ck y) = false := by simp [y6]
  have n2 : (ck2.methods.any fun y => y.name == mname && !y.isStatic && signaturePolymorphic ck2 y) = false := by rw [w2]; exact n1
  have y3' : cfile.constantPool[index]? = some (if false then .interfaceMethodref ci nt else .methodref ci nt) := y3
  refine ⟨T.vm.calledUp m.cls ci index cn m', X.noted hE.warmed, fun target hrest => ?_⟩
  subst hg
  jvm_step X.here [hexec, hdg, su_first (e := e) (t := T) (s := s) (f := g) X.here.top (by rw [ep]) X.warmed hE y1 y2 y3 y4 q2 n1,
    invokestatic.wp_ready (e := e) (s := T.setVm (T.vm.calledUp g.method.cls ci index cn m')) (k := k2) (meth := meth') (m := m') (args := argsL) (rest := rest) (f := g) X.here.top ⟨ci, mname, mdesc, false, cn, ck2, memberRef_ask_via (e := e) u1 (by rw [u2]; exact y2) y3' y4, hE.classReady, w1, n2⟩ hE.ready v1 (by show (T.vm.calledUp g.method.cls ci index cn m').method? m' = some meth'; rw [hE.warmed.alike.method?]; exact hm') (by rw [v2]; show signaturePolymorphic k' meth' = false; simp [signaturePolymorphic, z2, howner.1, howner.2]) hstatic (by rw [v2]; exact hinit) hlen hstack]
  exact fun acts => hrest _
end SV
end
section
def jmax (x y : Int32) : Int32 := if x < y then y else x
def jmin (x y : Int32) : Int32 := if y < x then y else x
/-- reading the law's script -/
def sld {β : Type} (xs : Nat → Int32) (L : Nat) (i : Int32) (f : Int32 → Option β) : Option β := if ¬ (i < 0 ∨ L ≤ i.toNatClampNeg) then f (xs i.toNatClampNeg) else none
section RM
variable {α : Type} {p : Program} {l : Launch} {e : Env} {R : Room} {s : State} {m : MethodId} {args : Array Value} {below : List Frame} {meth : Method} {c : Code} {cc : ByteArray} {nL : Nat} {own : String} {fr lo : Nat} {ret : Option FieldType} {nme : String} {D : va_G} {dA : Nat → ClassId} {B n0 s0 : Nat} {Q : α → Hp → State → Prop} {pc : Nat} {lv : List (Nat × AV)} {st : List AV} {h : Hp} {f : Option (α × Hp)}
theorem j_mmax {idx : Nat} {x y : Int32} (hdg : decode cc pc = .ok (.invokestatic idx, 3)) (hl : Cond.methodLink own idx Lib.Math.max.name ∈ GT) (hs1 : Cond.static Lib.Math.max.name ∈ GT) (hi : Cond.initialized "java/lang/Math" ∈ GT) (hcd : Cond.code Lib.Math.max.name Lib.Math.max.code 2 (some .int) ∈ GT) (hfr : 1 ≤ fr) (hlo : 21 ≤ lo) (h8 : (st.map cat).sum ≤ 8) (k : J p l e R s m args below meth c cc nL own fr lo ret nme D dA B n0 s0 Q (pc + 3) lv (vi (jmax x y) :: st) h f) : J p l e R s m args below meth c cc nL own fr lo ret nme D dA B n0 s0 Q pc lv (vi y :: vi x :: st) h f := by
  intro r h' ef
  have k1 := k r h' ef
  refine ⟨k1.1, fun X c1 c2 H locs ls n1 n2 e1 e2 w1 w2 w3 => ?_⟩
  refine va_mmax X.x X.b (by rw [X.ml]; exact w3.1.symm) X.own (X.ts _ hl) (X.ts _ hs1) (X.ts _ hi) (X.ts _ hcd) (by rw [X.fr]; exact hfr) (by rw [X.lo, cat_sum]; omega) (by have := k1.1.1; omega) (by have := k1.1.2; omega) hdg ?_
  exact k1.2 X c1 c2 H locs ls n1 n2 e1 e2 w1 w2 w3
theorem j_mmin {idx : Nat} {x y : Int32} (hdg : decode cc pc = .ok (.invokestatic idx, 3)) (hl : Cond.methodLink own idx Lib.Math.min.name ∈ GT) (hs1 : Cond.static Lib.Math.min.name ∈ GT) (hi : Cond.initialized "java/lang/Math" ∈ GT) (hcd : Cond.code Lib.Math.min.name Lib.Math.min.code 2 (some .int) ∈ GT) (hfr : 1 ≤ fr) (hlo : 21 ≤ lo) (h8 : (st.map cat).sum ≤ 8) (k : J p l e R s m args below meth c cc nL own fr lo ret nme D dA B n0 s0 Q (pc + 3) lv (vi (jmin x y) :: st) h f) : J p l e R s m args below meth c cc nL own fr lo ret nme D dA B n0 s0 Q pc lv (vi y :: vi x :: st) h f := by
  intro r h' ef
  have k1 := k r h' ef
  refine ⟨k1.1, fun X c1 c2 H locs ls n1 n2 e1 e2 w1 w2 w3 => ?_⟩
  refine va_mmin X.x X.b (by rw [X.ml]; exact w3.1.symm) X.own (X.ts _ hl) (X.ts _ hs1) (X.ts _ hi) (X.ts _ hcd) (by rw [X.fr]; exact hfr) (by rw [X.lo, cat_sum]; omega) (by have := k1.1.1; omega) (by have := k1.1.2; omega) hdg ?_
  exact k1.2 X c1 c2 H locs ls n1 n2 e1 e2 w1 w2 w3
theorem j_sld {xs : Nat → Int32} {L b : Nat} (hX : va_X b L xs s s.heap) (hbl : b < s.heap.size) (hbA : ¬ B ≤ b) {i : Int32} {g : Int32 → Option (α × Hp)} (hdg : decode cc pc = .ok (.iaload, 1)) (kk : ∀ x : Int32, J p l e R s m args below meth c cc nL own fr lo ret nme D dA B n0 s0 Q (pc + 1) lv (vi x :: st) h (g x)) : J p l e R s m args below meth c cc nL own fr lo ret nme D dA B n0 s0 Q pc lv (vi i :: vb b :: st) h (sld xs L i g) := by
  intro r h' ef
  unfold sld at ef
  by_cases ho : ¬ (i < 0 ∨ L ≤ i.toNatClampNeg)
  · rw [if_pos ho] at ef
    exact ⟨(kk _ r h' ef).1, fun X c1 c2 H locs ls n1 n2 e1 e2 w1 w2 w3 => va_sld X.x X.b hX hbl hbA w2 ho hdg ((kk _ r h' ef).2 X c1 c2 H locs ls n1 n2 e1 e2 w1 w2 w3)⟩
  · rw [if_neg ho] at ef; cases ef
theorem j_slen {xs : Nat → Int32} {L b : Nat} (hX : va_X b L xs s s.heap) (hbl : b < s.heap.size) (hbA : ¬ B ≤ b) (hdg : decode cc pc = .ok (.arraylength, 1)) (k : J p l e R s m args below meth c cc nL own fr lo ret nme D dA B n0 s0 Q (pc + 1) lv (vi (Int32.ofNat L) :: st) h f) : J p l e R s m args below meth c cc nL own fr lo ret nme D dA B n0 s0 Q pc lv (vb b :: st) h f := by
  intro r h' ef
  exact ⟨(k r h' ef).1, fun X c1 c2 H locs ls n1 n2 e1 e2 w1 w2 w3 => va_slen X.x X.b hX hbl hbA w2 hdg ((k r h' ef).2 X c1 c2 H locs ls n1 n2 e1 e2 w1 w2 w3)⟩
/-- a static call through a class below -/
def SUp (own : String) (idx : Nat) (x y : MethodName) (b : ByteArray) (mL : Nat) (rt : Option FieldType) (n : Nat) : Prop := Cond.code y b mL rt ∈ GT ∧ Cond.initialized y.cls ∈ GT ∧ Cond.methodLink own idx x ∈ GT ∧ Cond.sameMethod x.cls y.cls x.name x.desc ∈ GT ∧ y = ⟨y.cls, x.name, x.desc⟩ ∧ (y.cls ≠ "java/lang/invoke/MethodHandle" ∧ y.cls ≠ "java/lang/invoke/VarHandle" ∧ (parseMethodDescriptor y.desc).map (fun d => d.parameters.length) = some n)
theorem runSUp {x y : MethodName} {bytes : ByteArray} {maxL mc ms n index fr' lo' : Nat} {rt : Option FieldType} {Pc : Array Value → State → Prop} {Qc : Array Value → State → Outcome → State → Prop} {free : Addr → Prop} {As rest : List Value} {g : JFrame} {H : Heap} {locs : List Loc} {cells slots : Nat} (X : Cx p R s m args meth c cc nL own fr lo ret nme D dA B n0) (S : SUp own index x y bytes maxL rt n) (S2 : Cond.static y ∈ GT) (hM : Met l y (Cond.code y bytes maxL rt :: GT) (rmo fr' lo' mc ms) Pc Qc mc ms free) (hfr : fr' + 1 ≤ fr) (hlo : 8 + (maxL + 11) + lo' ≤ lo) (hp : PreS s H Pc As)
    (hg : g.method = m) (hn : As.length = n) (hsize : g.locals.size = nL) (hstack : g.stack = As.reverse ++ rest) (hW : 2 * g.monitorRoom + (rest.map fun v => v.category).sum ≤ 8) (hdg : decode cc g.pc = .ok (.invokestatic index, 3)) (hf : cells + mc ≤ R.cells ∧ slots + ms ≤ R.slots) :
    va_Run p l e R s m args below meth c H locs cells slots mc ms g rest (Qc As.toArray) free := by
  obtain ⟨S1, S3, S4, S5, S6, S7, S8, S9⟩ := S
  have hK : Back l R p e below s args y 3 8 (PreOf R mc ms Pc) (PostOf Qc mc ms free) := back_of hM hp.1 rfl rfl (by rw [X.fr]; exact hfr) (by rw [X.lo]; exact hlo) (pay_in X.ts (good_ws S1)) List.mem_cons_self (fun a' U hU => word_at hU (good_of_word (gt_good S3)) (X.ts _ S3))
  intro T hT Y
  have hcode := X.ts _ S1
  obtain ⟨mk, hnamed⟩ := Cond.code_named hcode
  obtain ⟨methM, cM, hmethM, -, -, -, -, -, -, hsigM⟩ := Cond.code_spec hnamed hcode
  have hstatic : methM.isStatic = true := Cond.static_spec hnamed hmethM (X.ts _ S2)
  obtain ⟨kP, hkP, -⟩ := className_of_methodNamed hnamed
  have hinitP : kP.init = .initialized := Cond.initialized_spec (findClass_of_methodNamed hnamed) hkP (X.ts _ S3)
  have hlen : As.length = methM.sig.parameters.length := by
    rw [hsigM] at S9
    rw [hn]; exact (Option.some.inj S9).symm
  have hnamed' := hnamed
  rw [S6] at hnamed'
  obtain ⟨vm₁, X₁, hstep₁⟩ := su_step Y X.x X.own (X.ts _ S4) (X.ts _ S5) ⟨S7, S8⟩ hnamed' hmethM hstatic hkP hinitP hg hlen hstack (by rw [X.b]; exact hdg)
  obtain ⟨v, ⟨U', l2, c2, s2⟩, X', ⟨g', mk', t, L, e1, e2, hq, h1, hL, h2, h3⟩, hsteps⟩ := hK m meth c ⟨T.setVm vm₁, locs, cells, slots⟩ { g with stack := rest } (.invokestatic index) mk As.toArray X₁ hg (hsize.trans X.ml.symm) (by rw [X.b]; exact hdg) hW (X₁.named hnamed) ⟨hf.1, hf.2, hp.2 (T.setVm vm₁) hT X₁.warmed⟩
  dsimp only [Pt.U, Pt.locs, Pt.cells, Pt.slots] at X' e1 e2 h1 h2 h3 hsteps
  subst h1; subst h2; subst h3
  exact ⟨v, (T.setVm vm₁).calling g' mk' As.toArray, t, U', L, hT, X', hL, e1, e2, hq, fun target h => hstep₁ _ fun acts => by rw [doInvoke_state]; exact hsteps.trans h⟩
theorem j_uSI2 {x y : MethodName} {b : ByteArray} {mL idx fr' lo' : Nat} {rt : Option FieldType} {a1 a2 : AV} {F : Option (Int32 × Hp)} {g : Int32 → Hp → Option (α × Hp)} (hdg : decode cc pc = .ok (.invokestatic idx, 3)) (S : SUp own idx x y b mL rt 2) (S2 : Cond.static y ∈ GT) (hC : Ct l y b mL rt fr' lo' D dA B [a1, a2] h vI F) (hfr : fr' + 1 ≤ fr) (hlo : 8 + (mL + 11) + lo' ≤ lo) (h8 : (st.map cat).sum ≤ 8) (kk : ∀ (x : Int32) (h1 : Hp), J p l e R s m args below meth c cc nL own fr lo ret nme D dA B n0 s0 Q (pc + 3) lv (vi x :: st) h1 (g x h1)) : J p l e R s m args below meth c cc nL own fr lo ret nme D dA B n0 s0 Q pc lv (a2 :: a1 :: st) h (cl F g) := by
  refine j_run hC (as := ([a1, a2].map (val B)).toArray) (fun X r1 h1 H locs ls n1 n2 hM w1 wk w3 hf => runSUp (As := [a1, a2].map (val B)) X S S2 hM hfr hlo ⟨wk_blind, fun U hU hW => ⟨rfl, wk U hU hW⟩⟩ rfl rfl w3 rfl (rest_ok h8) hdg hf) kk
end RM
end
