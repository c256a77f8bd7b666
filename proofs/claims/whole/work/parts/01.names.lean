-- ===== PART A: goes FIRST, ahead of the names: the tables' words, and 'selects' of the private methods out of them =====
/-- a private method of a class that the tables say can be made, by its rows of tables_1 -/
def lw_okq (q : MethodName × Nat) : Prop := (q.1.cls ≠ "java/lang/invoke/MethodHandle" ∧ q.1.cls ≠ "java/lang/invoke/VarHandle") ∧ Cond.instantiable q.1.cls q.2 ∈ tables_1 ∧ Cond.privateMethod q.1 ∈ tables_1 ∧ Cond.instanceMethod q.1 ∈ tables_1
theorem lw_p0 : lw_okq (⟨"PenRoom$Staff", "deputiesOf", "(III)I"⟩, 13) := ⟨⟨by decide +kernel, by decide +kernel⟩, List.mem_of_getElem? (i := 23) (by decide +kernel), List.mem_of_getElem? (i := 317) (by decide +kernel), List.mem_of_getElem? (i := 318) (by decide +kernel)⟩
theorem lw_p1 : lw_okq (⟨"PenRoom$Staff", "standsOn", "(II)Z"⟩, 13) := ⟨⟨by decide +kernel, by decide +kernel⟩, List.mem_of_getElem? (i := 23) (by decide +kernel), List.mem_of_getElem? (i := 324) (by decide +kernel), List.mem_of_getElem? (i := 325) (by decide +kernel)⟩
theorem lw_p2 : lw_okq (⟨"PenRoom$Reader", "advance", "()V"⟩, 8) := ⟨⟨by decide +kernel, by decide +kernel⟩, List.mem_of_getElem? (i := 86) (by decide +kernel), List.mem_of_getElem? (i := 367) (by decide +kernel), List.mem_of_getElem? (i := 368) (by decide +kernel)⟩
theorem lw_p3 : lw_okq (⟨"PenRoom$Reader", "isLetter", "(I)Z"⟩, 8) := ⟨⟨by decide +kernel, by decide +kernel⟩, List.mem_of_getElem? (i := 86) (by decide +kernel), List.mem_of_getElem? (i := 371) (by decide +kernel), List.mem_of_getElem? (i := 372) (by decide +kernel)⟩
theorem lw_p4 : lw_okq (⟨"PenRoom$Reader", "skipLetters", "()V"⟩, 8) := ⟨⟨by decide +kernel, by decide +kernel⟩, List.mem_of_getElem? (i := 86) (by decide +kernel), List.mem_of_getElem? (i := 375) (by decide +kernel), List.mem_of_getElem? (i := 376) (by decide +kernel)⟩
theorem lw_p5 : lw_okq (⟨"PenRoom$Reader", "wordToken", "()I"⟩, 8) := ⟨⟨by decide +kernel, by decide +kernel⟩, List.mem_of_getElem? (i := 86) (by decide +kernel), List.mem_of_getElem? (i := 379) (by decide +kernel), List.mem_of_getElem? (i := 380) (by decide +kernel)⟩
theorem lw_p6 : lw_okq (⟨"PenRoom$Reader", "isDigit", "(I)Z"⟩, 8) := ⟨⟨by decide +kernel, by decide +kernel⟩, List.mem_of_getElem? (i := 86) (by decide +kernel), List.mem_of_getElem? (i := 432) (by decide +kernel), List.mem_of_getElem? (i := 433) (by decide +kernel)⟩
theorem lw_p7 : lw_okq (⟨"PenRoom$Reader", "readNumber", "()V"⟩, 8) := ⟨⟨by decide +kernel, by decide +kernel⟩, List.mem_of_getElem? (i := 86) (by decide +kernel), List.mem_of_getElem? (i := 436) (by decide +kernel), List.mem_of_getElem? (i := 437) (by decide +kernel)⟩
theorem lw_p8 : lw_okq (⟨"PenRoom$Reader", "readLimit", "(LPenRoom$RuleBook;)Z"⟩, 8) := ⟨⟨by decide +kernel, by decide +kernel⟩, List.mem_of_getElem? (i := 86) (by decide +kernel), List.mem_of_getElem? (i := 443) (by decide +kernel), List.mem_of_getElem? (i := 444) (by decide +kernel)⟩
theorem lw_p9 : lw_okq (⟨"PenRoom$Reader", "wrongToken", "()Z"⟩, 8) := ⟨⟨by decide +kernel, by decide +kernel⟩, List.mem_of_getElem? (i := 86) (by decide +kernel), List.mem_of_getElem? (i := 451) (by decide +kernel), List.mem_of_getElem? (i := 452) (by decide +kernel)⟩
theorem lw_p10 : lw_okq (⟨"PenRoom$Reader", "wrong", "(I)Z"⟩, 8) := ⟨⟨by decide +kernel, by decide +kernel⟩, List.mem_of_getElem? (i := 86) (by decide +kernel), List.mem_of_getElem? (i := 455) (by decide +kernel), List.mem_of_getElem? (i := 456) (by decide +kernel)⟩
theorem lw_p11 : lw_okq (⟨"PenRoom$Reader", "isRole", "()Z"⟩, 8) := ⟨⟨by decide +kernel, by decide +kernel⟩, List.mem_of_getElem? (i := 86) (by decide +kernel), List.mem_of_getElem? (i := 459) (by decide +kernel), List.mem_of_getElem? (i := 460) (by decide +kernel)⟩
theorem lw_p12 : lw_okq (⟨"PenRoom$Reader", "readAmount", "(I)I"⟩, 8) := ⟨⟨by decide +kernel, by decide +kernel⟩, List.mem_of_getElem? (i := 86) (by decide +kernel), List.mem_of_getElem? (i := 467) (by decide +kernel), List.mem_of_getElem? (i := 468) (by decide +kernel)⟩
theorem lw_p13 : lw_okq (⟨"PenRoom$Reader", "take", "(I)Z"⟩, 8) := ⟨⟨by decide +kernel, by decide +kernel⟩, List.mem_of_getElem? (i := 86) (by decide +kernel), List.mem_of_getElem? (i := 476) (by decide +kernel), List.mem_of_getElem? (i := 477) (by decide +kernel)⟩
theorem lw_p14 : lw_okq (⟨"PenRoom$Reader", "readKind", "(LPenRoom$RuleBook;)Z"⟩, 8) := ⟨⟨by decide +kernel, by decide +kernel⟩, List.mem_of_getElem? (i := 86) (by decide +kernel), List.mem_of_getElem? (i := 480) (by decide +kernel), List.mem_of_getElem? (i := 481) (by decide +kernel)⟩
theorem lw_p15 : lw_okq (⟨"PenRoom$Reader", "readEither", "(LPenRoom$RuleBook;I)Z"⟩, 8) := ⟨⟨by decide +kernel, by decide +kernel⟩, List.mem_of_getElem? (i := 86) (by decide +kernel), List.mem_of_getElem? (i := 493) (by decide +kernel), List.mem_of_getElem? (i := 494) (by decide +kernel)⟩
def lw_privs_1 : List (MethodName × Nat) := [(⟨"PenRoom$Staff", "deputiesOf", "(III)I"⟩, 13), (⟨"PenRoom$Staff", "standsOn", "(II)Z"⟩, 13), (⟨"PenRoom$Reader", "advance", "()V"⟩, 8), (⟨"PenRoom$Reader", "isLetter", "(I)Z"⟩, 8), (⟨"PenRoom$Reader", "skipLetters", "()V"⟩, 8), (⟨"PenRoom$Reader", "wordToken", "()I"⟩, 8), (⟨"PenRoom$Reader", "isDigit", "(I)Z"⟩, 8), (⟨"PenRoom$Reader", "readNumber", "()V"⟩, 8), (⟨"PenRoom$Reader", "readLimit", "(LPenRoom$RuleBook;)Z"⟩, 8), (⟨"PenRoom$Reader", "wrongToken", "()Z"⟩, 8), (⟨"PenRoom$Reader", "wrong", "(I)Z"⟩, 8), (⟨"PenRoom$Reader", "isRole", "()Z"⟩, 8), (⟨"PenRoom$Reader", "readAmount", "(I)I"⟩, 8), (⟨"PenRoom$Reader", "take", "(I)Z"⟩, 8), (⟨"PenRoom$Reader", "readKind", "(LPenRoom$RuleBook;)Z"⟩, 8), (⟨"PenRoom$Reader", "readEither", "(LPenRoom$RuleBook;I)Z"⟩, 8)]
theorem lw_r1 : ∀ q ∈ lw_privs_1, lw_okq q := List.forall_mem_cons.mpr ⟨lw_p0, List.forall_mem_cons.mpr ⟨lw_p1, List.forall_mem_cons.mpr ⟨lw_p2, List.forall_mem_cons.mpr ⟨lw_p3, List.forall_mem_cons.mpr ⟨lw_p4, List.forall_mem_cons.mpr ⟨lw_p5, List.forall_mem_cons.mpr ⟨lw_p6, List.forall_mem_cons.mpr ⟨lw_p7, List.forall_mem_cons.mpr ⟨lw_p8, List.forall_mem_cons.mpr ⟨lw_p9, List.forall_mem_cons.mpr ⟨lw_p10, List.forall_mem_cons.mpr ⟨lw_p11, List.forall_mem_cons.mpr ⟨lw_p12, List.forall_mem_cons.mpr ⟨lw_p13, List.forall_mem_cons.mpr ⟨lw_p14, List.forall_mem_cons.mpr ⟨lw_p15, fun _ h => absurd h List.not_mem_nil⟩⟩⟩⟩⟩⟩⟩⟩⟩⟩⟩⟩⟩⟩⟩⟩
theorem lw_p16 : lw_okq (⟨"PenRoom$Reader", "readOne", "(LPenRoom$RuleBook;I)Z"⟩, 8) := ⟨⟨by decide +kernel, by decide +kernel⟩, List.mem_of_getElem? (i := 86) (by decide +kernel), List.mem_of_getElem? (i := 497) (by decide +kernel), List.mem_of_getElem? (i := 498) (by decide +kernel)⟩
theorem lw_p17 : lw_okq (⟨"PenRoom$Reader", "readSumTest", "(LPenRoom$RuleBook;)Z"⟩, 8) := ⟨⟨by decide +kernel, by decide +kernel⟩, List.mem_of_getElem? (i := 86) (by decide +kernel), List.mem_of_getElem? (i := 505) (by decide +kernel), List.mem_of_getElem? (i := 506) (by decide +kernel)⟩
theorem lw_p18 : lw_okq (⟨"PenRoom$Reader", "readPlaceTest", "(LPenRoom$RuleBook;)Z"⟩, 8) := ⟨⟨by decide +kernel, by decide +kernel⟩, List.mem_of_getElem? (i := 86) (by decide +kernel), List.mem_of_getElem? (i := 518) (by decide +kernel), List.mem_of_getElem? (i := 519) (by decide +kernel)⟩
theorem lw_p19 : lw_okq (⟨"PenRoom$Reader", "readUrgentTest", "(LPenRoom$RuleBook;)Z"⟩, 8) := ⟨⟨by decide +kernel, by decide +kernel⟩, List.mem_of_getElem? (i := 86) (by decide +kernel), List.mem_of_getElem? (i := 522) (by decide +kernel), List.mem_of_getElem? (i := 523) (by decide +kernel)⟩
theorem lw_p20 : lw_okq (⟨"PenRoom$Reader", "readSteps", "(LPenRoom$RuleBook;)Z"⟩, 8) := ⟨⟨by decide +kernel, by decide +kernel⟩, List.mem_of_getElem? (i := 86) (by decide +kernel), List.mem_of_getElem? (i := 526) (by decide +kernel), List.mem_of_getElem? (i := 527) (by decide +kernel)⟩
theorem lw_p21 : lw_okq (⟨"PenRoom$Reader", "readNeed", "(LPenRoom$RuleBook;I)Z"⟩, 8) := ⟨⟨by decide +kernel, by decide +kernel⟩, List.mem_of_getElem? (i := 86) (by decide +kernel), List.mem_of_getElem? (i := 530) (by decide +kernel), List.mem_of_getElem? (i := 531) (by decide +kernel)⟩
theorem lw_p22 : lw_okq (⟨"PenRoom", "canBePaper", "(III)Z"⟩, 10) := ⟨⟨by decide +kernel, by decide +kernel⟩, List.mem_of_getElem? (i := 15) (by decide +kernel), List.mem_of_getElem? (i := 567) (by decide +kernel), List.mem_of_getElem? (i := 568) (by decide +kernel)⟩
theorem lw_p23 : lw_okq (⟨"PenRoom", "begin", "(I)V"⟩, 10) := ⟨⟨by decide +kernel, by decide +kernel⟩, List.mem_of_getElem? (i := 15) (by decide +kernel), List.mem_of_getElem? (i := 657) (by decide +kernel), List.mem_of_getElem? (i := 658) (by decide +kernel)⟩
theorem lw_p24 : lw_okq (⟨"PenRoom$RuleBook", "holds", "(IIIZ)Z"⟩, 14) := ⟨⟨by decide +kernel, by decide +kernel⟩, List.mem_of_getElem? (i := 161) (by decide +kernel), List.mem_of_getElem? (i := 677) (by decide +kernel), List.mem_of_getElem? (i := 678) (by decide +kernel)⟩
theorem lw_p25 : lw_okq (⟨"PenRoom$RuleBook", "passes", "(IIIZ)Z"⟩, 14) := ⟨⟨by decide +kernel, by decide +kernel⟩, List.mem_of_getElem? (i := 161) (by decide +kernel), List.mem_of_getElem? (i := 681) (by decide +kernel), List.mem_of_getElem? (i := 682) (by decide +kernel)⟩
theorem lw_p26 : lw_okq (⟨"PenRoom$Search", "takeOff", "(LPenRoom$Paper;I)V"⟩, 12) := ⟨⟨by decide +kernel, by decide +kernel⟩, List.mem_of_getElem? (i := 118) (by decide +kernel), List.mem_of_getElem? (i := 731) (by decide +kernel), List.mem_of_getElem? (i := 732) (by decide +kernel)⟩
theorem lw_p27 : lw_okq (⟨"PenRoom$Search", "room", "(II)I"⟩, 12) := ⟨⟨by decide +kernel, by decide +kernel⟩, List.mem_of_getElem? (i := 118) (by decide +kernel), List.mem_of_getElem? (i := 753) (by decide +kernel), List.mem_of_getElem? (i := 754) (by decide +kernel)⟩
theorem lw_p28 : lw_okq (⟨"PenRoom$Search", "addOpen", "(II)V"⟩, 12) := ⟨⟨by decide +kernel, by decide +kernel⟩, List.mem_of_getElem? (i := 118) (by decide +kernel), List.mem_of_getElem? (i := 800) (by decide +kernel), List.mem_of_getElem? (i := 801) (by decide +kernel)⟩
theorem lw_p29 : lw_okq (⟨"PenRoom$Search", "seekFrom", "(II)Z"⟩, 12) := ⟨⟨by decide +kernel, by decide +kernel⟩, List.mem_of_getElem? (i := 118) (by decide +kernel), List.mem_of_getElem? (i := 808) (by decide +kernel), List.mem_of_getElem? (i := 809) (by decide +kernel)⟩
theorem lw_p30 : lw_okq (⟨"PenRoom", "seekByRule", "(IIII)I"⟩, 10) := ⟨⟨by decide +kernel, by decide +kernel⟩, List.mem_of_getElem? (i := 15) (by decide +kernel), List.mem_of_getElem? (i := 837) (by decide +kernel), List.mem_of_getElem? (i := 838) (by decide +kernel)⟩
theorem lw_p31 : lw_okq (⟨"PenRoom", "nextSum", "(III)I"⟩, 10) := ⟨⟨by decide +kernel, by decide +kernel⟩, List.mem_of_getElem? (i := 15) (by decide +kernel), List.mem_of_getElem? (i := 853) (by decide +kernel), List.mem_of_getElem? (i := 854) (by decide +kernel)⟩
def lw_privs_2 : List (MethodName × Nat) := [(⟨"PenRoom$Reader", "readOne", "(LPenRoom$RuleBook;I)Z"⟩, 8), (⟨"PenRoom$Reader", "readSumTest", "(LPenRoom$RuleBook;)Z"⟩, 8), (⟨"PenRoom$Reader", "readPlaceTest", "(LPenRoom$RuleBook;)Z"⟩, 8), (⟨"PenRoom$Reader", "readUrgentTest", "(LPenRoom$RuleBook;)Z"⟩, 8), (⟨"PenRoom$Reader", "readSteps", "(LPenRoom$RuleBook;)Z"⟩, 8), (⟨"PenRoom$Reader", "readNeed", "(LPenRoom$RuleBook;I)Z"⟩, 8), (⟨"PenRoom", "canBePaper", "(III)Z"⟩, 10), (⟨"PenRoom", "begin", "(I)V"⟩, 10), (⟨"PenRoom$RuleBook", "holds", "(IIIZ)Z"⟩, 14), (⟨"PenRoom$RuleBook", "passes", "(IIIZ)Z"⟩, 14), (⟨"PenRoom$Search", "takeOff", "(LPenRoom$Paper;I)V"⟩, 12), (⟨"PenRoom$Search", "room", "(II)I"⟩, 12), (⟨"PenRoom$Search", "addOpen", "(II)V"⟩, 12), (⟨"PenRoom$Search", "seekFrom", "(II)Z"⟩, 12), (⟨"PenRoom", "seekByRule", "(IIII)I"⟩, 10), (⟨"PenRoom", "nextSum", "(III)I"⟩, 10)]
theorem lw_r2 : ∀ q ∈ lw_privs_2, lw_okq q := List.forall_mem_cons.mpr ⟨lw_p16, List.forall_mem_cons.mpr ⟨lw_p17, List.forall_mem_cons.mpr ⟨lw_p18, List.forall_mem_cons.mpr ⟨lw_p19, List.forall_mem_cons.mpr ⟨lw_p20, List.forall_mem_cons.mpr ⟨lw_p21, List.forall_mem_cons.mpr ⟨lw_p22, List.forall_mem_cons.mpr ⟨lw_p23, List.forall_mem_cons.mpr ⟨lw_p24, List.forall_mem_cons.mpr ⟨lw_p25, List.forall_mem_cons.mpr ⟨lw_p26, List.forall_mem_cons.mpr ⟨lw_p27, List.forall_mem_cons.mpr ⟨lw_p28, List.forall_mem_cons.mpr ⟨lw_p29, List.forall_mem_cons.mpr ⟨lw_p30, List.forall_mem_cons.mpr ⟨lw_p31, fun _ h => absurd h List.not_mem_nil⟩⟩⟩⟩⟩⟩⟩⟩⟩⟩⟩⟩⟩⟩⟩⟩
theorem lw_p32 : lw_okq (⟨"PenRoom$RuleBook", "changePoint", "(II)I"⟩, 14) := ⟨⟨by decide +kernel, by decide +kernel⟩, List.mem_of_getElem? (i := 161) (by decide +kernel), List.mem_of_getElem? (i := 873) (by decide +kernel), List.mem_of_getElem? (i := 874) (by decide +kernel)⟩
theorem lw_p33 : lw_okq (⟨"PenRoomModel", "isPerson", "(I)Z"⟩, 74) := ⟨⟨by decide +kernel, by decide +kernel⟩, List.mem_of_getElem? (i := 897) (by decide +kernel), List.mem_of_getElem? (i := 1135) (by decide +kernel), List.mem_of_getElem? (i := 1136) (by decide +kernel)⟩
theorem lw_p34 : lw_okq (⟨"PenRoomModel", "actsFor", "(III)I"⟩, 74) := ⟨⟨by decide +kernel, by decide +kernel⟩, List.mem_of_getElem? (i := 897) (by decide +kernel), List.mem_of_getElem? (i := 1160) (by decide +kernel), List.mem_of_getElem? (i := 1161) (by decide +kernel)⟩
theorem lw_p35 : lw_okq (⟨"PenRoomModel", "isAway", "(II)Z"⟩, 74) := ⟨⟨by decide +kernel, by decide +kernel⟩, List.mem_of_getElem? (i := 897) (by decide +kernel), List.mem_of_getElem? (i := 1164) (by decide +kernel), List.mem_of_getElem? (i := 1165) (by decide +kernel)⟩
theorem lw_p36 : lw_okq (⟨"PenRoomModel", "next", "()V"⟩, 74) := ⟨⟨by decide +kernel, by decide +kernel⟩, List.mem_of_getElem? (i := 897) (by decide +kernel), List.mem_of_getElem? (i := 1176) (by decide +kernel), List.mem_of_getElem? (i := 1177) (by decide +kernel)⟩
theorem lw_p37 : lw_okq (⟨"PenRoomModel", "byteAt", "(I)I"⟩, 74) := ⟨⟨by decide +kernel, by decide +kernel⟩, List.mem_of_getElem? (i := 897) (by decide +kernel), List.mem_of_getElem? (i := 1180) (by decide +kernel), List.mem_of_getElem? (i := 1181) (by decide +kernel)⟩
theorem lw_p38 : lw_okq (⟨"PenRoomModel", "isGood", "()Z"⟩, 74) := ⟨⟨by decide +kernel, by decide +kernel⟩, List.mem_of_getElem? (i := 897) (by decide +kernel), List.mem_of_getElem? (i := 1190) (by decide +kernel), List.mem_of_getElem? (i := 1191) (by decide +kernel)⟩
theorem lw_p39 : lw_okq (⟨"PenRoomModel", "readLine", "()V"⟩, 74) := ⟨⟨by decide +kernel, by decide +kernel⟩, List.mem_of_getElem? (i := 897) (by decide +kernel), List.mem_of_getElem? (i := 1194) (by decide +kernel), List.mem_of_getElem? (i := 1195) (by decide +kernel)⟩
theorem lw_p40 : lw_okq (⟨"PenRoomModel", "isWord", "(J)Z"⟩, 74) := ⟨⟨by decide +kernel, by decide +kernel⟩, List.mem_of_getElem? (i := 897) (by decide +kernel), List.mem_of_getElem? (i := 1199) (by decide +kernel), List.mem_of_getElem? (i := 1200) (by decide +kernel)⟩
theorem lw_p41 : lw_okq (⟨"PenRoomModel", "wrong", "()V"⟩, 74) := ⟨⟨by decide +kernel, by decide +kernel⟩, List.mem_of_getElem? (i := 897) (by decide +kernel), List.mem_of_getElem? (i := 1204) (by decide +kernel), List.mem_of_getElem? (i := 1205) (by decide +kernel)⟩
theorem lw_p42 : lw_okq (⟨"PenRoomModel", "fails", "(II)V"⟩, 74) := ⟨⟨by decide +kernel, by decide +kernel⟩, List.mem_of_getElem? (i := 897) (by decide +kernel), List.mem_of_getElem? (i := 1208) (by decide +kernel), List.mem_of_getElem? (i := 1209) (by decide +kernel)⟩
theorem lw_p43 : lw_okq (⟨"PenRoomModel", "readRule", "()V"⟩, 74) := ⟨⟨by decide +kernel, by decide +kernel⟩, List.mem_of_getElem? (i := 897) (by decide +kernel), List.mem_of_getElem? (i := 1212) (by decide +kernel), List.mem_of_getElem? (i := 1213) (by decide +kernel)⟩
theorem lw_p44 : lw_okq (⟨"PenRoomModel", "kindHere", "()I"⟩, 74) := ⟨⟨by decide +kernel, by decide +kernel⟩, List.mem_of_getElem? (i := 897) (by decide +kernel), List.mem_of_getElem? (i := 1216) (by decide +kernel), List.mem_of_getElem? (i := 1217) (by decide +kernel)⟩
theorem lw_p45 : lw_okq (⟨"PenRoomModel", "e", "()V"⟩, 74) := ⟨⟨by decide +kernel, by decide +kernel⟩, List.mem_of_getElem? (i := 897) (by decide +kernel), List.mem_of_getElem? (i := 1225) (by decide +kernel), List.mem_of_getElem? (i := 1226) (by decide +kernel)⟩
theorem lw_p46 : lw_okq (⟨"PenRoomModel", "pile", "(I)V"⟩, 74) := ⟨⟨by decide +kernel, by decide +kernel⟩, List.mem_of_getElem? (i := 897) (by decide +kernel), List.mem_of_getElem? (i := 1229) (by decide +kernel), List.mem_of_getElem? (i := 1230) (by decide +kernel)⟩
theorem lw_p47 : lw_okq (⟨"PenRoomModel", "one", "()Z"⟩, 74) := ⟨⟨by decide +kernel, by decide +kernel⟩, List.mem_of_getElem? (i := 897) (by decide +kernel), List.mem_of_getElem? (i := 1233) (by decide +kernel), List.mem_of_getElem? (i := 1234) (by decide +kernel)⟩
def lw_privs_3 : List (MethodName × Nat) := [(⟨"PenRoom$RuleBook", "changePoint", "(II)I"⟩, 14), (⟨"PenRoomModel", "isPerson", "(I)Z"⟩, 74), (⟨"PenRoomModel", "actsFor", "(III)I"⟩, 74), (⟨"PenRoomModel", "isAway", "(II)Z"⟩, 74), (⟨"PenRoomModel", "next", "()V"⟩, 74), (⟨"PenRoomModel", "byteAt", "(I)I"⟩, 74), (⟨"PenRoomModel", "isGood", "()Z"⟩, 74), (⟨"PenRoomModel", "readLine", "()V"⟩, 74), (⟨"PenRoomModel", "isWord", "(J)Z"⟩, 74), (⟨"PenRoomModel", "wrong", "()V"⟩, 74), (⟨"PenRoomModel", "fails", "(II)V"⟩, 74), (⟨"PenRoomModel", "readRule", "()V"⟩, 74), (⟨"PenRoomModel", "kindHere", "()I"⟩, 74), (⟨"PenRoomModel", "e", "()V"⟩, 74), (⟨"PenRoomModel", "pile", "(I)V"⟩, 74), (⟨"PenRoomModel", "one", "()Z"⟩, 74)]
theorem lw_r3 : ∀ q ∈ lw_privs_3, lw_okq q := List.forall_mem_cons.mpr ⟨lw_p32, List.forall_mem_cons.mpr ⟨lw_p33, List.forall_mem_cons.mpr ⟨lw_p34, List.forall_mem_cons.mpr ⟨lw_p35, List.forall_mem_cons.mpr ⟨lw_p36, List.forall_mem_cons.mpr ⟨lw_p37, List.forall_mem_cons.mpr ⟨lw_p38, List.forall_mem_cons.mpr ⟨lw_p39, List.forall_mem_cons.mpr ⟨lw_p40, List.forall_mem_cons.mpr ⟨lw_p41, List.forall_mem_cons.mpr ⟨lw_p42, List.forall_mem_cons.mpr ⟨lw_p43, List.forall_mem_cons.mpr ⟨lw_p44, List.forall_mem_cons.mpr ⟨lw_p45, List.forall_mem_cons.mpr ⟨lw_p46, List.forall_mem_cons.mpr ⟨lw_p47, fun _ h => absurd h List.not_mem_nil⟩⟩⟩⟩⟩⟩⟩⟩⟩⟩⟩⟩⟩⟩⟩⟩
theorem lw_p48 : lw_okq (⟨"PenRoomModel", "is", "(I)Z"⟩, 74) := ⟨⟨by decide +kernel, by decide +kernel⟩, List.mem_of_getElem? (i := 897) (by decide +kernel), List.mem_of_getElem? (i := 1237) (by decide +kernel), List.mem_of_getElem? (i := 1238) (by decide +kernel)⟩
theorem lw_p49 : lw_okq (⟨"PenRoomModel", "put", "(II)V"⟩, 74) := ⟨⟨by decide +kernel, by decide +kernel⟩, List.mem_of_getElem? (i := 897) (by decide +kernel), List.mem_of_getElem? (i := 1245) (by decide +kernel), List.mem_of_getElem? (i := 1246) (by decide +kernel)⟩
theorem lw_p50 : lw_okq (⟨"PenRoomModel", "must", "(I)V"⟩, 74) := ⟨⟨by decide +kernel, by decide +kernel⟩, List.mem_of_getElem? (i := 897) (by decide +kernel), List.mem_of_getElem? (i := 1249) (by decide +kernel), List.mem_of_getElem? (i := 1250) (by decide +kernel)⟩
theorem lw_p51 : lw_okq (⟨"PenRoomModel", "numeral", "()I"⟩, 74) := ⟨⟨by decide +kernel, by decide +kernel⟩, List.mem_of_getElem? (i := 897) (by decide +kernel), List.mem_of_getElem? (i := 1253) (by decide +kernel), List.mem_of_getElem? (i := 1254) (by decide +kernel)⟩
theorem lw_p52 : lw_okq (⟨"PenRoomModel", "behind", "()Z"⟩, 74) := ⟨⟨by decide +kernel, by decide +kernel⟩, List.mem_of_getElem? (i := 897) (by decide +kernel), List.mem_of_getElem? (i := 1257) (by decide +kernel), List.mem_of_getElem? (i := 1258) (by decide +kernel)⟩
theorem lw_p53 : lw_okq (⟨"PenRoomModel", "readStep", "(II)V"⟩, 74) := ⟨⟨by decide +kernel, by decide +kernel⟩, List.mem_of_getElem? (i := 897) (by decide +kernel), List.mem_of_getElem? (i := 1263) (by decide +kernel), List.mem_of_getElem? (i := 1264) (by decide +kernel)⟩
theorem lw_p54 : lw_okq (⟨"PenRoomModel", "roleHere", "()I"⟩, 74) := ⟨⟨by decide +kernel, by decide +kernel⟩, List.mem_of_getElem? (i := 897) (by decide +kernel), List.mem_of_getElem? (i := 1267) (by decide +kernel), List.mem_of_getElem? (i := 1268) (by decide +kernel)⟩
theorem lw_p55 : lw_okq (⟨"PenRoomModel", "readLimit", "()V"⟩, 74) := ⟨⟨by decide +kernel, by decide +kernel⟩, List.mem_of_getElem? (i := 897) (by decide +kernel), List.mem_of_getElem? (i := 1280) (by decide +kernel), List.mem_of_getElem? (i := 1281) (by decide +kernel)⟩
theorem lw_p56 : lw_okq (⟨"PenRoomModel", "set", "(IIIIIZ)V"⟩, 74) := ⟨⟨by decide +kernel, by decide +kernel⟩, List.mem_of_getElem? (i := 897) (by decide +kernel), List.mem_of_getElem? (i := 1301) (by decide +kernel), List.mem_of_getElem? (i := 1302) (by decide +kernel)⟩
theorem lw_p57 : lw_okq (⟨"PenRoomModel", "begin", "(II)V"⟩, 74) := ⟨⟨by decide +kernel, by decide +kernel⟩, List.mem_of_getElem? (i := 897) (by decide +kernel), List.mem_of_getElem? (i := 1305) (by decide +kernel), List.mem_of_getElem? (i := 1306) (by decide +kernel)⟩
theorem lw_p58 : lw_okq (⟨"PenRoomModel", "others", "(IIIII)J"⟩, 74) := ⟨⟨by decide +kernel, by decide +kernel⟩, List.mem_of_getElem? (i := 897) (by decide +kernel), List.mem_of_getElem? (i := 1309) (by decide +kernel), List.mem_of_getElem? (i := 1310) (by decide +kernel)⟩
theorem lw_p59 : lw_okq (⟨"PenRoomModel", "ruleFor", "(IJIZ)I"⟩, 74) := ⟨⟨by decide +kernel, by decide +kernel⟩, List.mem_of_getElem? (i := 897) (by decide +kernel), List.mem_of_getElem? (i := 1313) (by decide +kernel), List.mem_of_getElem? (i := 1314) (by decide +kernel)⟩
theorem lw_p60 : lw_okq (⟨"PenRoomModel", "holds", "(IJIZ)Z"⟩, 74) := ⟨⟨by decide +kernel, by decide +kernel⟩, List.mem_of_getElem? (i := 897) (by decide +kernel), List.mem_of_getElem? (i := 1317) (by decide +kernel), List.mem_of_getElem? (i := 1318) (by decide +kernel)⟩
theorem lw_p61 : lw_okq (⟨"PenRoomModel", "isPaper", "(I)Z"⟩, 74) := ⟨⟨by decide +kernel, by decide +kernel⟩, List.mem_of_getElem? (i := 897) (by decide +kernel), List.mem_of_getElem? (i := 1325) (by decide +kernel), List.mem_of_getElem? (i := 1326) (by decide +kernel)⟩
theorem lw_p62 : lw_okq (⟨"PenRoomModel", "signedOf", "(I)I"⟩, 74) := ⟨⟨by decide +kernel, by decide +kernel⟩, List.mem_of_getElem? (i := 897) (by decide +kernel), List.mem_of_getElem? (i := 1329) (by decide +kernel), List.mem_of_getElem? (i := 1330) (by decide +kernel)⟩
theorem lw_p63 : lw_okq (⟨"PenRoomModel", "stepOf", "(I)I"⟩, 74) := ⟨⟨by decide +kernel, by decide +kernel⟩, List.mem_of_getElem? (i := 897) (by decide +kernel), List.mem_of_getElem? (i := 1333) (by decide +kernel), List.mem_of_getElem? (i := 1334) (by decide +kernel)⟩
def lw_privs_4 : List (MethodName × Nat) := [(⟨"PenRoomModel", "is", "(I)Z"⟩, 74), (⟨"PenRoomModel", "put", "(II)V"⟩, 74), (⟨"PenRoomModel", "must", "(I)V"⟩, 74), (⟨"PenRoomModel", "numeral", "()I"⟩, 74), (⟨"PenRoomModel", "behind", "()Z"⟩, 74), (⟨"PenRoomModel", "readStep", "(II)V"⟩, 74), (⟨"PenRoomModel", "roleHere", "()I"⟩, 74), (⟨"PenRoomModel", "readLimit", "()V"⟩, 74), (⟨"PenRoomModel", "set", "(IIIIIZ)V"⟩, 74), (⟨"PenRoomModel", "begin", "(II)V"⟩, 74), (⟨"PenRoomModel", "others", "(IIIII)J"⟩, 74), (⟨"PenRoomModel", "ruleFor", "(IJIZ)I"⟩, 74), (⟨"PenRoomModel", "holds", "(IJIZ)Z"⟩, 74), (⟨"PenRoomModel", "isPaper", "(I)Z"⟩, 74), (⟨"PenRoomModel", "signedOf", "(I)I"⟩, 74), (⟨"PenRoomModel", "stepOf", "(I)I"⟩, 74)]
theorem lw_r4 : ∀ q ∈ lw_privs_4, lw_okq q := List.forall_mem_cons.mpr ⟨lw_p48, List.forall_mem_cons.mpr ⟨lw_p49, List.forall_mem_cons.mpr ⟨lw_p50, List.forall_mem_cons.mpr ⟨lw_p51, List.forall_mem_cons.mpr ⟨lw_p52, List.forall_mem_cons.mpr ⟨lw_p53, List.forall_mem_cons.mpr ⟨lw_p54, List.forall_mem_cons.mpr ⟨lw_p55, List.forall_mem_cons.mpr ⟨lw_p56, List.forall_mem_cons.mpr ⟨lw_p57, List.forall_mem_cons.mpr ⟨lw_p58, List.forall_mem_cons.mpr ⟨lw_p59, List.forall_mem_cons.mpr ⟨lw_p60, List.forall_mem_cons.mpr ⟨lw_p61, List.forall_mem_cons.mpr ⟨lw_p62, List.forall_mem_cons.mpr ⟨lw_p63, fun _ h => absurd h List.not_mem_nil⟩⟩⟩⟩⟩⟩⟩⟩⟩⟩⟩⟩⟩⟩⟩⟩
theorem lw_p64 : lw_okq (⟨"PenRoomModel", "signedBy", "(IIIZ)J"⟩, 74) := ⟨⟨by decide +kernel, by decide +kernel⟩, List.mem_of_getElem? (i := 897) (by decide +kernel), List.mem_of_getElem? (i := 1346) (by decide +kernel), List.mem_of_getElem? (i := 1347) (by decide +kernel)⟩
theorem lw_p65 : lw_okq (⟨"PenRoomModel", "isOpen", "(II)Z"⟩, 74) := ⟨⟨by decide +kernel, by decide +kernel⟩, List.mem_of_getElem? (i := 897) (by decide +kernel), List.mem_of_getElem? (i := 1354) (by decide +kernel), List.mem_of_getElem? (i := 1355) (by decide +kernel)⟩
theorem lw_p66 : lw_okq (⟨"PenRoomModel", "lookAt", "(I)V"⟩, 74) := ⟨⟨by decide +kernel, by decide +kernel⟩, List.mem_of_getElem? (i := 897) (by decide +kernel), List.mem_of_getElem? (i := 1358) (by decide +kernel), List.mem_of_getElem? (i := 1359) (by decide +kernel)⟩
theorem lw_p67 : lw_okq (⟨"PenRoomModel", "fits", "(IIIII)Z"⟩, 74) := ⟨⟨by decide +kernel, by decide +kernel⟩, List.mem_of_getElem? (i := 897) (by decide +kernel), List.mem_of_getElem? (i := 1362) (by decide +kernel), List.mem_of_getElem? (i := 1363) (by decide +kernel)⟩
theorem lw_p68 : lw_okq (⟨"PenRoomModel", "room", "(II)J"⟩, 74) := ⟨⟨by decide +kernel, by decide +kernel⟩, List.mem_of_getElem? (i := 897) (by decide +kernel), List.mem_of_getElem? (i := 1366) (by decide +kernel), List.mem_of_getElem? (i := 1367) (by decide +kernel)⟩
theorem lw_p69 : lw_okq (⟨"PenRoomModel", "seek", "(II)I"⟩, 74) := ⟨⟨by decide +kernel, by decide +kernel⟩, List.mem_of_getElem? (i := 897) (by decide +kernel), List.mem_of_getElem? (i := 1383) (by decide +kernel), List.mem_of_getElem? (i := 1384) (by decide +kernel)⟩
theorem lw_p70 : lw_okq (⟨"PenRoomModel", "nextBelow", "(JJ)J"⟩, 74) := ⟨⟨by decide +kernel, by decide +kernel⟩, List.mem_of_getElem? (i := 897) (by decide +kernel), List.mem_of_getElem? (i := 1399) (by decide +kernel), List.mem_of_getElem? (i := 1400) (by decide +kernel)⟩
theorem lw_p71 : lw_okq (⟨"PenRoomModel", "mayBe", "(J)V"⟩, 74) := ⟨⟨by decide +kernel, by decide +kernel⟩, List.mem_of_getElem? (i := 897) (by decide +kernel), List.mem_of_getElem? (i := 1403) (by decide +kernel), List.mem_of_getElem? (i := 1404) (by decide +kernel)⟩
def lw_privs_5 : List (MethodName × Nat) := [(⟨"PenRoomModel", "signedBy", "(IIIZ)J"⟩, 74), (⟨"PenRoomModel", "isOpen", "(II)Z"⟩, 74), (⟨"PenRoomModel", "lookAt", "(I)V"⟩, 74), (⟨"PenRoomModel", "fits", "(IIIII)Z"⟩, 74), (⟨"PenRoomModel", "room", "(II)J"⟩, 74), (⟨"PenRoomModel", "seek", "(II)I"⟩, 74), (⟨"PenRoomModel", "nextBelow", "(JJ)J"⟩, 74), (⟨"PenRoomModel", "mayBe", "(J)V"⟩, 74)]
theorem lw_r5 : ∀ q ∈ lw_privs_5, lw_okq q := List.forall_mem_cons.mpr ⟨lw_p64, List.forall_mem_cons.mpr ⟨lw_p65, List.forall_mem_cons.mpr ⟨lw_p66, List.forall_mem_cons.mpr ⟨lw_p67, List.forall_mem_cons.mpr ⟨lw_p68, List.forall_mem_cons.mpr ⟨lw_p69, List.forall_mem_cons.mpr ⟨lw_p70, List.forall_mem_cons.mpr ⟨lw_p71, fun _ h => absurd h List.not_mem_nil⟩⟩⟩⟩⟩⟩⟩⟩
def lw_privs : List (MethodName × Nat) := lw_privs_1 ++ (lw_privs_2 ++ (lw_privs_3 ++ (lw_privs_4 ++ (lw_privs_5))))
def lw_tbl : List Cond := k2_sels lw_privs ++ tables_1
theorem lw_privs_ok : ∀ q ∈ lw_privs, lw_okq q := by
  show ∀ q ∈ lw_privs_1 ++ (lw_privs_2 ++ (lw_privs_3 ++ (lw_privs_4 ++ (lw_privs_5)))), lw_okq q
  exact List.forall_mem_append.mpr ⟨lw_r1, List.forall_mem_append.mpr ⟨lw_r2, List.forall_mem_append.mpr ⟨lw_r3, List.forall_mem_append.mpr ⟨lw_r4, lw_r5⟩⟩⟩⟩
def RX0 : String := "PenRoom$Cabinet"
def TX0 : u_T := fun k => match k with
  | 0 => ("PenRoom$Cabinet", "papers", "[LPenRoom$Paper;", true)
  | _ => ("PenRoom$Cabinet", "count", "I", false)
def tyX0 : Nat → FieldType := fun k => match k with
  | 0 => .array (.object "PenRoom$Paper")
  | _ => .int
theorem nmX0 : ∀ a, a < 2 → ∀ b, b < 2 → a ≠ b → (TX0 a).2.1 ≠ (TX0 b).2.1 := by decide +kernel
theorem tyX0_ok : ∀ k, k < 2 → parseFieldDescriptor (TX0 k).2.2.1 = some (tyX0 k) := by decide +kernel
abbrev cX0_init : ByteArray := prog_2_method_1_code
def yX0_init : MethodName := ⟨RX0, "<init>", "()V"⟩
abbrev cX0_size : ByteArray := prog_2_method_2_code
def yX0_size : MethodName := ⟨RX0, "size", "()I"⟩
abbrev cX0_isFull : ByteArray := prog_2_method_3_code
def yX0_isFull : MethodName := ⟨RX0, "isFull", "()Z"⟩
abbrev cX0_at : ByteArray := prog_2_method_4_code
def yX0_at : MethodName := ⟨RX0, "at", "(I)LPenRoom$Paper;"⟩
abbrev cX0_add : ByteArray := prog_2_method_5_code
def yX0_add : MethodName := ⟨RX0, "add", "(LPenRoom$Paper;)I"⟩
abbrev cX0_sumOfOthers : ByteArray := prog_2_method_6_code
def yX0_sumOfOthers : MethodName := ⟨RX0, "sumOfOthers", "(IIIII)I"⟩
abbrev cX0_total : ByteArray := prog_2_method_7_code
def yX0_total : MethodName := ⟨RX0, "total", "(IIIZ)J"⟩
abbrev cX0_isWithin : ByteArray := prog_2_method_8_code
def yX0_isWithin : MethodName := ⟨RX0, "isWithin", "(IIZ)Z"⟩
def RX1 : String := "PenRoom$Paper"
def TX1 : u_T := fun k => match k with
  | 0 => ("PenRoom$Paper", "kind", "I", true)
  | 1 => ("PenRoom$Paper", "sum", "I", true)
  | 2 => ("PenRoom$Paper", "maker", "I", true)
  | 3 => ("PenRoom$Paper", "place", "I", true)
  | 4 => ("PenRoom$Paper", "urgent", "Z", true)
  | 5 => ("PenRoom$Paper", "state", "I", false)
  | 6 => ("PenRoom$Paper", "joined", "I", false)
  | 7 => ("PenRoom$Paper", "begunOn", "I", false)
  | 8 => ("PenRoom$Paper", "slots", "I", false)
  | 9 => ("PenRoom$Paper", "role", "[I", true)
  | 10 => ("PenRoom$Paper", "step", "[I", true)
  | 11 => ("PenRoom$Paper", "hand", "[I", true)
  | 12 => ("PenRoom$Paper", "name", "[I", true)
  | _ => ("PenRoom$Paper", "signedOn", "[I", true)
def tyX1 : Nat → FieldType := fun k => match k with
  | 0 => .int
  | 1 => .int
  | 2 => .int
  | 3 => .int
  | 4 => .boolean
  | 5 => .int
  | 6 => .int
  | 7 => .int
  | 8 => .int
  | 9 => .array .int
  | 10 => .array .int
  | 11 => .array .int
  | 12 => .array .int
  | _ => .array .int
theorem nmX1 : ∀ a, a < 14 → ∀ b, b < 14 → a ≠ b → (TX1 a).2.1 ≠ (TX1 b).2.1 := by decide +kernel
theorem tyX1_ok : ∀ k, k < 14 → parseFieldDescriptor (TX1 k).2.2.1 = some (tyX1 k) := by decide +kernel
abbrev cX1_init : ByteArray := prog_3_method_1_code
def yX1_init : MethodName := ⟨RX1, "<init>", "(IIIIZ)V"⟩
abbrev cX1_clearSlots : ByteArray := prog_3_method_2_code
def yX1_clearSlots : MethodName := ⟨RX1, "clearSlots", "()V"⟩
abbrev cX1_addSlot : ByteArray := prog_3_method_3_code
def yX1_addSlot : MethodName := ⟨RX1, "addSlot", "(II)V"⟩
abbrev cX1_isSigned : ByteArray := prog_3_method_4_code
def yX1_isSigned : MethodName := ⟨RX1, "isSigned", "(I)Z"⟩
abbrev cX1_signedSlots : ByteArray := prog_3_method_5_code
def yX1_signedSlots : MethodName := ⟨RX1, "signedSlots", "()I"⟩
abbrev cX1_firstOpenStep : ByteArray := prog_3_method_6_code
def yX1_firstOpenStep : MethodName := ⟨RX1, "firstOpenStep", "()I"⟩
abbrev cX1_isOpenNow : ByteArray := prog_3_method_7_code
def yX1_isOpenNow : MethodName := ⟨RX1, "isOpenNow", "(I)Z"⟩
abbrev cX1_taken : ByteArray := prog_3_method_8_code
def yX1_taken : MethodName := ⟨RX1, "taken", "()I"⟩
abbrev cX1_put : ByteArray := prog_3_method_9_code
def yX1_put : MethodName := ⟨RX1, "put", "(IIII)V"⟩
def RX2 : String := "PenRoom$Reader"
def TX2 : u_T := fun k => match k with
  | 0 => ("PenRoom$Reader", "tape", "[B", true)
  | 1 => ("PenRoom$Reader", "length", "I", false)
  | 2 => ("PenRoom$Reader", "at", "I", false)
  | 3 => ("PenRoom$Reader", "start", "I", false)
  | 4 => ("PenRoom$Reader", "token", "I", false)
  | 5 => ("PenRoom$Reader", "number", "I", false)
  | 6 => ("PenRoom$Reader", "fault", "I", false)
  | _ => ("PenRoom$Reader", "place", "I", false)
def tyX2 : Nat → FieldType := fun k => match k with
  | 0 => .array .byte
  | 1 => .int
  | 2 => .int
  | 3 => .int
  | 4 => .int
  | 5 => .int
  | 6 => .int
  | _ => .int
theorem nmX2 : ∀ a, a < 8 → ∀ b, b < 8 → a ≠ b → (TX2 a).2.1 ≠ (TX2 b).2.1 := by decide +kernel
theorem tyX2_ok : ∀ k, k < 8 → parseFieldDescriptor (TX2 k).2.2.1 = some (tyX2 k) := by decide +kernel
abbrev cX2_init : ByteArray := prog_4_method_1_code
def yX2_init : MethodName := ⟨RX2, "<init>", "()V"⟩
abbrev cX2_size : ByteArray := prog_4_method_2_code
def yX2_size : MethodName := ⟨RX2, "size", "()I"⟩
abbrev cX2_faultNumber : ByteArray := prog_4_method_3_code
def yX2_faultNumber : MethodName := ⟨RX2, "faultNumber", "()I"⟩
abbrev cX2_faultPlace : ByteArray := prog_4_method_4_code
def yX2_faultPlace : MethodName := ⟨RX2, "faultPlace", "()I"⟩
abbrev cX2_hasRoomFor : ByteArray := prog_4_method_5_code
def yX2_hasRoomFor : MethodName := ⟨RX2, "hasRoomFor", "(I)Z"⟩
abbrev cX2_put : ByteArray := prog_4_method_6_code
def yX2_put : MethodName := ⟨RX2, "put", "(I)V"⟩
abbrev cX2_shorten : ByteArray := prog_4_method_7_code
def yX2_shorten : MethodName := ⟨RX2, "shorten", "(I)I"⟩
abbrev cX2_readInto : ByteArray := prog_4_method_8_code
def yX2_readInto : MethodName := ⟨RX2, "readInto", "(LPenRoom$RuleBook;)Z"⟩
abbrev cX2_readKind : ByteArray := prog_4_method_9_code
def yX2_readKind : MethodName := ⟨RX2, "readKind", "(LPenRoom$RuleBook;)Z"⟩
abbrev cX2_readSteps : ByteArray := prog_4_method_10_code
def yX2_readSteps : MethodName := ⟨RX2, "readSteps", "(LPenRoom$RuleBook;)Z"⟩
abbrev cX2_readNeed : ByteArray := prog_4_method_11_code
def yX2_readNeed : MethodName := ⟨RX2, "readNeed", "(LPenRoom$RuleBook;I)Z"⟩
abbrev cX2_readEither : ByteArray := prog_4_method_12_code
def yX2_readEither : MethodName := ⟨RX2, "readEither", "(LPenRoom$RuleBook;I)Z"⟩
abbrev cX2_readOne : ByteArray := prog_4_method_13_code
def yX2_readOne : MethodName := ⟨RX2, "readOne", "(LPenRoom$RuleBook;I)Z"⟩
abbrev cX2_readSumTest : ByteArray := prog_4_method_14_code
def yX2_readSumTest : MethodName := ⟨RX2, "readSumTest", "(LPenRoom$RuleBook;)Z"⟩
abbrev cX2_readPlaceTest : ByteArray := prog_4_method_15_code
def yX2_readPlaceTest : MethodName := ⟨RX2, "readPlaceTest", "(LPenRoom$RuleBook;)Z"⟩
abbrev cX2_readUrgentTest : ByteArray := prog_4_method_16_code
def yX2_readUrgentTest : MethodName := ⟨RX2, "readUrgentTest", "(LPenRoom$RuleBook;)Z"⟩
abbrev cX2_readLimit : ByteArray := prog_4_method_17_code
def yX2_readLimit : MethodName := ⟨RX2, "readLimit", "(LPenRoom$RuleBook;)Z"⟩
abbrev cX2_readAmount : ByteArray := prog_4_method_18_code
def yX2_readAmount : MethodName := ⟨RX2, "readAmount", "(I)I"⟩
abbrev cX2_take : ByteArray := prog_4_method_19_code
def yX2_take : MethodName := ⟨RX2, "take", "(I)Z"⟩
abbrev cX2_isRole : ByteArray := prog_4_method_20_code
def yX2_isRole : MethodName := ⟨RX2, "isRole", "()Z"⟩
abbrev cX2_wrongToken : ByteArray := prog_4_method_21_code
def yX2_wrongToken : MethodName := ⟨RX2, "wrongToken", "()Z"⟩
abbrev cX2_wrong : ByteArray := prog_4_method_22_code
def yX2_wrong : MethodName := ⟨RX2, "wrong", "(I)Z"⟩
abbrev cX2_advance : ByteArray := prog_4_method_23_code
def yX2_advance : MethodName := ⟨RX2, "advance", "()V"⟩
abbrev cX2_skipLetters : ByteArray := prog_4_method_24_code
def yX2_skipLetters : MethodName := ⟨RX2, "skipLetters", "()V"⟩
abbrev cX2_readNumber : ByteArray := prog_4_method_25_code
def yX2_readNumber : MethodName := ⟨RX2, "readNumber", "()V"⟩
abbrev cX2_wordToken : ByteArray := prog_4_method_26_code
def yX2_wordToken : MethodName := ⟨RX2, "wordToken", "()I"⟩
abbrev cX2_isLetter : ByteArray := prog_4_method_27_code
def yX2_isLetter : MethodName := ⟨RX2, "isLetter", "(I)Z"⟩
abbrev cX2_isDigit : ByteArray := prog_4_method_28_code
def yX2_isDigit : MethodName := ⟨RX2, "isDigit", "(I)Z"⟩
abbrev cX2_isSign : ByteArray := prog_4_method_29_code
def yX2_isSign : MethodName := ⟨RX2, "isSign", "(I)Z"⟩
def RX3 : String := "PenRoom$RuleBook"
def TX3 : u_T := fun k => match k with
  | 0 => ("PenRoom$RuleBook", "rules", "I", false)
  | 1 => ("PenRoom$RuleBook", "kindOf", "[I", true)
  | 2 => ("PenRoom$RuleBook", "firstOperation", "[I", true)
  | 3 => ("PenRoom$RuleBook", "endOfOperations", "[I", true)
  | 4 => ("PenRoom$RuleBook", "slotsOf", "[I", true)
  | 5 => ("PenRoom$RuleBook", "slotRole", "[I", true)
  | 6 => ("PenRoom$RuleBook", "slotStep", "[I", true)
  | 7 => ("PenRoom$RuleBook", "operations", "I", false)
  | 8 => ("PenRoom$RuleBook", "operation", "[I", true)
  | 9 => ("PenRoom$RuleBook", "operand", "[I", true)
  | 10 => ("PenRoom$RuleBook", "tests", "I", false)
  | 11 => ("PenRoom$RuleBook", "limits", "I", false)
  | 12 => ("PenRoom$RuleBook", "dayLimit", "[I", true)
  | _ => ("PenRoom$RuleBook", "monthLimit", "[I", true)
def tyX3 : Nat → FieldType := fun k => match k with
  | 0 => .int
  | 1 => .array .int
  | 2 => .array .int
  | 3 => .array .int
  | 4 => .array .int
  | 5 => .array .int
  | 6 => .array .int
  | 7 => .int
  | 8 => .array .int
  | 9 => .array .int
  | 10 => .int
  | 11 => .int
  | 12 => .array .int
  | _ => .array .int
theorem nmX3 : ∀ a, a < 14 → ∀ b, b < 14 → a ≠ b → (TX3 a).2.1 ≠ (TX3 b).2.1 := by decide +kernel
theorem tyX3_ok : ∀ k, k < 14 → parseFieldDescriptor (TX3 k).2.2.1 = some (tyX3 k) := by decide +kernel
abbrev cX3_init : ByteArray := prog_5_method_1_code
def yX3_init : MethodName := ⟨RX3, "<init>", "()V"⟩
abbrev cX3_clear : ByteArray := prog_5_method_2_code
def yX3_clear : MethodName := ⟨RX3, "clear", "()V"⟩
abbrev cX3_ruleCount : ByteArray := prog_5_method_3_code
def yX3_ruleCount : MethodName := ⟨RX3, "ruleCount", "()I"⟩
abbrev cX3_limitCount : ByteArray := prog_5_method_4_code
def yX3_limitCount : MethodName := ⟨RX3, "limitCount", "()I"⟩
abbrev cX3_hasRoomForRule : ByteArray := prog_5_method_5_code
def yX3_hasRoomForRule : MethodName := ⟨RX3, "hasRoomForRule", "()Z"⟩
abbrev cX3_hasRoomForLimit : ByteArray := prog_5_method_6_code
def yX3_hasRoomForLimit : MethodName := ⟨RX3, "hasRoomForLimit", "()Z"⟩
abbrev cX3_hasRoomForTest : ByteArray := prog_5_method_7_code
def yX3_hasRoomForTest : MethodName := ⟨RX3, "hasRoomForTest", "()Z"⟩
abbrev cX3_hasLimit : ByteArray := prog_5_method_8_code
def yX3_hasLimit : MethodName := ⟨RX3, "hasLimit", "(I)Z"⟩
abbrev cX3_addLimit : ByteArray := prog_5_method_9_code
def yX3_addLimit : MethodName := ⟨RX3, "addLimit", "(III)V"⟩
abbrev cX3_addRule : ByteArray := prog_5_method_10_code
def yX3_addRule : MethodName := ⟨RX3, "addRule", "(I)V"⟩
abbrev cX3_addTest : ByteArray := prog_5_method_11_code
def yX3_addTest : MethodName := ⟨RX3, "addTest", "(II)V"⟩
abbrev cX3_addOperation : ByteArray := prog_5_method_12_code
def yX3_addOperation : MethodName := ⟨RX3, "addOperation", "(II)V"⟩
abbrev cX3_hasRoomForSlots : ByteArray := prog_5_method_13_code
def yX3_hasRoomForSlots : MethodName := ⟨RX3, "hasRoomForSlots", "(I)Z"⟩
abbrev cX3_addSlots : ByteArray := prog_5_method_14_code
def yX3_addSlots : MethodName := ⟨RX3, "addSlots", "(III)V"⟩
abbrev cX3_slotCount : ByteArray := prog_5_method_15_code
def yX3_slotCount : MethodName := ⟨RX3, "slotCount", "(I)I"⟩
abbrev cX3_roleOfSlot : ByteArray := prog_5_method_16_code
def yX3_roleOfSlot : MethodName := ⟨RX3, "roleOfSlot", "(II)I"⟩
abbrev cX3_copySlots : ByteArray := prog_5_method_17_code
def yX3_copySlots : MethodName := ⟨RX3, "copySlots", "(ILPenRoom$Paper;)V"⟩
abbrev cX3_ruleFor : ByteArray := prog_5_method_18_code
def yX3_ruleFor : MethodName := ⟨RX3, "ruleFor", "(IIIZ)I"⟩
abbrev cX3_holds : ByteArray := prog_5_method_19_code
def yX3_holds : MethodName := ⟨RX3, "holds", "(IIIZ)Z"⟩
abbrev cX3_passes : ByteArray := prog_5_method_20_code
def yX3_passes : MethodName := ⟨RX3, "passes", "(IIIZ)Z"⟩
abbrev cX3_testBelow : ByteArray := prog_5_method_21_code
def yX3_testBelow : MethodName := ⟨RX3, "testBelow", "(III)I"⟩
abbrev cX3_changePoint : ByteArray := prog_5_method_22_code
def yX3_changePoint : MethodName := ⟨RX3, "changePoint", "(II)I"⟩
def RX4 : String := "PenRoom$Search"
def TX4 : u_T := fun k => match k with
  | 0 => ("PenRoom$Search", "staff", "LPenRoom$Staff;", true)
  | 1 => ("PenRoom$Search", "cabinet", "LPenRoom$Cabinet;", true)
  | 2 => ("PenRoom$Search", "dayRoom", "[I", true)
  | 3 => ("PenRoom$Search", "monthRoom", "[I", true)
  | 4 => ("PenRoom$Search", "namesOf", "[I", true)
  | 5 => ("PenRoom$Search", "handsOf", "[I", true)
  | 6 => ("PenRoom$Search", "open", "I", false)
  | 7 => ("PenRoom$Search", "openSlot", "[I", true)
  | 8 => ("PenRoom$Search", "openRole", "[I", true)
  | 9 => ("PenRoom$Search", "foundHand", "[I", true)
  | 10 => ("PenRoom$Search", "foundName", "[I", true)
  | _ => ("PenRoom$Search", "tries", "I", false)
def tyX4 : Nat → FieldType := fun k => match k with
  | 0 => .object "PenRoom$Staff"
  | 1 => .object "PenRoom$Cabinet"
  | 2 => .array .int
  | 3 => .array .int
  | 4 => .array .int
  | 5 => .array .int
  | 6 => .int
  | 7 => .array .int
  | 8 => .array .int
  | 9 => .array .int
  | 10 => .array .int
  | _ => .int
theorem nmX4 : ∀ a, a < 12 → ∀ b, b < 12 → a ≠ b → (TX4 a).2.1 ≠ (TX4 b).2.1 := by decide +kernel
theorem tyX4_ok : ∀ k, k < 12 → parseFieldDescriptor (TX4 k).2.2.1 = some (tyX4 k) := by decide +kernel
abbrev cX4_init : ByteArray := prog_6_method_1_code
def yX4_init : MethodName := ⟨RX4, "<init>", "(LPenRoom$Staff;LPenRoom$Cabinet;)V"⟩
abbrev cX4_lookAtLimits : ByteArray := prog_6_method_2_code
def yX4_lookAtLimits : MethodName := ⟨RX4, "lookAtLimits", "(LPenRoom$RuleBook;I)V"⟩
abbrev cX4_takeOff : ByteArray := prog_6_method_3_code
def yX4_takeOff : MethodName := ⟨RX4, "takeOff", "(LPenRoom$Paper;I)V"⟩
abbrev cX4_room : ByteArray := prog_6_method_4_code
def yX4_room : MethodName := ⟨RX4, "room", "(II)I"⟩
abbrev cX4_lookAtPeople : ByteArray := prog_6_method_5_code
def yX4_lookAtPeople : MethodName := ⟨RX4, "lookAtPeople", "(III)V"⟩
abbrev cX4_allows : ByteArray := prog_6_method_6_code
def yX4_allows : MethodName := ⟨RX4, "allows", "(IIII)Z"⟩
abbrev cX4_handsFor : ByteArray := prog_6_method_7_code
def yX4_handsFor : MethodName := ⟨RX4, "handsFor", "(II)I"⟩
abbrev cX4_roomBelow : ByteArray := prog_6_method_8_code
def yX4_roomBelow : MethodName := ⟨RX4, "roomBelow", "(I)I"⟩
abbrev cX4_openSlotsOf : ByteArray := prog_6_method_9_code
def yX4_openSlotsOf : MethodName := ⟨RX4, "openSlotsOf", "(LPenRoom$Paper;)V"⟩
abbrev cX4_openSlotsOfRule : ByteArray := prog_6_method_10_code
def yX4_openSlotsOfRule : MethodName := ⟨RX4, "openSlotsOfRule", "(LPenRoom$RuleBook;I)V"⟩
abbrev cX4_addOpen : ByteArray := prog_6_method_11_code
def yX4_addOpen : MethodName := ⟨RX4, "addOpen", "(II)V"⟩
abbrev cX4_seekWay : ByteArray := prog_6_method_12_code
def yX4_seekWay : MethodName := ⟨RX4, "seekWay", "(I)I"⟩
abbrev cX4_seekFrom : ByteArray := prog_6_method_13_code
def yX4_seekFrom : MethodName := ⟨RX4, "seekFrom", "(II)Z"⟩
abbrev cX4_copyWay : ByteArray := prog_6_method_14_code
def yX4_copyWay : MethodName := ⟨RX4, "copyWay", "([I[I)V"⟩
def RX5 : String := "PenRoom$Staff"
def TX5 : u_T := fun k => match k with
  | 0 => ("PenRoom$Staff", "people", "I", false)
  | 1 => ("PenRoom$Staff", "rolesOf", "[I", true)
  | 2 => ("PenRoom$Staff", "spans", "I", false)
  | 3 => ("PenRoom$Staff", "awayWho", "[I", true)
  | 4 => ("PenRoom$Staff", "awayFrom", "[I", true)
  | 5 => ("PenRoom$Staff", "awayTo", "[I", true)
  | 6 => ("PenRoom$Staff", "deputies", "I", false)
  | 7 => ("PenRoom$Staff", "deputyOf", "[I", true)
  | 8 => ("PenRoom$Staff", "deputyBy", "[I", true)
  | 9 => ("PenRoom$Staff", "deputyFrom", "[I", true)
  | 10 => ("PenRoom$Staff", "deputyTo", "[I", true)
  | 11 => ("PenRoom$Staff", "deputyUpto", "[I", true)
  | _ => ("PenRoom$Staff", "deputyEnded", "[Z", true)
def tyX5 : Nat → FieldType := fun k => match k with
  | 0 => .int
  | 1 => .array .int
  | 2 => .int
  | 3 => .array .int
  | 4 => .array .int
  | 5 => .array .int
  | 6 => .int
  | 7 => .array .int
  | 8 => .array .int
  | 9 => .array .int
  | 10 => .array .int
  | 11 => .array .int
  | _ => .array .boolean
theorem nmX5 : ∀ a, a < 13 → ∀ b, b < 13 → a ≠ b → (TX5 a).2.1 ≠ (TX5 b).2.1 := by decide +kernel
theorem tyX5_ok : ∀ k, k < 13 → parseFieldDescriptor (TX5 k).2.2.1 = some (tyX5 k) := by decide +kernel
abbrev cX5_init : ByteArray := prog_7_method_1_code
def yX5_init : MethodName := ⟨RX5, "<init>", "()V"⟩
abbrev cX5_size : ByteArray := prog_7_method_2_code
def yX5_size : MethodName := ⟨RX5, "size", "()I"⟩
abbrev cX5_awayCount : ByteArray := prog_7_method_3_code
def yX5_awayCount : MethodName := ⟨RX5, "awayCount", "()I"⟩
abbrev cX5_deputyCount : ByteArray := prog_7_method_4_code
def yX5_deputyCount : MethodName := ⟨RX5, "deputyCount", "()I"⟩
abbrev cX5_has : ByteArray := prog_7_method_5_code
def yX5_has : MethodName := ⟨RX5, "has", "(I)Z"⟩
abbrev cX5_areAllThere : ByteArray := prog_7_method_6_code
def yX5_areAllThere : MethodName := ⟨RX5, "areAllThere", "(I)Z"⟩
abbrev cX5_hasRole : ByteArray := prog_7_method_7_code
def yX5_hasRole : MethodName := ⟨RX5, "hasRole", "(II)Z"⟩
abbrev cX5_addPerson : ByteArray := prog_7_method_8_code
def yX5_addPerson : MethodName := ⟨RX5, "addPerson", "(I)I"⟩
abbrev cX5_setRoles : ByteArray := prog_7_method_9_code
def yX5_setRoles : MethodName := ⟨RX5, "setRoles", "(II)Z"⟩
abbrev cX5_addAway : ByteArray := prog_7_method_10_code
def yX5_addAway : MethodName := ⟨RX5, "addAway", "(III)Z"⟩
abbrev cX5_addDeputy : ByteArray := prog_7_method_11_code
def yX5_addDeputy : MethodName := ⟨RX5, "addDeputy", "(IIIII)I"⟩
abbrev cX5_endDeputy : ByteArray := prog_7_method_12_code
def yX5_endDeputy : MethodName := ⟨RX5, "endDeputy", "(I)Z"⟩
abbrev cX5_awayOn : ByteArray := prog_7_method_13_code
def yX5_awayOn : MethodName := ⟨RX5, "awayOn", "(I)I"⟩
abbrev cX5_actingFor : ByteArray := prog_7_method_14_code
def yX5_actingFor : MethodName := ⟨RX5, "actingFor", "(IIII)I"⟩
abbrev cX5_deputiesOf : ByteArray := prog_7_method_15_code
def yX5_deputiesOf : MethodName := ⟨RX5, "deputiesOf", "(III)I"⟩
abbrev cX5_standsOn : ByteArray := prog_7_method_16_code
def yX5_standsOn : MethodName := ⟨RX5, "standsOn", "(II)Z"⟩
abbrev cX5_amountBelow : ByteArray := prog_7_method_17_code
def yX5_amountBelow : MethodName := ⟨RX5, "amountBelow", "(II)I"⟩
abbrev cX5_areRoles : ByteArray := prog_7_method_18_code
def yX5_areRoles : MethodName := ⟨RX5, "areRoles", "(I)Z"⟩
abbrev cX5_areDays : ByteArray := prog_7_method_19_code
def yX5_areDays : MethodName := ⟨RX5, "areDays", "(II)Z"⟩
def RX6 : String := "PenRoom"
def TX6 : u_T := fun k => match k with
  | 0 => ("PenRoom", "staff", "LPenRoom$Staff;", true)
  | 1 => ("PenRoom", "cabinet", "LPenRoom$Cabinet;", true)
  | 2 => ("PenRoom", "reader", "LPenRoom$Reader;", true)
  | 3 => ("PenRoom", "search", "LPenRoom$Search;", true)
  | 4 => ("PenRoom", "book", "LPenRoom$RuleBook;", false)
  | 5 => ("PenRoom", "spareBook", "LPenRoom$RuleBook;", false)
  | 6 => ("PenRoom", "today", "I", false)
  | 7 => ("PenRoom", "reach", "I", false)
  | 8 => ("PenRoom", "wayHand", "[I", true)
  | _ => ("PenRoom", "wayName", "[I", true)
def tyX6 : Nat → FieldType := fun k => match k with
  | 0 => .object "PenRoom$Staff"
  | 1 => .object "PenRoom$Cabinet"
  | 2 => .object "PenRoom$Reader"
  | 3 => .object "PenRoom$Search"
  | 4 => .object "PenRoom$RuleBook"
  | 5 => .object "PenRoom$RuleBook"
  | 6 => .int
  | 7 => .int
  | 8 => .array .int
  | _ => .array .int
theorem nmX6 : ∀ a, a < 10 → ∀ b, b < 10 → a ≠ b → (TX6 a).2.1 ≠ (TX6 b).2.1 := by decide +kernel
theorem tyX6_ok : ∀ k, k < 10 → parseFieldDescriptor (TX6 k).2.2.1 = some (tyX6 k) := by decide +kernel
abbrev cX6_init : ByteArray := prog_1_method_1_code
def yX6_init : MethodName := ⟨RX6, "<init>", "()V"⟩
abbrev cX6_person : ByteArray := prog_1_method_2_code
def yX6_person : MethodName := ⟨RX6, "person", "(I)I"⟩
abbrev cX6_roles : ByteArray := prog_1_method_3_code
def yX6_roles : MethodName := ⟨RX6, "roles", "(II)Z"⟩
abbrev cX6_away : ByteArray := prog_1_method_4_code
def yX6_away : MethodName := ⟨RX6, "away", "(III)Z"⟩
abbrev cX6_deputy : ByteArray := prog_1_method_5_code
def yX6_deputy : MethodName := ⟨RX6, "deputy", "(IIIII)I"⟩
abbrev cX6_end : ByteArray := prog_1_method_6_code
def yX6_end : MethodName := ⟨RX6, "end", "(I)Z"⟩
abbrev cX6_acts : ByteArray := prog_1_method_7_code
def yX6_acts : MethodName := ⟨RX6, "acts", "(III)I"⟩
abbrev cX6_later : ByteArray := prog_1_method_8_code
def yX6_later : MethodName := ⟨RX6, "later", "(I)I"⟩
abbrev cX6_feed : ByteArray := prog_1_method_9_code
def yX6_feed : MethodName := ⟨RX6, "feed", "(IIIII)I"⟩
abbrev cX6_cut : ByteArray := prog_1_method_10_code
def yX6_cut : MethodName := ⟨RX6, "cut", "(I)I"⟩
abbrev cX6_rules : ByteArray := prog_1_method_11_code
def yX6_rules : MethodName := ⟨RX6, "rules", "()I"⟩
abbrev cX6_fault : ByteArray := prog_1_method_12_code
def yX6_fault : MethodName := ⟨RX6, "fault", "(I)I"⟩
abbrev cX6_span : ByteArray := prog_1_method_13_code
def yX6_span : MethodName := ⟨RX6, "span", "(I)Z"⟩
abbrev cX6_paper : ByteArray := prog_1_method_14_code
def yX6_paper : MethodName := ⟨RX6, "paper", "(IIIIZ)I"⟩
abbrev cX6_of : ByteArray := prog_1_method_15_code
def yX6_of : MethodName := ⟨RX6, "of", "(II)I"⟩
abbrev cX6_slot : ByteArray := prog_1_method_16_code
def yX6_slot : MethodName := ⟨RX6, "slot", "(III)I"⟩
abbrev cX6_sign : ByteArray := prog_1_method_17_code
def yX6_sign : MethodName := ⟨RX6, "sign", "(IIII)Z"⟩
abbrev cX6_back : ByteArray := prog_1_method_18_code
def yX6_back : MethodName := ⟨RX6, "back", "(I)Z"⟩
abbrev cX6_withdraw : ByteArray := prog_1_method_19_code
def yX6_withdraw : MethodName := ⟨RX6, "withdraw", "(I)Z"⟩
abbrev cX6_signed : ByteArray := prog_1_method_20_code
def yX6_signed : MethodName := ⟨RX6, "signed", "(IIIZ)J"⟩
abbrev cX6_way : ByteArray := prog_1_method_21_code
def yX6_way : MethodName := ⟨RX6, "way", "(I)I"⟩
abbrev cX6_wayOf : ByteArray := prog_1_method_22_code
def yX6_wayOf : MethodName := ⟨RX6, "wayOf", "(II)I"⟩
abbrev cX6_holders : ByteArray := prog_1_method_23_code
def yX6_holders : MethodName := ⟨RX6, "holders", "(I)I"⟩
abbrev cX6_greatest : ByteArray := prog_1_method_24_code
def yX6_greatest : MethodName := ⟨RX6, "greatest", "(IIZII)I"⟩
abbrev cX6_about : ByteArray := prog_1_method_25_code
def yX6_about : MethodName := ⟨RX6, "about", "(I)I"⟩
abbrev cX6_canBePaper : ByteArray := prog_1_method_26_code
def yX6_canBePaper : MethodName := ⟨RX6, "canBePaper", "(III)Z"⟩
abbrev cX6_begin : ByteArray := prog_1_method_27_code
def yX6_begin : MethodName := ⟨RX6, "begin", "(I)V"⟩
abbrev cX6_seekByRule : ByteArray := prog_1_method_28_code
def yX6_seekByRule : MethodName := ⟨RX6, "seekByRule", "(IIII)I"⟩
abbrev cX6_nextSum : ByteArray := prog_1_method_29_code
def yX6_nextSum : MethodName := ⟨RX6, "nextSum", "(III)I"⟩
abbrev cX6_isSum : ByteArray := prog_1_method_30_code
def yX6_isSum : MethodName := ⟨RX6, "isSum", "(I)Z"⟩
abbrev cX6_isIn : ByteArray := prog_1_method_31_code
def yX6_isIn : MethodName := ⟨RX6, "isIn", "(II)Z"⟩
def RX7 : String := "PenRoomModel"
def TX7 : u_T := fun k => match k with
  | 0 => ("PenRoomModel", "roles", "[I", true)
  | 1 => ("PenRoomModel", "aPerson", "[I", true)
  | 2 => ("PenRoomModel", "aFrom", "[I", true)
  | 3 => ("PenRoomModel", "aTo", "[I", true)
  | 4 => ("PenRoomModel", "dOf", "[I", true)
  | 5 => ("PenRoomModel", "dBy", "[I", true)
  | 6 => ("PenRoomModel", "dFrom", "[I", true)
  | 7 => ("PenRoomModel", "dTo", "[I", true)
  | 8 => ("PenRoomModel", "dUpto", "[I", true)
  | 9 => ("PenRoomModel", "isEnded", "[Z", true)
  | 10 => ("PenRoomModel", "people", "I", false)
  | 11 => ("PenRoomModel", "aways", "I", false)
  | 12 => ("PenRoomModel", "deputies", "I", false)
  | 13 => ("PenRoomModel", "today", "I", false)
  | 14 => ("PenRoomModel", "tape", "[B", true)
  | 15 => ("PenRoomModel", "text", "[B", true)
  | 16 => ("PenRoomModel", "taped", "I", false)
  | 17 => ("PenRoomModel", "size", "I", false)
  | 18 => ("PenRoomModel", "faultKind", "I", false)
  | 19 => ("PenRoomModel", "faultPlace", "I", false)
  | 20 => ("PenRoomModel", "at", "I", false)
  | 21 => ("PenRoomModel", "end", "I", false)
  | 22 => ("PenRoomModel", "token", "I", false)
  | 23 => ("PenRoomModel", "number", "I", false)
  | 24 => ("PenRoomModel", "name", "J", false)
  | 25 => ("PenRoomModel", "rKind", "[I", true)
  | 26 => ("PenRoomModel", "rFrom", "[I", true)
  | 27 => ("PenRoomModel", "rTo", "[I", true)
  | 28 => ("PenRoomModel", "rSlots", "[I", true)
  | 29 => ("PenRoomModel", "rRole", "[I", true)
  | 30 => ("PenRoomModel", "rStep", "[I", true)
  | 31 => ("PenRoomModel", "dayLimit", "[I", true)
  | 32 => ("PenRoomModel", "monthLimit", "[I", true)
  | 33 => ("PenRoomModel", "code", "[I", true)
  | 34 => ("PenRoomModel", "codeNumber", "[I", true)
  | 35 => ("PenRoomModel", "ruleMany", "[I", true)
  | 36 => ("PenRoomModel", "limitMany", "[I", true)
  | 37 => ("PenRoomModel", "hasLimit", "[Z", true)
  | 38 => ("PenRoomModel", "bank", "I", false)
  | 39 => ("PenRoomModel", "tests", "I", false)
  | 40 => ("PenRoomModel", "codes", "I", false)
  | 41 => ("PenRoomModel", "rb", "I", false)
  | 42 => ("PenRoomModel", "eWhat", "[I", true)
  | 43 => ("PenRoomModel", "piled", "I", false)
  | 44 => ("PenRoomModel", "deep", "I", false)
  | 45 => ("PenRoomModel", "values", "[Z", true)
  | 46 => ("PenRoomModel", "pKind", "[I", true)
  | 47 => ("PenRoomModel", "pSum", "[I", true)
  | 48 => ("PenRoomModel", "pMaker", "[I", true)
  | 49 => ("PenRoomModel", "pPlace", "[I", true)
  | 50 => ("PenRoomModel", "pDay", "[I", true)
  | 51 => ("PenRoomModel", "pState", "[I", true)
  | 52 => ("PenRoomModel", "pSlots", "[I", true)
  | 53 => ("PenRoomModel", "pSteps", "[I", true)
  | 54 => ("PenRoomModel", "sRole", "[I", true)
  | 55 => ("PenRoomModel", "sStep", "[I", true)
  | 56 => ("PenRoomModel", "sHand", "[I", true)
  | 57 => ("PenRoomModel", "sName", "[I", true)
  | 58 => ("PenRoomModel", "sDay", "[I", true)
  | 59 => ("PenRoomModel", "pJoined", "[J", true)
  | 60 => ("PenRoomModel", "isUrgent", "[Z", true)
  | 61 => ("PenRoomModel", "papers", "I", false)
  | 62 => ("PenRoomModel", "span", "I", false)
  | 63 => ("PenRoomModel", "actors", "[I", true)
  | 64 => ("PenRoomModel", "usedUp", "I", false)
  | 65 => ("PenRoomModel", "openSlots", "[I", true)
  | 66 => ("PenRoomModel", "pair", "[I", true)
  | 67 => ("PenRoomModel", "usedAt", "[I", true)
  | 68 => ("PenRoomModel", "wayHand", "[I", true)
  | 69 => ("PenRoomModel", "wayName", "[I", true)
  | 70 => ("PenRoomModel", "opens", "I", false)
  | 71 => ("PenRoomModel", "hasWay", "Z", false)
  | 72 => ("PenRoomModel", "nearest", "J", false)
  | _ => ("PenRoomModel", "below", "J", false)
def tyX7 : Nat → FieldType := fun k => match k with
  | 0 => .array .int
  | 1 => .array .int
  | 2 => .array .int
  | 3 => .array .int
  | 4 => .array .int
  | 5 => .array .int
  | 6 => .array .int
  | 7 => .array .int
  | 8 => .array .int
  | 9 => .array .boolean
  | 10 => .int
  | 11 => .int
  | 12 => .int
  | 13 => .int
  | 14 => .array .byte
  | 15 => .array .byte
  | 16 => .int
  | 17 => .int
  | 18 => .int
  | 19 => .int
  | 20 => .int
  | 21 => .int
  | 22 => .int
  | 23 => .int
  | 24 => .long
  | 25 => .array .int
  | 26 => .array .int
  | 27 => .array .int
  | 28 => .array .int
  | 29 => .array .int
  | 30 => .array .int
  | 31 => .array .int
  | 32 => .array .int
  | 33 => .array .int
  | 34 => .array .int
  | 35 => .array .int
  | 36 => .array .int
  | 37 => .array .boolean
  | 38 => .int
  | 39 => .int
  | 40 => .int
  | 41 => .int
  | 42 => .array .int
  | 43 => .int
  | 44 => .int
  | 45 => .array .boolean
  | 46 => .array .int
  | 47 => .array .int
  | 48 => .array .int
  | 49 => .array .int
  | 50 => .array .int
  | 51 => .array .int
  | 52 => .array .int
  | 53 => .array .int
  | 54 => .array .int
  | 55 => .array .int
  | 56 => .array .int
  | 57 => .array .int
  | 58 => .array .int
  | 59 => .array .long
  | 60 => .array .boolean
  | 61 => .int
  | 62 => .int
  | 63 => .array .int
  | 64 => .int
  | 65 => .array .int
  | 66 => .array .int
  | 67 => .array .int
  | 68 => .array .int
  | 69 => .array .int
  | 70 => .int
  | 71 => .boolean
  | 72 => .long
  | _ => .long
theorem nmX7 : ∀ a, a < 74 → ∀ b, b < 74 → a ≠ b → (TX7 a).2.1 ≠ (TX7 b).2.1 := by decide +kernel
theorem tyX7_ok : ∀ k, k < 74 → parseFieldDescriptor (TX7 k).2.2.1 = some (tyX7 k) := by decide +kernel
abbrev cX7_init : ByteArray := prog_9_method_1_code
def yX7_init : MethodName := ⟨RX7, "<init>", "()V"⟩
abbrev cX7_isPerson : ByteArray := prog_9_method_2_code
def yX7_isPerson : MethodName := ⟨RX7, "isPerson", "(I)Z"⟩
abbrev cX7_person : ByteArray := prog_9_method_3_code
def yX7_person : MethodName := ⟨RX7, "person", "(I)I"⟩
abbrev cX7_roles : ByteArray := prog_9_method_4_code
def yX7_roles : MethodName := ⟨RX7, "roles", "(II)Z"⟩
abbrev cX7_isSpan : ByteArray := prog_9_method_5_code
def yX7_isSpan : MethodName := ⟨RX7, "isSpan", "(II)Z"⟩
abbrev cX7_away : ByteArray := prog_9_method_6_code
def yX7_away : MethodName := ⟨RX7, "away", "(III)Z"⟩
abbrev cX7_deputy : ByteArray := prog_9_method_7_code
def yX7_deputy : MethodName := ⟨RX7, "deputy", "(IIIII)I"⟩
abbrev cX7_end : ByteArray := prog_9_method_8_code
def yX7_end : MethodName := ⟨RX7, "end", "(I)Z"⟩
abbrev cX7_isAway : ByteArray := prog_9_method_9_code
def yX7_isAway : MethodName := ⟨RX7, "isAway", "(II)Z"⟩
abbrev cX7_actsFor : ByteArray := prog_9_method_10_code
def yX7_actsFor : MethodName := ⟨RX7, "actsFor", "(III)I"⟩
abbrev cX7_acts : ByteArray := prog_9_method_11_code
def yX7_acts : MethodName := ⟨RX7, "acts", "(III)I"⟩
abbrev cX7_later : ByteArray := prog_9_method_12_code
def yX7_later : MethodName := ⟨RX7, "later", "(I)I"⟩
abbrev cX7_byteAt : ByteArray := prog_9_method_13_code
def yX7_byteAt : MethodName := ⟨RX7, "byteAt", "(I)I"⟩
abbrev cX7_isLetter : ByteArray := prog_9_method_14_code
def yX7_isLetter : MethodName := ⟨RX7, "isLetter", "(I)Z"⟩
abbrev cX7_isDigit : ByteArray := prog_9_method_15_code
def yX7_isDigit : MethodName := ⟨RX7, "isDigit", "(I)Z"⟩
abbrev cX7_fails : ByteArray := prog_9_method_16_code
def yX7_fails : MethodName := ⟨RX7, "fails", "(II)V"⟩
abbrev cX7_isGood : ByteArray := prog_9_method_17_code
def yX7_isGood : MethodName := ⟨RX7, "isGood", "()Z"⟩
abbrev cX7_next : ByteArray := prog_9_method_18_code
def yX7_next : MethodName := ⟨RX7, "next", "()V"⟩
abbrev cX7_is : ByteArray := prog_9_method_19_code
def yX7_is : MethodName := ⟨RX7, "is", "(I)Z"⟩
abbrev cX7_isWord : ByteArray := prog_9_method_20_code
def yX7_isWord : MethodName := ⟨RX7, "isWord", "(J)Z"⟩
abbrev cX7_wrong : ByteArray := prog_9_method_21_code
def yX7_wrong : MethodName := ⟨RX7, "wrong", "()V"⟩
abbrev cX7_must : ByteArray := prog_9_method_22_code
def yX7_must : MethodName := ⟨RX7, "must", "(I)V"⟩
abbrev cX7_numeral : ByteArray := prog_9_method_23_code
def yX7_numeral : MethodName := ⟨RX7, "numeral", "()I"⟩
abbrev cX7_kindHere : ByteArray := prog_9_method_24_code
def yX7_kindHere : MethodName := ⟨RX7, "kindHere", "()I"⟩
abbrev cX7_roleHere : ByteArray := prog_9_method_25_code
def yX7_roleHere : MethodName := ⟨RX7, "roleHere", "()I"⟩
abbrev cX7_rules : ByteArray := prog_9_method_26_code
def yX7_rules : MethodName := ⟨RX7, "rules", "()I"⟩
abbrev cX7_readLine : ByteArray := prog_9_method_27_code
def yX7_readLine : MethodName := ⟨RX7, "readLine", "()V"⟩
abbrev cX7_readLimit : ByteArray := prog_9_method_28_code
def yX7_readLimit : MethodName := ⟨RX7, "readLimit", "()V"⟩
abbrev cX7_readRule : ByteArray := prog_9_method_29_code
def yX7_readRule : MethodName := ⟨RX7, "readRule", "()V"⟩
abbrev cX7_readStep : ByteArray := prog_9_method_30_code
def yX7_readStep : MethodName := ⟨RX7, "readStep", "(II)V"⟩
abbrev cX7_put : ByteArray := prog_9_method_31_code
def yX7_put : MethodName := ⟨RX7, "put", "(II)V"⟩
abbrev cX7_pile : ByteArray := prog_9_method_32_code
def yX7_pile : MethodName := ⟨RX7, "pile", "(I)V"⟩
abbrev cX7_e : ByteArray := prog_9_method_33_code
def yX7_e : MethodName := ⟨RX7, "e", "()V"⟩
abbrev cX7_one : ByteArray := prog_9_method_34_code
def yX7_one : MethodName := ⟨RX7, "one", "()Z"⟩
abbrev cX7_behind : ByteArray := prog_9_method_35_code
def yX7_behind : MethodName := ⟨RX7, "behind", "()Z"⟩
abbrev cX7_fault : ByteArray := prog_9_method_36_code
def yX7_fault : MethodName := ⟨RX7, "fault", "(I)I"⟩
abbrev cX7_holds : ByteArray := prog_9_method_37_code
def yX7_holds : MethodName := ⟨RX7, "holds", "(IJIZ)Z"⟩
abbrev cX7_ruleFor : ByteArray := prog_9_method_38_code
def yX7_ruleFor : MethodName := ⟨RX7, "ruleFor", "(IJIZ)I"⟩
abbrev cX7_span : ByteArray := prog_9_method_39_code
def yX7_span : MethodName := ⟨RX7, "span", "(I)Z"⟩
abbrev cX7_isPaper : ByteArray := prog_9_method_40_code
def yX7_isPaper : MethodName := ⟨RX7, "isPaper", "(I)Z"⟩
abbrev cX7_others : ByteArray := prog_9_method_41_code
def yX7_others : MethodName := ⟨RX7, "others", "(IIIII)J"⟩
abbrev cX7_begin : ByteArray := prog_9_method_42_code
def yX7_begin : MethodName := ⟨RX7, "begin", "(II)V"⟩
abbrev cX7_canBe : ByteArray := prog_9_method_43_code
def yX7_canBe : MethodName := ⟨RX7, "canBe", "(III)Z"⟩
abbrev cX7_set : ByteArray := prog_9_method_44_code
def yX7_set : MethodName := ⟨RX7, "set", "(IIIIIZ)V"⟩
abbrev cX7_paper : ByteArray := prog_9_method_45_code
def yX7_paper : MethodName := ⟨RX7, "paper", "(IIIIZ)I"⟩
abbrev cX7_signedOf : ByteArray := prog_9_method_46_code
def yX7_signedOf : MethodName := ⟨RX7, "signedOf", "(I)I"⟩
abbrev cX7_stepOf : ByteArray := prog_9_method_47_code
def yX7_stepOf : MethodName := ⟨RX7, "stepOf", "(I)I"⟩
abbrev cX7_of : ByteArray := prog_9_method_48_code
def yX7_of : MethodName := ⟨RX7, "of", "(II)I"⟩
abbrev cX7_slot : ByteArray := prog_9_method_49_code
def yX7_slot : MethodName := ⟨RX7, "slot", "(III)I"⟩
abbrev cX7_signedBy : ByteArray := prog_9_method_50_code
def yX7_signedBy : MethodName := ⟨RX7, "signedBy", "(IIIZ)J"⟩
abbrev cX7_signed : ByteArray := prog_9_method_51_code
def yX7_signed : MethodName := ⟨RX7, "signed", "(IIIZ)J"⟩
abbrev cX7_room : ByteArray := prog_9_method_52_code
def yX7_room : MethodName := ⟨RX7, "room", "(II)J"⟩
abbrev cX7_lookAt : ByteArray := prog_9_method_53_code
def yX7_lookAt : MethodName := ⟨RX7, "lookAt", "(I)V"⟩
abbrev cX7_fits : ByteArray := prog_9_method_54_code
def yX7_fits : MethodName := ⟨RX7, "fits", "(IIIII)Z"⟩
abbrev cX7_isOpen : ByteArray := prog_9_method_55_code
def yX7_isOpen : MethodName := ⟨RX7, "isOpen", "(II)Z"⟩
abbrev cX7_sign : ByteArray := prog_9_method_56_code
def yX7_sign : MethodName := ⟨RX7, "sign", "(IIII)Z"⟩
abbrev cX7_back : ByteArray := prog_9_method_57_code
def yX7_back : MethodName := ⟨RX7, "back", "(I)Z"⟩
abbrev cX7_withdraw : ByteArray := prog_9_method_58_code
def yX7_withdraw : MethodName := ⟨RX7, "withdraw", "(I)Z"⟩
abbrev cX7_seek : ByteArray := prog_9_method_59_code
def yX7_seek : MethodName := ⟨RX7, "seek", "(II)I"⟩
abbrev cX7_way : ByteArray := prog_9_method_60_code
def yX7_way : MethodName := ⟨RX7, "way", "(I)I"⟩
abbrev cX7_wayOf : ByteArray := prog_9_method_61_code
def yX7_wayOf : MethodName := ⟨RX7, "wayOf", "(II)I"⟩
abbrev cX7_holders : ByteArray := prog_9_method_62_code
def yX7_holders : MethodName := ⟨RX7, "holders", "(I)I"⟩
abbrev cX7_mayBe : ByteArray := prog_9_method_63_code
def yX7_mayBe : MethodName := ⟨RX7, "mayBe", "(J)V"⟩
abbrev cX7_nextBelow : ByteArray := prog_9_method_64_code
def yX7_nextBelow : MethodName := ⟨RX7, "nextBelow", "(JJ)J"⟩
abbrev cX7_greatest : ByteArray := prog_9_method_65_code
def yX7_greatest : MethodName := ⟨RX7, "greatest", "(IIZII)I"⟩
abbrev cX7_about : ByteArray := prog_9_method_66_code
def yX7_about : MethodName := ⟨RX7, "about", "(I)I"⟩
abbrev cX7_feed : ByteArray := prog_9_method_67_code
def yX7_feed : MethodName := ⟨RX7, "feed", "(IIIII)I"⟩
abbrev cX7_cut : ByteArray := prog_9_method_68_code
def yX7_cut : MethodName := ⟨RX7, "cut", "(I)I"⟩
def RJ9 : String := "java/lang/Math"
abbrev cJ9_max_7cf53 : ByteArray := prog_10_method_65_code
def yJ9_max_7cf53 : MethodName := ⟨RJ9, "max", "(II)I"⟩
abbrev cJ9_min_7cf53 : ByteArray := prog_10_method_69_code
def yJ9_min_7cf53 : MethodName := ⟨RJ9, "min", "(II)I"⟩
def RJ0 : String := "java/lang/String"
abbrev cJ0_length_8abf5 : ByteArray := prog_11_method_54_code
def yJ0_length_8abf5 : MethodName := ⟨RJ0, "length", "()I"⟩
abbrev cJ0_charAt_5068e : ByteArray := prog_11_method_56_code
def yJ0_charAt_5068e : MethodName := ⟨RJ0, "charAt", "(I)C"⟩
abbrev cJ0_coder_7d493 : ByteArray := prog_11_method_152_code
def yJ0_coder_7d493 : MethodName := ⟨RJ0, "coder", "()B"⟩
abbrev cJ0_isLatin1_aae02 : ByteArray := prog_11_method_154_code
def yJ0_isLatin1_aae02 : MethodName := ⟨RJ0, "isLatin1", "()Z"⟩
abbrev cJ0_checkIndex_df160 : ByteArray := prog_11_method_155_code
def yJ0_checkIndex_df160 : MethodName := ⟨RJ0, "checkIndex", "(II)V"⟩
def RJ1 : String := "java/lang/StringLatin1"
abbrev cJ1_charAt_3b067 : ByteArray := prog_12_method_2_code
def yJ1_charAt_3b067 : MethodName := ⟨RJ1, "charAt", "([BI)C"⟩
def RJ2 : String := "java/lang/StringUTF16"
abbrev cJ2_getChar_3b067 : ByteArray := prog_13_method_5_code
def yJ2_getChar_3b067 : MethodName := ⟨RJ2, "getChar", "([BI)C"⟩
abbrev cJ2_length_9d52b : ByteArray := prog_13_method_6_code
def yJ2_length_9d52b : MethodName := ⟨RJ2, "length", "([B)I"⟩
abbrev cJ2_charAt_3b067 : ByteArray := prog_13_method_83_code
def yJ2_charAt_3b067 : MethodName := ⟨RJ2, "charAt", "([BI)C"⟩
abbrev cJ2_checkIndex_2214a : ByteArray := prog_13_method_91_code
def yJ2_checkIndex_2214a : MethodName := ⟨RJ2, "checkIndex", "(I[B)V"⟩
def RJ3 : String := "jdk/internal/util/Preconditions"
abbrev cJ3_checkIndex_8e157 : ByteArray := prog_14_method_11_code
def yJ3_checkIndex_8e157 : MethodName := ⟨RJ3, "checkIndex", "(IILjava/util/function/BiFunction;)I"⟩
/-- the classes whose objects the worlds hold -/
abbrev kl_cl : List vw_C := [(RX0, TX0, 2), (RX1, TX1, 14), (RX2, TX2, 8), (RX3, TX3, 14), (RX4, TX4, 12), (RX5, TX5, 13), (RX6, TX6, 10), (RX7, TX7, 74)]
