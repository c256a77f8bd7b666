section
-- ===== PART A: goes FIRST, ahead of the names: the tables' words, and 'selects' of the private methods out of them =====
/-- a private method of a class that the tables say can be made, by its rows of tables_1 -/
def lw_okq (q : MethodName × Nat) : Prop := (q.1.cls ≠ "java/lang/invoke/MethodHandle" ∧ q.1.cls ≠ "java/lang/invoke/VarHandle") ∧ Cond.instantiable q.1.cls q.2 ∈ tables_1 ∧ Cond.privateMethod q.1 ∈ tables_1 ∧ Cond.instanceMethod q.1 ∈ tables_1
theorem lw_p0 : lw_okq (⟨"PenRoom$Staff", "deputiesOf", "(III)I"⟩, 13) := ⟨⟨by decide +kernel, by decide +kernel⟩, List.mem_of_getElem? (i := 23) (by decide +kernel), List.mem_of_getElem? (i := 317) (by decide +kernel), List.mem_of_getElem? (i := 318) (by decide +kernel)⟩
theorem lw_p1 : lw_okq (⟨"PenRoom$Staff", "standsOn", "(II)Z"⟩, 13) := ⟨⟨by decide +kernel, by decide +kernel⟩, List.mem_of_getElem? (i := 23) (by decide +kernel), List.mem_of_getElem? (i := 324) (by decide +kernel), List.mem_of_getElem? (i := 325) (by decide +kernel)⟩
theorem lw_p2 : lw_okq (⟨"PenRoom$Reader", "advance", "()V"⟩, 8) := ⟨⟨by decide +kernel, by decide +kernel⟩, List.mem_of_getElem? (i := 86) (by decide +kernel), List.mem_of_getElem? (i := 367) (by decide +kernel), List.mem_of_getElem? (i := 368) (by decide +kernel)⟩
theorem lw_p3 : lw_okq (⟨"PenRoom$Reader", "isLetter", "(I)Z"⟩, 8) := ⟨⟨by decide +kernel, by decide +kernel⟩, List.mem_of_getElem? (i := 86) (by decide +kernel), List.mem_of_getElem? (i := 371) (by decide +kernel), List.mem_of_getElem? (i := 372) (by decide +kernel)⟩
theorem lw_p4 : lw_okq (⟨"PenRoom$Reader", "skipLetters", "()V"⟩, 8) := ⟨⟨by decide +kernel, by decide +kernel⟩, List.mem_of_getElem? (i := 86) (by decide +kernel), List.mem_of_getElem? (i := 375) (by decide +kernel), List.mem_of_getElem? (i := 376) (by decide +kernel)⟩
theorem lw_p5 : lw_okq (⟨"PenRoom$Reader", "wordToken", "()I"⟩, 8) := ⟨⟨by decide +kernel, by decide +kernel⟩, List.mem_of_getElem? (i := 86) (by decide +kernel), List.mem_of_getElem? (i := 379) (by decide +kernel), List.mem_of_getElem? (i := 380) (by decide +kernel)⟩
theorem lw_p6 : lw_okq (⟨"PenRoom$Reader", "isDigit", "(I)Z"⟩, 8) := ⟨⟨by decide +kernel, by decide +kernel⟩, List.mem_of_getElem? (i := 86) (by decide +kernel), List.mem_of_getElem? (i := 432) (by decide +kernel), List.mem_of_getElem? (i := 433) (by decide +kernel)⟩
theorem lw_p7 : lw_okq (⟨"PenRoom$Reader", "readNumber", "()V"⟩, 8) := ⟨⟨by decide +kernel, by decide +kernel⟩, List.mem_of_getElem? (i := 86) (by decide +kernel), List.mem_of_getElem? (i := 436) (by decide +kernel), List.mem_of_getElem? (i := 437) (by decide +kernel)⟩
theorem lw_p8 : lw_okq (⟨"PenRoom$Reader", "readLimit", "(LPenRoom$RuleBook;)Z"⟩, 8) := ⟨⟨by decide +kernel, by decide +kernel⟩, List.mem_of_getElem? (i := 86) (by decide +kernel), List.mem_of_getElem? (i := 443) (by decide +kernel), List.mem_of_getElem? (i := 444) (by decide +kernel)⟩
theorem lw_p9 : lw_okq (⟨"PenRoom$Reader", "wrongToken", "()Z"⟩, 8) := ⟨⟨by decide +kernel, by decide +kernel⟩, List.mem_of_getElem? (i := 86) (by decide +kernel), List.mem_of_getElem? (i := 451) (by decide +kernel), List.mem_of_getElem? (i := 452) (by decide +kernel)⟩
theorem lw_p10 : lw_okq (⟨"PenRoom$Reader", "wrong", "(I)Z"⟩, 8) := ⟨⟨by decide +kernel, by decide +kernel⟩, List.mem_of_getElem? (i := 86) (by decide +kernel), List.mem_of_getElem? (i := 455) (by decide +kernel), List.mem_of_getElem? (i := 456) (by decide +kernel)⟩
theorem lw_p11 : lw_okq (⟨"PenRoom$Reader", "isRole", "()Z"⟩, 8) := ⟨⟨by decide +kernel, by decide +kernel⟩, List.mem_of_getElem? (i := 86) (by decide +kernel), List.mem_of_getElem? (i := 459) (by decide +kernel), List.mem_of_getElem? (i := 460) (by decide +kernel)⟩
theorem lw_p12 : lw_okq (⟨"PenRoom$Reader", "readAmount", "(I)I"⟩, 8) := ⟨⟨by decide +kernel, by decide +kernel⟩, List.mem_of_getElem? (i := 86) (by decide +kernel), List.mem_of_getElem? (i := 467) (by decide +kernel), List.mem_of_getElem? (i := 468) (by decide +kernel)⟩
theorem lw_p13 : lw_okq (⟨"PenRoom$Reader", "take", "(I)Z"⟩, 8) := ⟨⟨by decide +kernel, by decide +kernel⟩, List.mem_of_getElem? (i := 86) (by decide +kernel), List.mem_of_getElem? (i := 476) (by decide +kernel), List.mem_of_getElem? (i := 477) (by decide +kernel)⟩
theorem lw_p14 : lw_okq (⟨"PenRoom$Reader", "readKind", "(LPenRoom$RuleBook;)Z"⟩, 8) := ⟨⟨by decide +kernel, by decide +kernel⟩, List.mem_of_getElem? (i := 86) (by decide +kernel), List.mem_of_getElem? (i := 480) (by decide +kernel), List.mem_of_getElem? (i := 481) (by decide +kernel)⟩
theorem lw_p15 : lw_okq (⟨"PenRoom$Reader", "readEither", "(LPenRoom$RuleBook;I)Z"⟩, 8) := ⟨⟨by decide +kernel, by decide +kernel⟩, List.mem_of_getElem? (i := 86) (by decide +kernel), List.mem_of_getElem? (i := 493) (by decide +kernel), List.mem_of_getElem? (i := 494) (by decide +kernel)⟩
def lw_privs_1 : List (MethodName × Nat) := [(⟨"PenRoom$Staff", "deputiesOf", "(III)I"⟩, 13), (⟨"PenRoom$Staff", "standsOn", "(II)Z"⟩, 13), (⟨"PenRoom$Reader", "advance", "()V"⟩, 8), (⟨"PenRoom$Reader", "isLetter", "(I)Z"⟩, 8), (⟨"PenRoom$Reader", "skipLetters", "()V"⟩, 8), (⟨"PenRoom$Reader", "wordToken", "()I"⟩, 8), (⟨"PenRoom$Reader", "isDigit", "(I)Z"⟩, 8), (⟨"PenRoom$Reader", "readNumber", "()V"⟩, 8), (⟨"PenRoom$Reader", "readLimit", "(LPenRoom$RuleBook;)Z"⟩, 8), (⟨"PenRoom$Reader", "wrongToken", "()Z"⟩, 8), (⟨"PenRoom$Reader", "wrong", "(I)Z"⟩, 8), (⟨"PenRoom$Reader", "isRole", "()Z"⟩, 8), (⟨"PenRoom$Reader", "readAmount", "(I)I"⟩, 8), (⟨"PenRoom$Reader", "take", "(I)Z"⟩, 8), (⟨"PenRoom$Reader", "readKind", "(LPenRoom$RuleBook;)Z"⟩, 8), (⟨"PenRoom$Reader", "readEither", "(LPenRoom$RuleBook;I)Z"⟩, 8)]
theorem lw_r1 : ∀ q ∈ lw_privs_1, lw_okq q := List.forall_mem_cons.mpr ⟨lw_p0, List.forall_mem_cons.mpr ⟨lw_p1, List.forall_mem_cons.mpr ⟨lw_p2, List.forall_mem_cons.mpr ⟨lw_p3, List.forall_mem_cons.mpr ⟨lw_p4, List.forall_mem_cons.mpr ⟨lw_p5, List.forall_mem_cons.mpr ⟨lw_p6, List.forall_mem_cons.mpr ⟨lw_p7, List.forall_mem_cons.mpr ⟨lw_p8, List.forall_mem_cons.mpr ⟨lw_p9, List.forall_mem_cons.mpr ⟨lw_p10, List.forall_mem_cons.mpr ⟨lw_p11, List.forall_mem_cons.mpr ⟨lw_p12, List.forall_mem_cons.mpr ⟨lw_p13, List.forall_mem_cons.mpr ⟨lw_p14, List.forall_mem_cons.mpr ⟨lw_p15, fun _ h => absurd h List.not_mem_nil⟩⟩⟩⟩⟩⟩⟩⟩⟩⟩⟩⟩⟩⟩⟩⟩
theorem lw_p16 : lw_okq (⟨"PenRoom$Reader", "readOne", "(LPenRoom$RuleBook;I)Z"⟩, 8) := ⟨⟨by decide +kernel, by decide +kernel⟩, List.mem_of_getElem? (i := 86) (by decide +kernel), List.mem_of_getElem? (i := 497) (by decide +kernel), List.mem_of_getElem? (i := 498) (by decide +kernel)⟩
theorem lw_p17 : lw_okq (⟨"PenRoom$Reader", "readSumTest", "(LPenRoom$RuleBook;)Z"⟩, 8) := ⟨⟨by decide +kernel, by decide +kernel⟩, List.mem_of_getElem? (i := 86) (by decide +kernel), List.mem_of_getElem? (i := 505) (by decide +kernel), List.mem_of_getElem? (i := 506) (by decide +kernel)⟩
theorem lw_p18 : lw_okq (⟨"PenRoom$Reader", "readPlaceTest", "(LPenRoom$RuleBook;)Z"⟩, 8) := ⟨⟨by decide +kernel, by decide +kernel⟩, List.mem_of_getElem? (i := 86) (by decide +kernel), List.mem_of_getElem? (i := 518) (by decide +kernel), List.mem_of_getElem? (i := 519) (by decide +kernel)⟩
theorem lw_p19 : lw_okq (⟨"PenRoom$Reader", "readUrgentTest", "(LPenRoom$RuleBook;)Z"⟩, 8) := ⟨⟨by decide +kernel, by decide +kernel⟩, List.mem_of_getElem? (i := 86) (by decide +kernel), List.mem_of_getElem? (i := 522) (by decide +kernel), List.mem_of_getElem? (i := 523) (by decide +kernel)⟩
theorem lw_p20 : lw_okq (⟨"PenRoom$Reader", "readSteps", "(LPenRoom$RuleBook;)Z"⟩, 8) := ⟨⟨by decide +kernel, by decide +kernel⟩, List.mem_of_getElem? (i := 86) (by decide +kernel), List.mem_of_getElem? (i := 526) (by decide +kernel), List.mem_of_getElem? (i := 527) (by decide +kernel)⟩
theorem lw_p21 : lw_okq (⟨"PenRoom$Reader", "readNeed", "(LPenRoom$RuleBook;I)Z"⟩, 8) := ⟨⟨by decide +kernel, by decide +kernel⟩, List.mem_of_getElem? (i := 86) (by decide +kernel), List.mem_of_getElem? (i := 530) (by decide +kernel), List.mem_of_getElem? (i := 531) (by decide +kernel)⟩
theorem lw_p22 : lw_okq (⟨"PenRoom", "canBePaper", "(III)Z"⟩, 10) := ⟨⟨by decide +kernel, by decide +kernel⟩, List.mem_of_getElem? (i := 15) (by decide +kernel), List.mem_of_getElem? (i := 567) (by decide +kernel), List.mem_of_getElem? (i := 568) (by decide +kernel)⟩
theorem lw_p23 : lw_okq (⟨"PenRoom", "begin", "(I)V"⟩, 10) := ⟨⟨by decide +kernel, by decide +kernel⟩, List.mem_of_getElem? (i := 15) (by decide +kernel), List.mem_of_getElem? (i := 657) (by decide +kernel), List.mem_of_getElem? (i := 658) (by decide +kernel)⟩
theorem lw_p24 : lw_okq (⟨"PenRoom$RuleBook", "holds", "(IIIZ)Z"⟩, 14) := ⟨⟨by decide +kernel, by decide +kernel⟩, List.mem_of_getElem? (i := 161) (by decide +kernel), List.mem_of_getElem? (i := 677) (by decide +kernel), List.mem_of_getElem? (i := 678) (by decide +kernel)⟩
theorem lw_p25 : lw_okq (⟨"PenRoom$RuleBook", "passes", "(IIIZ)Z"⟩, 14) := ⟨⟨by decide +kernel, by decide +kernel⟩, List.mem_of_getElem? (i := 161) (by decide +kernel), List.mem_of_getElem? (i := 681) (by decide +kernel), List.mem_of_getElem? (i := 682) (by decide +kernel)⟩
theorem lw_p26 : lw_okq (⟨"PenRoom$Search", "takeOff", "(LPenRoom$Paper;I)V"⟩, 12) := ⟨⟨by decide +kernel, by decide +kernel⟩, List.mem_of_getElem? (i := 118) (by decide +kernel), List.mem_of_getElem? (i := 731) (by decide +kernel), List.mem_of_getElem? (i := 732) (by decide +kernel)⟩
theorem lw_p27 : lw_okq (⟨"PenRoom$Search", "room", "(II)I"⟩, 12) := ⟨⟨by decide +kernel, by decide +kernel⟩, List.mem_of_getElem? (i := 118) (by decide +kernel), List.mem_of_getElem? (i := 753) (by decide +kernel), List.mem_of_getElem? (i := 754) (by decide +kernel)⟩
theorem lw_p28 : lw_okq (⟨"PenRoom$Search", "addOpen", "(II)V"⟩, 12) := ⟨⟨by decide +kernel, by decide +kernel⟩, List.mem_of_getElem? (i := 118) (by decide +kernel), List.mem_of_getElem? (i := 800) (by decide +kernel), List.mem_of_getElem? (i := 801) (by decide +kernel)⟩
theorem lw_p29 : lw_okq (⟨"PenRoom$Search", "seekFrom", "(II)Z"⟩, 12) := ⟨⟨by decide +kernel, by decide +kernel⟩, List.mem_of_getElem? (i := 118) (by decide +kernel), List.mem_of_getElem? (i := 808) (by decide +kernel), List.mem_of_getElem? (i := 809) (by decide +kernel)⟩
theorem lw_p30 : lw_okq (⟨"PenRoom", "seekByRule", "(IIII)I"⟩, 10) := ⟨⟨by decide +kernel, by decide +kernel⟩, List.mem_of_getElem? (i := 15) (by decide +kernel), List.mem_of_getElem? (i := 837) (by decide +kernel), List.mem_of_getElem? (i := 838) (by decide +kernel)⟩
theorem lw_p31 : lw_okq (⟨"PenRoom", "nextSum", "(III)I"⟩, 10) := ⟨⟨by decide +kernel, by decide +kernel⟩, List.mem_of_getElem? (i := 15) (by decide +kernel), List.mem_of_getElem? (i := 853) (by decide +kernel), List.mem_of_getElem? (i := 854) (by decide +kernel)⟩
def lw_privs_2 : List (MethodName × Nat) := [(⟨"PenRoom$Reader", "readOne", "(LPenRoom$RuleBook;I)Z"⟩, 8), (⟨"PenRoom$Reader", "readSumTest", "(LPenRoom$RuleBook;)Z"⟩, 8), (⟨"PenRoom$Reader", "readPlaceTest", "(LPenRoom$RuleBook;)Z"⟩, 8), (⟨"PenRoom$Reader", "readUrgentTest", "(LPenRoom$RuleBook;)Z"⟩, 8), (⟨"PenRoom$Reader", "readSteps", "(LPenRoom$RuleBook;)Z"⟩, 8), (⟨"PenRoom$Reader", "readNeed", "(LPenRoom$RuleBook;I)Z"⟩, 8), (⟨"PenRoom", "canBePaper", "(III)Z"⟩, 10), (⟨"PenRoom", "begin", "(I)V"⟩, 10), (⟨"PenRoom$RuleBook", "holds", "(IIIZ)Z"⟩, 14), (⟨"PenRoom$RuleBook", "passes", "(IIIZ)Z"⟩, 14), (⟨"PenRoom$Search", "takeOff", "(LPenRoom$Paper;I)V"⟩, 12), (⟨"PenRoom$Search", "room", "(II)I"⟩, 12), (⟨"PenRoom$Search", "addOpen", "(II)V"⟩, 12), (⟨"PenRoom$Search", "seekFrom", "(II)Z"⟩, 12), (⟨"PenRoom", "seekByRule", "(IIII)I"⟩, 10), (⟨"PenRoom", "nextSum", "(III)I"⟩, 10)]
theorem lw_r2 : ∀ q ∈ lw_privs_2, lw_okq q := List.forall_mem_cons.mpr ⟨lw_p16, List.forall_mem_cons.mpr ⟨lw_p17, List.forall_mem_cons.mpr ⟨lw_p18, List.forall_mem_cons.mpr ⟨lw_p19, List.forall_mem_cons.mpr ⟨lw_p20, List.forall_mem_cons.mpr ⟨lw_p21, List.forall_mem_cons.mpr ⟨lw_p22, List.forall_mem_cons.mpr ⟨lw_p23, List.forall_mem_cons.mpr ⟨lw_p24, List.forall_mem_cons.mpr ⟨lw_p25, List.forall_mem_cons.mpr ⟨lw_p26, List.forall_mem_cons.mpr ⟨lw_p27, List.forall_mem_cons.mpr ⟨lw_p28, List.forall_mem_cons.mpr ⟨lw_p29, List.forall_mem_cons.mpr ⟨lw_p30, List.forall_mem_cons.mpr ⟨lw_p31, fun _ h => absurd h List.not_mem_nil⟩⟩⟩⟩⟩⟩⟩⟩⟩⟩⟩⟩⟩⟩⟩⟩
theorem lw_p32 : lw_okq (⟨"PenRoom$RuleBook", "changePoint", "(II)I"⟩, 14) := ⟨⟨by decide +kernel, by decide +kernel⟩, List.mem_of_getElem? (i := 161) (by decide +kernel), List.mem_of_getElem? (i := 873) (by decide +kernel), List.mem_of_getElem? (i := 874) (by decide +kernel)⟩
theorem lw_p33 : lw_okq (⟨"PenRoomModel", "isPerson", "(I)Z"⟩, 74) := ⟨⟨by decide +kernel, by decide +kernel⟩, List.mem_of_getElem? (i := 897) (by decide +kernel), List.mem_of_getElem? (i := 1135) (by decide +kernel), List.mem_of_getElem? (i := 1136) (by decide +kernel)⟩
theorem lw_p34 : lw_okq (⟨"PenRoomModel", "actsFor", "(III)I"⟩, 74) := ⟨⟨by decide +kernel, by decide +kernel⟩, List.mem_of_getElem? (i := 897) (by decide +kernel), List.mem_of_getElem? (i := 1160) (by decide +kernel), List.mem_of_getElem? (i := 1161) (by decide +kernel)⟩
theorem lw_p35 : lw_okq (⟨"PenRoomModel", "isAway", "(II)Z"⟩, 74) := ⟨⟨by decide +kernel, by decide +kernel⟩, List.mem_of_getElem? (i := 897) (by decide +kernel), List.mem_of_getElem? (i := 1164) (by decide +kernel), List.mem_of_getElem? (i := 1165) (by decide +kernel)⟩
theorem lw_p36 : lw_okq (⟨"PenRoomModel", "next", "()V"⟩, 74) := ⟨⟨by decide +kernel, by decide +kernel⟩, List.mem_of_getElem? (i := 897) (by decide +kernel), List.mem_of_getElem? (i := 1176) (by decide +kernel), List.mem_of_getElem? (i := 1177) (by decide +kernel)⟩
theorem lw_p37 : lw_okq (⟨"PenRoomModel", "byteAt", "(I)I"⟩, 74) := ⟨⟨by decide +kernel, by decide +kernel⟩, List.mem_of_getElem? (i := 897) (by decide +kernel), List.mem_of_getElem? (i := 1180) (by decide +kernel), List.mem_of_getElem? (i := 1181) (by decide +kernel)⟩
theorem lw_p38 : lw_okq (⟨"PenRoomModel", "isGood", "()Z"⟩, 74) := ⟨⟨by decide +kernel, by decide +kernel⟩, List.mem_of_getElem? (i := 897) (by decide +kernel), List.mem_of_getElem? (i := 1190) (by decide +kernel), List.mem_of_getElem? (i := 1191) (by decide +kernel)⟩
theorem lw_p39 : lw_okq (⟨"PenRoomModel", "readLine", "()V"⟩, 74) := ⟨⟨by decide +kernel, by decide +kernel⟩, List.mem_of_getElem? (i := 897) (by decide +kernel), List.mem_of_getElem? (i := 1194) (by decide +kernel), List.mem_of_getElem? (i := 1195) (by decide +kernel)⟩
theorem lw_p40 : lw_okq (⟨"PenRoomModel", "isWord", "(J)Z"⟩, 74) := ⟨⟨by decide +kernel, by decide +kernel⟩, List.mem_of_getElem? (i := 897) (by decide +kernel), List.mem_of_getElem? (i := 1199) (by decide +kernel), List.mem_of_getElem? (i := 1200) (by decide +kernel)⟩
theorem lw_p41 : lw_okq (⟨"PenRoomModel", "wrong", "()V"⟩, 74) := ⟨⟨by decide +kernel, by decide +kernel⟩, List.mem_of_getElem? (i := 897) (by decide +kernel), List.mem_of_getElem? (i := 1204) (by decide +kernel), List.mem_of_getElem? (i := 1205) (by decide +kernel)⟩
theorem lw_p42 : lw_okq (⟨"PenRoomModel", "fails", "(II)V"⟩, 74) := ⟨⟨by decide +kernel, by decide +kernel⟩, List.mem_of_getElem? (i := 897) (by decide +kernel), List.mem_of_getElem? (i := 1208) (by decide +kernel), List.mem_of_getElem? (i := 1209) (by decide +kernel)⟩
theorem lw_p43 : lw_okq (⟨"PenRoomModel", "readRule", "()V"⟩, 74) := ⟨⟨by decide +kernel, by decide +kernel⟩, List.mem_of_getElem? (i := 897) (by decide +kernel), List.mem_of_getElem? (i := 1212) (by decide +kernel), List.mem_of_getElem? (i := 1213) (by decide +kernel)⟩
theorem lw_p44 : lw_okq (⟨"PenRoomModel", "kindHere", "()I"⟩, 74) := ⟨⟨by decide +kernel, by decide +kernel⟩, List.mem_of_getElem? (i := 897) (by decide +kernel), List.mem_of_getElem? (i := 1216) (by decide +kernel), List.mem_of_getElem? (i := 1217) (by decide +kernel)⟩
theorem lw_p45 : lw_okq (⟨"PenRoomModel", "e", "()V"⟩, 74) := ⟨⟨by decide +kernel, by decide +kernel⟩, List.mem_of_getElem? (i := 897) (by decide +kernel), List.mem_of_getElem? (i := 1225) (by decide +kernel), List.mem_of_getElem? (i := 1226) (by decide +kernel)⟩
theorem lw_p46 : lw_okq (⟨"PenRoomModel", "pile", "(I)V"⟩, 74) := ⟨⟨by decide +kernel, by decide +kernel⟩, List.mem_of_getElem? (i := 897) (by decide +kernel), List.mem_of_getElem? (i := 1229) (by decide +kernel), List.mem_of_getElem? (i := 1230) (by decide +kernel)⟩
theorem lw_p47 : lw_okq (⟨"PenRoomModel", "one", "()Z"⟩, 74) := ⟨⟨by decide +kernel, by decide +kernel⟩, List.mem_of_getElem? (i := 897) (by decide +kernel), List.mem_of_getElem? (i := 1233) (by decide +kernel), List.mem_of_getElem? (i := 1234) (by decide +kernel)⟩
def lw_privs_3 : List (MethodName × Nat) := [(⟨"PenRoom$RuleBook", "changePoint", "(II)I"⟩, 14), (⟨"PenRoomModel", "isPerson", "(I)Z"⟩, 74), (⟨"PenRoomModel", "actsFor", "(III)I"⟩, 74), (⟨"PenRoomModel", "isAway", "(II)Z"⟩, 74), (⟨"PenRoomModel", "next", "()V"⟩, 74), (⟨"PenRoomModel", "byteAt", "(I)I"⟩, 74), (⟨"PenRoomModel", "isGood", "()Z"⟩, 74), (⟨"PenRoomModel", "readLine", "()V"⟩, 74), (⟨"PenRoomModel", "isWord", "(J)Z"⟩, 74), (⟨"PenRoomModel", "wrong", "()V"⟩, 74), (⟨"PenRoomModel", "fails", "(II)V"⟩, 74), (⟨"PenRoomModel", "readRule", "()V"⟩, 74), (⟨"PenRoomModel", "kindHere", "()I"⟩, 74), (⟨"PenRoomModel", "e", "()V"⟩, 74), (⟨"PenRoomModel", "pile", "(I)V"⟩, 74), (⟨"PenRoomModel", "one", "()Z"⟩, 74)]
theorem lw_r3 : ∀ q ∈ lw_privs_3, lw_okq q := List.forall_mem_cons.mpr ⟨lw_p32, List.forall_mem_cons.mpr ⟨lw_p33, List.forall_mem_cons.mpr ⟨lw_p34, List.forall_mem_cons.mpr ⟨lw_p35, List.forall_mem_cons.mpr ⟨lw_p36, List.forall_mem_cons.mpr ⟨lw_p37, List.forall_mem_cons.mpr ⟨lw_p38, List.forall_mem_cons.mpr ⟨lw_p39, List.forall_mem_cons.mpr ⟨lw_p40, List.forall_mem_cons.mpr ⟨lw_p41, List.forall_mem_cons.mpr ⟨lw_p42, List.forall_mem_cons.mpr ⟨lw_p43, List.forall_mem_cons.mpr ⟨lw_p44, List.forall_mem_cons.mpr ⟨lw_p45, List.forall_mem_cons.mpr ⟨lw_p46, List.forall_mem_cons.mpr ⟨lw_p47, fun _ h => absurd h List.not_mem_nil⟩⟩⟩⟩⟩⟩⟩⟩⟩⟩⟩⟩⟩⟩⟩⟩
theorem lw_p48 : lw_okq (⟨"PenRoomModel", "is", "(I)Z"⟩, 74) := ⟨⟨by decide +kernel, by decide +kernel⟩, List.mem_of_getElem? (i := 897) (by decide +kernel), List.mem_of_getElem? (i := 1237) (by decide +kernel), List.mem_of_getElem? (i := 1238) (by decide +kernel)⟩
theorem lw_p49 : lw_okq (⟨"PenRoomModel", "put", "(II)V"⟩, 74) := ⟨⟨by decide +kernel, by decide +kernel⟩, List.mem_of_getElem? (i := 897) (by decide +kernel), List.mem_of_getElem? (i := 1245) (by decide +kernel), List.mem_of_getElem? (i := 1246) (by decide +kernel)⟩
theorem lw_p50 : lw_okq (⟨"PenRoomModel", "must", "(I)V"⟩, 74) := ⟨⟨by decide +kernel, by decide +kernel⟩, List.mem_of_getElem? (i := 897) (by decide +kernel), List.mem_of_getElem? (i := 1249) (by decide +kernel), List.mem_of_getElem? (i := 1250) (by decide +kernel)⟩
theorem lw_p51 : lw_okq (⟨"PenRoomModel", "numeral", "()I"⟩, 74) := ⟨⟨by decide +kernel, by decide +kernel⟩, List.mem_of_getElem? (i := 897) (by decide +kernel), List.mem_of_getElem? (i := 1253) (by decide +kernel), List.mem_of_getElem? (i := 1254) (by decide +kernel)⟩
theorem lw_p52 : lw_okq (⟨"PenRoomModel", "behind", "()Z"⟩, 74) := ⟨⟨by decide +kernel, by decide +kernel⟩, List.mem_of_getElem? (i := 897) (by decide +kernel), List.mem_of_getElem? (i := 1257) (by decide +kernel), List.mem_of_getElem? (i := 1258) (by decide +kernel)⟩
theorem lw_p53 : lw_okq (⟨"PenRoomModel", "readStep", "(II)V"⟩, 74) := ⟨⟨by decide +kernel, by decide +kernel⟩, List.mem_of_getElem? (i := 897) (by decide +kernel), List.mem_of_getElem? (i := 1263) (by decide +kernel), List.mem_of_getElem? (i := 1264) (by decide +kernel)⟩
theorem lw_p54 : lw_okq (⟨"PenRoomModel", "roleHere", "()I"⟩, 74) := ⟨⟨by decide +kernel, by decide +kernel⟩, List.mem_of_getElem? (i := 897) (by decide +kernel), List.mem_of_getElem? (i := 1267) (by decide +kernel), List.mem_of_getElem? (i := 1268) (by decide +kernel)⟩
theorem lw_p55 : lw_okq (⟨"PenRoomModel", "readLimit", "()V"⟩, 74) := ⟨⟨by decide +kernel, by decide +kernel⟩, List.mem_of_getElem? (i := 897) (by decide +kernel), List.mem_of_getElem? (i := 1280) (by decide +kernel), List.mem_of_getElem? (i := 1281) (by decide +kernel)⟩
theorem lw_p56 : lw_okq (⟨"PenRoomModel", "set", "(IIIIIZ)V"⟩, 74) := ⟨⟨by decide +kernel, by decide +kernel⟩, List.mem_of_getElem? (i := 897) (by decide +kernel), List.mem_of_getElem? (i := 1301) (by decide +kernel), List.mem_of_getElem? (i := 1302) (by decide +kernel)⟩
theorem lw_p57 : lw_okq (⟨"PenRoomModel", "begin", "(II)V"⟩, 74) := ⟨⟨by decide +kernel, by decide +kernel⟩, List.mem_of_getElem? (i := 897) (by decide +kernel), List.mem_of_getElem? (i := 1305) (by decide +kernel), List.mem_of_getElem? (i := 1306) (by decide +kernel)⟩
theorem lw_p58 : lw_okq (⟨"PenRoomModel", "others", "(IIIII)J"⟩, 74) := ⟨⟨by decide +kernel, by decide +kernel⟩, List.mem_of_getElem? (i := 897) (by decide +kernel), List.mem_of_getElem? (i := 1309) (by decide +kernel), List.mem_of_getElem? (i := 1310) (by decide +kernel)⟩
theorem lw_p59 : lw_okq (⟨"PenRoomModel", "ruleFor", "(IJIZ)I"⟩, 74) := ⟨⟨by decide +kernel, by decide +kernel⟩, List.mem_of_getElem? (i := 897) (by decide +kernel), List.mem_of_getElem? (i := 1313) (by decide +kernel), List.mem_of_getElem? (i := 1314) (by decide +kernel)⟩
theorem lw_p60 : lw_okq (⟨"PenRoomModel", "holds", "(IJIZ)Z"⟩, 74) := ⟨⟨by decide +kernel, by decide +kernel⟩, List.mem_of_getElem? (i := 897) (by decide +kernel), List.mem_of_getElem? (i := 1317) (by decide +kernel), List.mem_of_getElem? (i := 1318) (by decide +kernel)⟩
theorem lw_p61 : lw_okq (⟨"PenRoomModel", "isPaper", "(I)Z"⟩, 74) := ⟨⟨by decide +kernel, by decide +kernel⟩, List.mem_of_getElem? (i := 897) (by decide +kernel), List.mem_of_getElem? (i := 1325) (by decide +kernel), List.mem_of_getElem? (i := 1326) (by decide +kernel)⟩
theorem lw_p62 : lw_okq (⟨"PenRoomModel", "signedOf", "(I)I"⟩, 74) := ⟨⟨by decide +kernel, by decide +kernel⟩, List.mem_of_getElem? (i := 897) (by decide +kernel), List.mem_of_getElem? (i := 1329) (by decide +kernel), List.mem_of_getElem? (i := 1330) (by decide +kernel)⟩
theorem lw_p63 : lw_okq (⟨"PenRoomModel", "stepOf", "(I)I"⟩, 74) := ⟨⟨by decide +kernel, by decide +kernel⟩, List.mem_of_getElem? (i := 897) (by decide +kernel), List.mem_of_getElem? (i := 1333) (by decide +kernel), List.mem_of_getElem? (i := 1334) (by decide +kernel)⟩
def lw_privs_4 : List (MethodName × Nat) := [(⟨"PenRoomModel", "is", "(I)Z"⟩, 74), (⟨"PenRoomModel", "put", "(II)V"⟩, 74), (⟨"PenRoomModel", "must", "(I)V"⟩, 74), (⟨"PenRoomModel", "numeral", "()I"⟩, 74), (⟨"PenRoomModel", "behind", "()Z"⟩, 74), (⟨"PenRoomModel", "readStep", "(II)V"⟩, 74), (⟨"PenRoomModel", "roleHere", "()I"⟩, 74), (⟨"PenRoomModel", "readLimit", "()V"⟩, 74), (⟨"PenRoomModel", "set", "(IIIIIZ)V"⟩, 74), (⟨"PenRoomModel", "begin", "(II)V"⟩, 74), (⟨"PenRoomModel", "others", "(IIIII)J"⟩, 74), (⟨"PenRoomModel", "ruleFor", "(IJIZ)I"⟩, 74), (⟨"PenRoomModel", "holds", "(IJIZ)Z"⟩, 74), (⟨"PenRoomModel", "isPaper", "(I)Z"⟩, 74), (⟨"PenRoomModel", "signedOf", "(I)I"⟩, 74), (⟨"PenRoomModel", "stepOf", "(I)I"⟩, 74)]
theorem lw_r4 : ∀ q ∈ lw_privs_4, lw_okq q := List.forall_mem_cons.mpr ⟨lw_p48, List.forall_mem_cons.mpr ⟨lw_p49, List.forall_mem_cons.mpr ⟨lw_p50, List.forall_mem_cons.mpr ⟨lw_p51, List.forall_mem_cons.mpr ⟨lw_p52, List.forall_mem_cons.mpr ⟨lw_p53, List.forall_mem_cons.mpr ⟨lw_p54, List.forall_mem_cons.mpr ⟨lw_p55, List.forall_mem_cons.mpr ⟨lw_p56, List.forall_mem_cons.mpr ⟨lw_p57, List.forall_mem_cons.mpr ⟨lw_p58, List.forall_mem_cons.mpr ⟨lw_p59, List.forall_mem_cons.mpr ⟨lw_p60, List.forall_mem_cons.mpr ⟨lw_p61, List.forall_mem_cons.mpr ⟨lw_p62, List.forall_mem_cons.mpr ⟨lw_p63, fun _ h => absurd h List.not_mem_nil⟩⟩⟩⟩⟩⟩⟩⟩⟩⟩⟩⟩⟩⟩⟩⟩
theorem lw_p64 : lw_okq (⟨"PenRoomModel", "signedBy", "(IIIZ)J"⟩, 74) := ⟨⟨by decide +kernel, by decide +kernel⟩, List.mem_of_getElem? (i := 897) (by decide +kernel), List.mem_of_getElem? (i := 1346) (by decide +kernel), List.mem_of_getElem? (i := 1347) (by decide +kernel)⟩
theorem lw_p65 : lw_okq (⟨"PenRoomModel", "isOpen", "(II)Z"⟩, 74) := ⟨⟨by decide +kernel, by decide +kernel⟩, List.mem_of_getElem? (i := 897) (by decide +kernel), List.mem_of_getElem? (i := 1354) (by decide +kernel), List.mem_of_getElem? (i := 1355) (by decide +kernel)⟩
theorem lw_p66 : lw_okq (⟨"PenRoomModel", "lookAt", "(I)V"⟩, 74) := ⟨⟨by decide +kernel, by decide +kernel⟩, List.mem_of_getElem? (i := 897) (by decide +kernel), List.mem_of_getElem? (i := 1358) (by decide +kernel), List.mem_of_getElem? (i := 1359) (by decide +kernel)⟩
theorem lw_p67 : lw_okq (⟨"PenRoomModel", "fits", "(IIIII)Z"⟩, 74) := ⟨⟨by decide +kernel, by decide +kernel⟩, List.mem_of_getElem? (i := 897) (by decide +kernel), List.mem_of_getElem? (i := 1362) (by decide +kernel), List.mem_of_getElem? (i := 1363) (by decide +kernel)⟩
theorem lw_p68 : lw_okq (⟨"PenRoomModel", "room", "(II)J"⟩, 74) := ⟨⟨by decide +kernel, by decide +kernel⟩, List.mem_of_getElem? (i := 897) (by decide +kernel), List.mem_of_getElem? (i := 1366) (by decide +kernel), List.mem_of_getElem? (i := 1367) (by decide +kernel)⟩
theorem lw_p69 : lw_okq (⟨"PenRoomModel", "seek", "(II)I"⟩, 74) := ⟨⟨by decide +kernel, by decide +kernel⟩, List.mem_of_getElem? (i := 897) (by decide +kernel), List.mem_of_getElem? (i := 1383) (by decide +kernel), List.mem_of_getElem? (i := 1384) (by decide +kernel)⟩
theorem lw_p70 : lw_okq (⟨"PenRoomModel", "nextBelow", "(JJ)J"⟩, 74) := ⟨⟨by decide +kernel, by decide +kernel⟩, List.mem_of_getElem? (i := 897) (by decide +kernel), List.mem_of_getElem? (i := 1399) (by decide +kernel), List.mem_of_getElem? (i := 1400) (by decide +kernel)⟩
theorem lw_p71 : lw_okq (⟨"PenRoomModel", "mayBe", "(J)V"⟩, 74) := ⟨⟨by decide +kernel, by decide +kernel⟩, List.mem_of_getElem? (i := 897) (by decide +kernel), List.mem_of_getElem? (i := 1403) (by decide +kernel), List.mem_of_getElem? (i := 1404) (by decide +kernel)⟩
def lw_privs_5 : List (MethodName × Nat) := [(⟨"PenRoomModel", "signedBy", "(IIIZ)J"⟩, 74), (⟨"PenRoomModel", "isOpen", "(II)Z"⟩, 74), (⟨"PenRoomModel", "lookAt", "(I)V"⟩, 74), (⟨"PenRoomModel", "fits", "(IIIII)Z"⟩, 74), (⟨"PenRoomModel", "room", "(II)J"⟩, 74), (⟨"PenRoomModel", "seek", "(II)I"⟩, 74), (⟨"PenRoomModel", "nextBelow", "(JJ)J"⟩, 74), (⟨"PenRoomModel", "mayBe", "(J)V"⟩, 74)]
theorem lw_r5 : ∀ q ∈ lw_privs_5, lw_okq q := List.forall_mem_cons.mpr ⟨lw_p64, List.forall_mem_cons.mpr ⟨lw_p65, List.forall_mem_cons.mpr ⟨lw_p66, List.forall_mem_cons.mpr ⟨lw_p67, List.forall_mem_cons.mpr ⟨lw_p68, List.forall_mem_cons.mpr ⟨lw_p69, List.forall_mem_cons.mpr ⟨lw_p70, List.forall_mem_cons.mpr ⟨lw_p71, fun _ h => absurd h List.not_mem_nil⟩⟩⟩⟩⟩⟩⟩⟩
def lw_privs : List (MethodName × Nat) := lw_privs_1 ++ (lw_privs_2 ++ (lw_privs_3 ++ (lw_privs_4 ++ (lw_privs_5))))
def lw_tbl : List Cond := k2_sels lw_privs ++ tables_1
theorem lw_privs_ok : ∀ q ∈ lw_privs, lw_okq q := by
  show ∀ q ∈ lw_privs_1 ++ (lw_privs_2 ++ (lw_privs_3 ++ (lw_privs_4 ++ (lw_privs_5)))), lw_okq q
  exact List.forall_mem_append.mpr ⟨lw_r1, List.forall_mem_append.mpr ⟨lw_r2, List.forall_mem_append.mpr ⟨lw_r3, List.forall_mem_append.mpr ⟨lw_r4, lw_r5⟩⟩⟩⟩
def RX0 : String := "PenRoom$Cabinet"
def TX0 : u_T := fun k => match k with
  | 0 => ("PenRoom$Cabinet", "papers", "[LPenRoom$Paper;", true)
  | _ => ("PenRoom$Cabinet", "count", "I", false)
def tyX0 : Nat → FieldType := fun k => match k with
  | 0 => .array (.object "PenRoom$Paper")
  | _ => .int
theorem nmX0 : ∀ a, a < 2 → ∀ b, b < 2 → a ≠ b → (TX0 a).2.1 ≠ (TX0 b).2.1 := by decide +kernel
theorem tyX0_ok : ∀ k, k < 2 → parseFieldDescriptor (TX0 k).2.2.1 = some (tyX0 k) := by decide +kernel
abbrev cX0_init : ByteArray := prog_2_method_1_code
def yX0_init : MethodName := ⟨RX0, "<init>", "()V"⟩
abbrev cX0_size : ByteArray := prog_2_method_2_code
def yX0_size : MethodName := ⟨RX0, "size", "()I"⟩
abbrev cX0_isFull : ByteArray := prog_2_method_3_code
def yX0_isFull : MethodName := ⟨RX0, "isFull", "()Z"⟩
abbrev cX0_at : ByteArray := prog_2_method_4_code
def yX0_at : MethodName := ⟨RX0, "at", "(I)LPenRoom$Paper;"⟩
abbrev cX0_add : ByteArray := prog_2_method_5_code
def yX0_add : MethodName := ⟨RX0, "add", "(LPenRoom$Paper;)I"⟩
abbrev cX0_sumOfOthers : ByteArray := prog_2_method_6_code
def yX0_sumOfOthers : MethodName := ⟨RX0, "sumOfOthers", "(IIIII)I"⟩
abbrev cX0_total : ByteArray := prog_2_method_7_code
def yX0_total : MethodName := ⟨RX0, "total", "(IIIZ)J"⟩
abbrev cX0_isWithin : ByteArray := prog_2_method_8_code
def yX0_isWithin : MethodName := ⟨RX0, "isWithin", "(IIZ)Z"⟩
def RX1 : String := "PenRoom$Paper"
def TX1 : u_T := fun k => match k with
  | 0 => ("PenRoom$Paper", "kind", "I", true)
  | 1 => ("PenRoom$Paper", "sum", "I", true)
  | 2 => ("PenRoom$Paper", "maker", "I", true)
  | 3 => ("PenRoom$Paper", "place", "I", true)
  | 4 => ("PenRoom$Paper", "urgent", "Z", true)
  | 5 => ("PenRoom$Paper", "state", "I", false)
  | 6 => ("PenRoom$Paper", "joined", "I", false)
  | 7 => ("PenRoom$Paper", "begunOn", "I", false)
  | 8 => ("PenRoom$Paper", "slots", "I", false)
  | 9 => ("PenRoom$Paper", "role", "[I", true)
  | 10 => ("PenRoom$Paper", "step", "[I", true)
  | 11 => ("PenRoom$Paper", "hand", "[I", true)
  | 12 => ("PenRoom$Paper", "name", "[I", true)
  | _ => ("PenRoom$Paper", "signedOn", "[I", true)
def tyX1 : Nat → FieldType := fun k => match k with
  | 0 => .int
  | 1 => .int
  | 2 => .int
  | 3 => .int
  | 4 => .boolean
  | 5 => .int
  | 6 => .int
  | 7 => .int
  | 8 => .int
  | 9 => .array .int
  | 10 => .array .int
  | 11 => .array .int
  | 12 => .array .int
  | _ => .array .int
theorem nmX1 : ∀ a, a < 14 → ∀ b, b < 14 → a ≠ b → (TX1 a).2.1 ≠ (TX1 b).2.1 := by decide +kernel
theorem tyX1_ok : ∀ k, k < 14 → parseFieldDescriptor (TX1 k).2.2.1 = some (tyX1 k) := by decide +kernel
abbrev cX1_init : ByteArray := prog_3_method_1_code
def yX1_init : MethodName := ⟨RX1, "<init>", "(IIIIZ)V"⟩
abbrev cX1_clearSlots : ByteArray := prog_3_method_2_code
def yX1_clearSlots : MethodName := ⟨RX1, "clearSlots", "()V"⟩
abbrev cX1_addSlot : ByteArray := prog_3_method_3_code
def yX1_addSlot : MethodName := ⟨RX1, "addSlot", "(II)V"⟩
abbrev cX1_isSigned : ByteArray := prog_3_method_4_code
def yX1_isSigned : MethodName := ⟨RX1, "isSigned", "(I)Z"⟩
abbrev cX1_signedSlots : ByteArray := prog_3_method_5_code
def yX1_signedSlots : MethodName := ⟨RX1, "signedSlots", "()I"⟩
abbrev cX1_firstOpenStep : ByteArray := prog_3_method_6_code
def yX1_firstOpenStep : MethodName := ⟨RX1, "firstOpenStep", "()I"⟩
abbrev cX1_isOpenNow : ByteArray := prog_3_method_7_code
def yX1_isOpenNow : MethodName := ⟨RX1, "isOpenNow", "(I)Z"⟩
abbrev cX1_taken : ByteArray := prog_3_method_8_code
def yX1_taken : MethodName := ⟨RX1, "taken", "()I"⟩
abbrev cX1_put : ByteArray := prog_3_method_9_code
def yX1_put : MethodName := ⟨RX1, "put", "(IIII)V"⟩
def RX2 : String := "PenRoom$Reader"
def TX2 : u_T := fun k => match k with
  | 0 => ("PenRoom$Reader", "tape", "[B", true)
  | 1 => ("PenRoom$Reader", "length", "I", false)
  | 2 => ("PenRoom$Reader", "at", "I", false)
  | 3 => ("PenRoom$Reader", "start", "I", false)
  | 4 => ("PenRoom$Reader", "token", "I", false)
  | 5 => ("PenRoom$Reader", "number", "I", false)
  | 6 => ("PenRoom$Reader", "fault", "I", false)
  | _ => ("PenRoom$Reader", "place", "I", false)
def tyX2 : Nat → FieldType := fun k => match k with
  | 0 => .array .byte
  | 1 => .int
  | 2 => .int
  | 3 => .int
  | 4 => .int
  | 5 => .int
  | 6 => .int
  | _ => .int
theorem nmX2 : ∀ a, a < 8 → ∀ b, b < 8 → a ≠ b → (TX2 a).2.1 ≠ (TX2 b).2.1 := by decide +kernel
theorem tyX2_ok : ∀ k, k < 8 → parseFieldDescriptor (TX2 k).2.2.1 = some (tyX2 k) := by decide +kernel
abbrev cX2_init : ByteArray := prog_4_method_1_code
def yX2_init : MethodName := ⟨RX2, "<init>", "()V"⟩
abbrev cX2_size : ByteArray := prog_4_method_2_code
def yX2_size : MethodName := ⟨RX2, "size", "()I"⟩
abbrev cX2_faultNumber : ByteArray := prog_4_method_3_code
def yX2_faultNumber : MethodName := ⟨RX2, "faultNumber", "()I"⟩
abbrev cX2_faultPlace : ByteArray := prog_4_method_4_code
def yX2_faultPlace : MethodName := ⟨RX2, "faultPlace", "()I"⟩
abbrev cX2_hasRoomFor : ByteArray := prog_4_method_5_code
def yX2_hasRoomFor : MethodName := ⟨RX2, "hasRoomFor", "(I)Z"⟩
abbrev cX2_put : ByteArray := prog_4_method_6_code
def yX2_put : MethodName := ⟨RX2, "put", "(I)V"⟩
abbrev cX2_shorten : ByteArray := prog_4_method_7_code
def yX2_shorten : MethodName := ⟨RX2, "shorten", "(I)I"⟩
abbrev cX2_readInto : ByteArray := prog_4_method_8_code
def yX2_readInto : MethodName := ⟨RX2, "readInto", "(LPenRoom$RuleBook;)Z"⟩
abbrev cX2_readKind : ByteArray := prog_4_method_9_code
def yX2_readKind : MethodName := ⟨RX2, "readKind", "(LPenRoom$RuleBook;)Z"⟩
abbrev cX2_readSteps : ByteArray := prog_4_method_10_code
def yX2_readSteps : MethodName := ⟨RX2, "readSteps", "(LPenRoom$RuleBook;)Z"⟩
abbrev cX2_readNeed : ByteArray := prog_4_method_11_code
def yX2_readNeed : MethodName := ⟨RX2, "readNeed", "(LPenRoom$RuleBook;I)Z"⟩
abbrev cX2_readEither : ByteArray := prog_4_method_12_code
def yX2_readEither : MethodName := ⟨RX2, "readEither", "(LPenRoom$RuleBook;I)Z"⟩
abbrev cX2_readOne : ByteArray := prog_4_method_13_code
def yX2_readOne : MethodName := ⟨RX2, "readOne", "(LPenRoom$RuleBook;I)Z"⟩
abbrev cX2_readSumTest : ByteArray := prog_4_method_14_code
def yX2_readSumTest : MethodName := ⟨RX2, "readSumTest", "(LPenRoom$RuleBook;)Z"⟩
abbrev cX2_readPlaceTest : ByteArray := prog_4_method_15_code
def yX2_readPlaceTest : MethodName := ⟨RX2, "readPlaceTest", "(LPenRoom$RuleBook;)Z"⟩
abbrev cX2_readUrgentTest : ByteArray := prog_4_method_16_code
def yX2_readUrgentTest : MethodName := ⟨RX2, "readUrgentTest", "(LPenRoom$RuleBook;)Z"⟩
abbrev cX2_readLimit : ByteArray := prog_4_method_17_code
def yX2_readLimit : MethodName := ⟨RX2, "readLimit", "(LPenRoom$RuleBook;)Z"⟩
abbrev cX2_readAmount : ByteArray := prog_4_method_18_code
def yX2_readAmount : MethodName := ⟨RX2, "readAmount", "(I)I"⟩
abbrev cX2_take : ByteArray := prog_4_method_19_code
def yX2_take : MethodName := ⟨RX2, "take", "(I)Z"⟩
abbrev cX2_isRole : ByteArray := prog_4_method_20_code
def yX2_isRole : MethodName := ⟨RX2, "isRole", "()Z"⟩
abbrev cX2_wrongToken : ByteArray := prog_4_method_21_code
def yX2_wrongToken : MethodName := ⟨RX2, "wrongToken", "()Z"⟩
abbrev cX2_wrong : ByteArray := prog_4_method_22_code
def yX2_wrong : MethodName := ⟨RX2, "wrong", "(I)Z"⟩
abbrev cX2_advance : ByteArray := prog_4_method_23_code
def yX2_advance : MethodName := ⟨RX2, "advance", "()V"⟩
abbrev cX2_skipLetters : ByteArray := prog_4_method_24_code
def yX2_skipLetters : MethodName := ⟨RX2, "skipLetters", "()V"⟩
abbrev cX2_readNumber : ByteArray := prog_4_method_25_code
def yX2_readNumber : MethodName := ⟨RX2, "readNumber", "()V"⟩
abbrev cX2_wordToken : ByteArray := prog_4_method_26_code
def yX2_wordToken : MethodName := ⟨RX2, "wordToken", "()I"⟩
abbrev cX2_isLetter : ByteArray := prog_4_method_27_code
def yX2_isLetter : MethodName := ⟨RX2, "isLetter", "(I)Z"⟩
abbrev cX2_isDigit : ByteArray := prog_4_method_28_code
def yX2_isDigit : MethodName := ⟨RX2, "isDigit", "(I)Z"⟩
abbrev cX2_isSign : ByteArray := prog_4_method_29_code
def yX2_isSign : MethodName := ⟨RX2, "isSign", "(I)Z"⟩
def RX3 : String := "PenRoom$RuleBook"
def TX3 : u_T := fun k => match k with
  | 0 => ("PenRoom$RuleBook", "rules", "I", false)
  | 1 => ("PenRoom$RuleBook", "kindOf", "[I", true)
  | 2 => ("PenRoom$RuleBook", "firstOperation", "[I", true)
  | 3 => ("PenRoom$RuleBook", "endOfOperations", "[I", true)
  | 4 => ("PenRoom$RuleBook", "slotsOf", "[I", true)
  | 5 => ("PenRoom$RuleBook", "slotRole", "[I", true)
  | 6 => ("PenRoom$RuleBook", "slotStep", "[I", true)
  | 7 => ("PenRoom$RuleBook", "operations", "I", false)
  | 8 => ("PenRoom$RuleBook", "operation", "[I", true)
  | 9 => ("PenRoom$RuleBook", "operand", "[I", true)
  | 10 => ("PenRoom$RuleBook", "tests", "I", false)
  | 11 => ("PenRoom$RuleBook", "limits", "I", false)
  | 12 => ("PenRoom$RuleBook", "dayLimit", "[I", true)
  | _ => ("PenRoom$RuleBook", "monthLimit", "[I", true)
def tyX3 : Nat → FieldType := fun k => match k with
  | 0 => .int
  | 1 => .array .int
  | 2 => .array .int
  | 3 => .array .int
  | 4 => .array .int
  | 5 => .array .int
  | 6 => .array .int
  | 7 => .int
  | 8 => .array .int
  | 9 => .array .int
  | 10 => .int
  | 11 => .int
  | 12 => .array .int
  | _ => .array .int
theorem nmX3 : ∀ a, a < 14 → ∀ b, b < 14 → a ≠ b → (TX3 a).2.1 ≠ (TX3 b).2.1 := by decide +kernel
theorem tyX3_ok : ∀ k, k < 14 → parseFieldDescriptor (TX3 k).2.2.1 = some (tyX3 k) := by decide +kernel
abbrev cX3_init : ByteArray := prog_5_method_1_code
def yX3_init : MethodName := ⟨RX3, "<init>", "()V"⟩
abbrev cX3_clear : ByteArray := prog_5_method_2_code
def yX3_clear : MethodName := ⟨RX3, "clear", "()V"⟩
abbrev cX3_ruleCount : ByteArray := prog_5_method_3_code
def yX3_ruleCount : MethodName := ⟨RX3, "ruleCount", "()I"⟩
abbrev cX3_limitCount : ByteArray := prog_5_method_4_code
def yX3_limitCount : MethodName := ⟨RX3, "limitCount", "()I"⟩
abbrev cX3_hasRoomForRule : ByteArray := prog_5_method_5_code
def yX3_hasRoomForRule : MethodName := ⟨RX3, "hasRoomForRule", "()Z"⟩
abbrev cX3_hasRoomForLimit : ByteArray := prog_5_method_6_code
def yX3_hasRoomForLimit : MethodName := ⟨RX3, "hasRoomForLimit", "()Z"⟩
abbrev cX3_hasRoomForTest : ByteArray := prog_5_method_7_code
def yX3_hasRoomForTest : MethodName := ⟨RX3, "hasRoomForTest", "()Z"⟩
abbrev cX3_hasLimit : ByteArray := prog_5_method_8_code
def yX3_hasLimit : MethodName := ⟨RX3, "hasLimit", "(I)Z"⟩
abbrev cX3_addLimit : ByteArray := prog_5_method_9_code
def yX3_addLimit : MethodName := ⟨RX3, "addLimit", "(III)V"⟩
abbrev cX3_addRule : ByteArray := prog_5_method_10_code
def yX3_addRule : MethodName := ⟨RX3, "addRule", "(I)V"⟩
abbrev cX3_addTest : ByteArray := prog_5_method_11_code
def yX3_addTest : MethodName := ⟨RX3, "addTest", "(II)V"⟩
abbrev cX3_addOperation : ByteArray := prog_5_method_12_code
def yX3_addOperation : MethodName := ⟨RX3, "addOperation", "(II)V"⟩
abbrev cX3_hasRoomForSlots : ByteArray := prog_5_method_13_code
def yX3_hasRoomForSlots : MethodName := ⟨RX3, "hasRoomForSlots", "(I)Z"⟩
abbrev cX3_addSlots : ByteArray := prog_5_method_14_code
def yX3_addSlots : MethodName := ⟨RX3, "addSlots", "(III)V"⟩
abbrev cX3_slotCount : ByteArray := prog_5_method_15_code
def yX3_slotCount : MethodName := ⟨RX3, "slotCount", "(I)I"⟩
abbrev cX3_roleOfSlot : ByteArray := prog_5_method_16_code
def yX3_roleOfSlot : MethodName := ⟨RX3, "roleOfSlot", "(II)I"⟩
abbrev cX3_copySlots : ByteArray := prog_5_method_17_code
def yX3_copySlots : MethodName := ⟨RX3, "copySlots", "(ILPenRoom$Paper;)V"⟩
abbrev cX3_ruleFor : ByteArray := prog_5_method_18_code
def yX3_ruleFor : MethodName := ⟨RX3, "ruleFor", "(IIIZ)I"⟩
abbrev cX3_holds : ByteArray := prog_5_method_19_code
def yX3_holds : MethodName := ⟨RX3, "holds", "(IIIZ)Z"⟩
abbrev cX3_passes : ByteArray := prog_5_method_20_code
def yX3_passes : MethodName := ⟨RX3, "passes", "(IIIZ)Z"⟩
abbrev cX3_testBelow : ByteArray := prog_5_method_21_code
def yX3_testBelow : MethodName := ⟨RX3, "testBelow", "(III)I"⟩
abbrev cX3_changePoint : ByteArray := prog_5_method_22_code
def yX3_changePoint : MethodName := ⟨RX3, "changePoint", "(II)I"⟩
def RX4 : String := "PenRoom$Search"
def TX4 : u_T := fun k => match k with
  | 0 => ("PenRoom$Search", "staff", "LPenRoom$Staff;", true)
  | 1 => ("PenRoom$Search", "cabinet", "LPenRoom$Cabinet;", true)
  | 2 => ("PenRoom$Search", "dayRoom", "[I", true)
  | 3 => ("PenRoom$Search", "monthRoom", "[I", true)
  | 4 => ("PenRoom$Search", "namesOf", "[I", true)
  | 5 => ("PenRoom$Search", "handsOf", "[I", true)
  | 6 => ("PenRoom$Search", "open", "I", false)
  | 7 => ("PenRoom$Search", "openSlot", "[I", true)
  | 8 => ("PenRoom$Search", "openRole", "[I", true)
  | 9 => ("PenRoom$Search", "foundHand", "[I", true)
  | 10 => ("PenRoom$Search", "foundName", "[I", true)
  | _ => ("PenRoom$Search", "tries", "I", false)
def tyX4 : Nat → FieldType := fun k => match k with
  | 0 => .object "PenRoom$Staff"
  | 1 => .object "PenRoom$Cabinet"
  | 2 => .array .int
  | 3 => .array .int
  | 4 => .array .int
  | 5 => .array .int
  | 6 => .int
  | 7 => .array .int
  | 8 => .array .int
  | 9 => .array .int
  | 10 => .array .int
  | _ => .int
theorem nmX4 : ∀ a, a < 12 → ∀ b, b < 12 → a ≠ b → (TX4 a).2.1 ≠ (TX4 b).2.1 := by decide +kernel
theorem tyX4_ok : ∀ k, k < 12 → parseFieldDescriptor (TX4 k).2.2.1 = some (tyX4 k) := by decide +kernel
abbrev cX4_init : ByteArray := prog_6_method_1_code
def yX4_init : MethodName := ⟨RX4, "<init>", "(LPenRoom$Staff;LPenRoom$Cabinet;)V"⟩
abbrev cX4_lookAtLimits : ByteArray := prog_6_method_2_code
def yX4_lookAtLimits : MethodName := ⟨RX4, "lookAtLimits", "(LPenRoom$RuleBook;I)V"⟩
abbrev cX4_takeOff : ByteArray := prog_6_method_3_code
def yX4_takeOff : MethodName := ⟨RX4, "takeOff", "(LPenRoom$Paper;I)V"⟩
abbrev cX4_room : ByteArray := prog_6_method_4_code
def yX4_room : MethodName := ⟨RX4, "room", "(II)I"⟩
abbrev cX4_lookAtPeople : ByteArray := prog_6_method_5_code
def yX4_lookAtPeople : MethodName := ⟨RX4, "lookAtPeople", "(III)V"⟩
abbrev cX4_allows : ByteArray := prog_6_method_6_code
def yX4_allows : MethodName := ⟨RX4, "allows", "(IIII)Z"⟩
abbrev cX4_handsFor : ByteArray := prog_6_method_7_code
def yX4_handsFor : MethodName := ⟨RX4, "handsFor", "(II)I"⟩
abbrev cX4_roomBelow : ByteArray := prog_6_method_8_code
def yX4_roomBelow : MethodName := ⟨RX4, "roomBelow", "(I)I"⟩
abbrev cX4_openSlotsOf : ByteArray := prog_6_method_9_code
def yX4_openSlotsOf : MethodName := ⟨RX4, "openSlotsOf", "(LPenRoom$Paper;)V"⟩
abbrev cX4_openSlotsOfRule : ByteArray := prog_6_method_10_code
def yX4_openSlotsOfRule : MethodName := ⟨RX4, "openSlotsOfRule", "(LPenRoom$RuleBook;I)V"⟩
abbrev cX4_addOpen : ByteArray := prog_6_method_11_code
def yX4_addOpen : MethodName := ⟨RX4, "addOpen", "(II)V"⟩
abbrev cX4_seekWay : ByteArray := prog_6_method_12_code
def yX4_seekWay : MethodName := ⟨RX4, "seekWay", "(I)I"⟩
abbrev cX4_seekFrom : ByteArray := prog_6_method_13_code
def yX4_seekFrom : MethodName := ⟨RX4, "seekFrom", "(II)Z"⟩
abbrev cX4_copyWay : ByteArray := prog_6_method_14_code
def yX4_copyWay : MethodName := ⟨RX4, "copyWay", "([I[I)V"⟩
def RX5 : String := "PenRoom$Staff"
def TX5 : u_T := fun k => match k with
  | 0 => ("PenRoom$Staff", "people", "I", false)
  | 1 => ("PenRoom$Staff", "rolesOf", "[I", true)
  | 2 => ("PenRoom$Staff", "spans", "I", false)
  | 3 => ("PenRoom$Staff", "awayWho", "[I", true)
  | 4 => ("PenRoom$Staff", "awayFrom", "[I", true)
  | 5 => ("PenRoom$Staff", "awayTo", "[I", true)
  | 6 => ("PenRoom$Staff", "deputies", "I", false)
  | 7 => ("PenRoom$Staff", "deputyOf", "[I", true)
  | 8 => ("PenRoom$Staff", "deputyBy", "[I", true)
  | 9 => ("PenRoom$Staff", "deputyFrom", "[I", true)
  | 10 => ("PenRoom$Staff", "deputyTo", "[I", true)
  | 11 => ("PenRoom$Staff", "deputyUpto", "[I", true)
  | _ => ("PenRoom$Staff", "deputyEnded", "[Z", true)
def tyX5 : Nat → FieldType := fun k => match k with
  | 0 => .int
  | 1 => .array .int
  | 2 => .int
  | 3 => .array .int
  | 4 => .array .int
  | 5 => .array .int
  | 6 => .int
  | 7 => .array .int
  | 8 => .array .int
  | 9 => .array .int
  | 10 => .array .int
  | 11 => .array .int
  | _ => .array .boolean
theorem nmX5 : ∀ a, a < 13 → ∀ b, b < 13 → a ≠ b → (TX5 a).2.1 ≠ (TX5 b).2.1 := by decide +kernel
theorem tyX5_ok : ∀ k, k < 13 → parseFieldDescriptor (TX5 k).2.2.1 = some (tyX5 k) := by decide +kernel
abbrev cX5_init : ByteArray := prog_7_method_1_code
def yX5_init : MethodName := ⟨RX5, "<init>", "()V"⟩
abbrev cX5_size : ByteArray := prog_7_method_2_code
def yX5_size : MethodName := ⟨RX5, "size", "()I"⟩
abbrev cX5_awayCount : ByteArray := prog_7_method_3_code
def yX5_awayCount : MethodName := ⟨RX5, "awayCount", "()I"⟩
abbrev cX5_deputyCount : ByteArray := prog_7_method_4_code
def yX5_deputyCount : MethodName := ⟨RX5, "deputyCount", "()I"⟩
abbrev cX5_has : ByteArray := prog_7_method_5_code
def yX5_has : MethodName := ⟨RX5, "has", "(I)Z"⟩
abbrev cX5_areAllThere : ByteArray := prog_7_method_6_code
def yX5_areAllThere : MethodName := ⟨RX5, "areAllThere", "(I)Z"⟩
abbrev cX5_hasRole : ByteArray := prog_7_method_7_code
def yX5_hasRole : MethodName := ⟨RX5, "hasRole", "(II)Z"⟩
abbrev cX5_addPerson : ByteArray := prog_7_method_8_code
def yX5_addPerson : MethodName := ⟨RX5, "addPerson", "(I)I"⟩
abbrev cX5_setRoles : ByteArray := prog_7_method_9_code
def yX5_setRoles : MethodName := ⟨RX5, "setRoles", "(II)Z"⟩
abbrev cX5_addAway : ByteArray := prog_7_method_10_code
def yX5_addAway : MethodName := ⟨RX5, "addAway", "(III)Z"⟩
abbrev cX5_addDeputy : ByteArray := prog_7_method_11_code
def yX5_addDeputy : MethodName := ⟨RX5, "addDeputy", "(IIIII)I"⟩
abbrev cX5_endDeputy : ByteArray := prog_7_method_12_code
def yX5_endDeputy : MethodName := ⟨RX5, "endDeputy", "(I)Z"⟩
abbrev cX5_awayOn : ByteArray := prog_7_method_13_code
def yX5_awayOn : MethodName := ⟨RX5, "awayOn", "(I)I"⟩
abbrev cX5_actingFor : ByteArray := prog_7_method_14_code
def yX5_actingFor : MethodName := ⟨RX5, "actingFor", "(IIII)I"⟩
abbrev cX5_deputiesOf : ByteArray := prog_7_method_15_code
def yX5_deputiesOf : MethodName := ⟨RX5, "deputiesOf", "(III)I"⟩
abbrev cX5_standsOn : ByteArray := prog_7_method_16_code
def yX5_standsOn : MethodName := ⟨RX5, "standsOn", "(II)Z"⟩
abbrev cX5_amountBelow : ByteArray := prog_7_method_17_code
def yX5_amountBelow : MethodName := ⟨RX5, "amountBelow", "(II)I"⟩
abbrev cX5_areRoles : ByteArray := prog_7_method_18_code
def yX5_areRoles : MethodName := ⟨RX5, "areRoles", "(I)Z"⟩
abbrev cX5_areDays : ByteArray := prog_7_method_19_code
def yX5_areDays : MethodName := ⟨RX5, "areDays", "(II)Z"⟩
def RX6 : String := "PenRoom"
def TX6 : u_T := fun k => match k with
  | 0 => ("PenRoom", "staff", "LPenRoom$Staff;", true)
  | 1 => ("PenRoom", "cabinet", "LPenRoom$Cabinet;", true)
  | 2 => ("PenRoom", "reader", "LPenRoom$Reader;", true)
  | 3 => ("PenRoom", "search", "LPenRoom$Search;", true)
  | 4 => ("PenRoom", "book", "LPenRoom$RuleBook;", false)
  | 5 => ("PenRoom", "spareBook", "LPenRoom$RuleBook;", false)
  | 6 => ("PenRoom", "today", "I", false)
  | 7 => ("PenRoom", "reach", "I", false)
  | 8 => ("PenRoom", "wayHand", "[I", true)
  | _ => ("PenRoom", "wayName", "[I", true)
def tyX6 : Nat → FieldType := fun k => match k with
  | 0 => .object "PenRoom$Staff"
  | 1 => .object "PenRoom$Cabinet"
  | 2 => .object "PenRoom$Reader"
  | 3 => .object "PenRoom$Search"
  | 4 => .object "PenRoom$RuleBook"
  | 5 => .object "PenRoom$RuleBook"
  | 6 => .int
  | 7 => .int
  | 8 => .array .int
  | _ => .array .int
theorem nmX6 : ∀ a, a < 10 → ∀ b, b < 10 → a ≠ b → (TX6 a).2.1 ≠ (TX6 b).2.1 := by decide +kernel
theorem tyX6_ok : ∀ k, k < 10 → parseFieldDescriptor (TX6 k).2.2.1 = some (tyX6 k) := by decide +kernel
abbrev cX6_init : ByteArray := prog_1_method_1_code
def yX6_init : MethodName := ⟨RX6, "<init>", "()V"⟩
abbrev cX6_person : ByteArray := prog_1_method_2_code
def yX6_person : MethodName := ⟨RX6, "person", "(I)I"⟩
abbrev cX6_roles : ByteArray := prog_1_method_3_code
def yX6_roles : MethodName := ⟨RX6, "roles", "(II)Z"⟩
abbrev cX6_away : ByteArray := prog_1_method_4_code
def yX6_away : MethodName := ⟨RX6, "away", "(III)Z"⟩
abbrev cX6_deputy : ByteArray := prog_1_method_5_code
def yX6_deputy : MethodName := ⟨RX6, "deputy", "(IIIII)I"⟩
abbrev cX6_end : ByteArray := prog_1_method_6_code
def yX6_end : MethodName := ⟨RX6, "end", "(I)Z"⟩
abbrev cX6_acts : ByteArray := prog_1_method_7_code
def yX6_acts : MethodName := ⟨RX6, "acts", "(III)I"⟩
abbrev cX6_later : ByteArray := prog_1_method_8_code
def yX6_later : MethodName := ⟨RX6, "later", "(I)I"⟩
abbrev cX6_feed : ByteArray := prog_1_method_9_code
def yX6_feed : MethodName := ⟨RX6, "feed", "(IIIII)I"⟩
abbrev cX6_cut : ByteArray := prog_1_method_10_code
def yX6_cut : MethodName := ⟨RX6, "cut", "(I)I"⟩
abbrev cX6_rules : ByteArray := prog_1_method_11_code
def yX6_rules : MethodName := ⟨RX6, "rules", "()I"⟩
abbrev cX6_fault : ByteArray := prog_1_method_12_code
def yX6_fault : MethodName := ⟨RX6, "fault", "(I)I"⟩
abbrev cX6_span : ByteArray := prog_1_method_13_code
def yX6_span : MethodName := ⟨RX6, "span", "(I)Z"⟩
abbrev cX6_paper : ByteArray := prog_1_method_14_code
def yX6_paper : MethodName := ⟨RX6, "paper", "(IIIIZ)I"⟩
abbrev cX6_of : ByteArray := prog_1_method_15_code
def yX6_of : MethodName := ⟨RX6, "of", "(II)I"⟩
abbrev cX6_slot : ByteArray := prog_1_method_16_code
def yX6_slot : MethodName := ⟨RX6, "slot", "(III)I"⟩
abbrev cX6_sign : ByteArray := prog_1_method_17_code
def yX6_sign : MethodName := ⟨RX6, "sign", "(IIII)Z"⟩
abbrev cX6_back : ByteArray := prog_1_method_18_code
def yX6_back : MethodName := ⟨RX6, "back", "(I)Z"⟩
abbrev cX6_withdraw : ByteArray := prog_1_method_19_code
def yX6_withdraw : MethodName := ⟨RX6, "withdraw", "(I)Z"⟩
abbrev cX6_signed : ByteArray := prog_1_method_20_code
def yX6_signed : MethodName := ⟨RX6, "signed", "(IIIZ)J"⟩
abbrev cX6_way : ByteArray := prog_1_method_21_code
def yX6_way : MethodName := ⟨RX6, "way", "(I)I"⟩
abbrev cX6_wayOf : ByteArray := prog_1_method_22_code
def yX6_wayOf : MethodName := ⟨RX6, "wayOf", "(II)I"⟩
abbrev cX6_holders : ByteArray := prog_1_method_23_code
def yX6_holders : MethodName := ⟨RX6, "holders", "(I)I"⟩
abbrev cX6_greatest : ByteArray := prog_1_method_24_code
def yX6_greatest : MethodName := ⟨RX6, "greatest", "(IIZII)I"⟩
abbrev cX6_about : ByteArray := prog_1_method_25_code
def yX6_about : MethodName := ⟨RX6, "about", "(I)I"⟩
abbrev cX6_canBePaper : ByteArray := prog_1_method_26_code
def yX6_canBePaper : MethodName := ⟨RX6, "canBePaper", "(III)Z"⟩
abbrev cX6_begin : ByteArray := prog_1_method_27_code
def yX6_begin : MethodName := ⟨RX6, "begin", "(I)V"⟩
abbrev cX6_seekByRule : ByteArray := prog_1_method_28_code
def yX6_seekByRule : MethodName := ⟨RX6, "seekByRule", "(IIII)I"⟩
abbrev cX6_nextSum : ByteArray := prog_1_method_29_code
def yX6_nextSum : MethodName := ⟨RX6, "nextSum", "(III)I"⟩
abbrev cX6_isSum : ByteArray := prog_1_method_30_code
def yX6_isSum : MethodName := ⟨RX6, "isSum", "(I)Z"⟩
abbrev cX6_isIn : ByteArray := prog_1_method_31_code
def yX6_isIn : MethodName := ⟨RX6, "isIn", "(II)Z"⟩
def RX7 : String := "PenRoomModel"
def TX7 : u_T := fun k => match k with
  | 0 => ("PenRoomModel", "roles", "[I", true)
  | 1 => ("PenRoomModel", "aPerson", "[I", true)
  | 2 => ("PenRoomModel", "aFrom", "[I", true)
  | 3 => ("PenRoomModel", "aTo", "[I", true)
  | 4 => ("PenRoomModel", "dOf", "[I", true)
  | 5 => ("PenRoomModel", "dBy", "[I", true)
  | 6 => ("PenRoomModel", "dFrom", "[I", true)
  | 7 => ("PenRoomModel", "dTo", "[I", true)
  | 8 => ("PenRoomModel", "dUpto", "[I", true)
  | 9 => ("PenRoomModel", "isEnded", "[Z", true)
  | 10 => ("PenRoomModel", "people", "I", false)
  | 11 => ("PenRoomModel", "aways", "I", false)
  | 12 => ("PenRoomModel", "deputies", "I", false)
  | 13 => ("PenRoomModel", "today", "I", false)
  | 14 => ("PenRoomModel", "tape", "[B", true)
  | 15 => ("PenRoomModel", "text", "[B", true)
  | 16 => ("PenRoomModel", "taped", "I", false)
  | 17 => ("PenRoomModel", "size", "I", false)
  | 18 => ("PenRoomModel", "faultKind", "I", false)
  | 19 => ("PenRoomModel", "faultPlace", "I", false)
  | 20 => ("PenRoomModel", "at", "I", false)
  | 21 => ("PenRoomModel", "end", "I", false)
  | 22 => ("PenRoomModel", "token", "I", false)
  | 23 => ("PenRoomModel", "number", "I", false)
  | 24 => ("PenRoomModel", "name", "J", false)
  | 25 => ("PenRoomModel", "rKind", "[I", true)
  | 26 => ("PenRoomModel", "rFrom", "[I", true)
  | 27 => ("PenRoomModel", "rTo", "[I", true)
  | 28 => ("PenRoomModel", "rSlots", "[I", true)
  | 29 => ("PenRoomModel", "rRole", "[I", true)
  | 30 => ("PenRoomModel", "rStep", "[I", true)
  | 31 => ("PenRoomModel", "dayLimit", "[I", true)
  | 32 => ("PenRoomModel", "monthLimit", "[I", true)
  | 33 => ("PenRoomModel", "code", "[I", true)
  | 34 => ("PenRoomModel", "codeNumber", "[I", true)
  | 35 => ("PenRoomModel", "ruleMany", "[I", true)
  | 36 => ("PenRoomModel", "limitMany", "[I", true)
  | 37 => ("PenRoomModel", "hasLimit", "[Z", true)
  | 38 => ("PenRoomModel", "bank", "I", false)
  | 39 => ("PenRoomModel", "tests", "I", false)
  | 40 => ("PenRoomModel", "codes", "I", false)
  | 41 => ("PenRoomModel", "rb", "I", false)
  | 42 => ("PenRoomModel", "eWhat", "[I", true)
  | 43 => ("PenRoomModel", "piled", "I", false)
  | 44 => ("PenRoomModel", "deep", "I", false)
  | 45 => ("PenRoomModel", "values", "[Z", true)
  | 46 => ("PenRoomModel", "pKind", "[I", true)
  | 47 => ("PenRoomModel", "pSum", "[I", true)
  | 48 => ("PenRoomModel", "pMaker", "[I", true)
  | 49 => ("PenRoomModel", "pPlace", "[I", true)
  | 50 => ("PenRoomModel", "pDay", "[I", true)
  | 51 => ("PenRoomModel", "pState", "[I", true)
  | 52 => ("PenRoomModel", "pSlots", "[I", true)
  | 53 => ("PenRoomModel", "pSteps", "[I", true)
  | 54 => ("PenRoomModel", "sRole", "[I", true)
  | 55 => ("PenRoomModel", "sStep", "[I", true)
  | 56 => ("PenRoomModel", "sHand", "[I", true)
  | 57 => ("PenRoomModel", "sName", "[I", true)
  | 58 => ("PenRoomModel", "sDay", "[I", true)
  | 59 => ("PenRoomModel", "pJoined", "[J", true)
  | 60 => ("PenRoomModel", "isUrgent", "[Z", true)
  | 61 => ("PenRoomModel", "papers", "I", false)
  | 62 => ("PenRoomModel", "span", "I", false)
  | 63 => ("PenRoomModel", "actors", "[I", true)
  | 64 => ("PenRoomModel", "usedUp", "I", false)
  | 65 => ("PenRoomModel", "openSlots", "[I", true)
  | 66 => ("PenRoomModel", "pair", "[I", true)
  | 67 => ("PenRoomModel", "usedAt", "[I", true)
  | 68 => ("PenRoomModel", "wayHand", "[I", true)
  | 69 => ("PenRoomModel", "wayName", "[I", true)
  | 70 => ("PenRoomModel", "opens", "I", false)
  | 71 => ("PenRoomModel", "hasWay", "Z", false)
  | 72 => ("PenRoomModel", "nearest", "J", false)
  | _ => ("PenRoomModel", "below", "J", false)
def tyX7 : Nat → FieldType := fun k => match k with
  | 0 => .array .int
  | 1 => .array .int
  | 2 => .array .int
  | 3 => .array .int
  | 4 => .array .int
  | 5 => .array .int
  | 6 => .array .int
  | 7 => .array .int
  | 8 => .array .int
  | 9 => .array .boolean
  | 10 => .int
  | 11 => .int
  | 12 => .int
  | 13 => .int
  | 14 => .array .byte
  | 15 => .array .byte
  | 16 => .int
  | 17 => .int
  | 18 => .int
  | 19 => .int
  | 20 => .int
  | 21 => .int
  | 22 => .int
  | 23 => .int
  | 24 => .long
  | 25 => .array .int
  | 26 => .array .int
  | 27 => .array .int
  | 28 => .array .int
  | 29 => .array .int
  | 30 => .array .int
  | 31 => .array .int
  | 32 => .array .int
  | 33 => .array .int
  | 34 => .array .int
  | 35 => .array .int
  | 36 => .array .int
  | 37 => .array .boolean
  | 38 => .int
  | 39 => .int
  | 40 => .int
  | 41 => .int
  | 42 => .array .int
  | 43 => .int
  | 44 => .int
  | 45 => .array .boolean
  | 46 => .array .int
  | 47 => .array .int
  | 48 => .array .int
  | 49 => .array .int
  | 50 => .array .int
  | 51 => .array .int
  | 52 => .array .int
  | 53 => .array .int
  | 54 => .array .int
  | 55 => .array .int
  | 56 => .array .int
  | 57 => .array .int
  | 58 => .array .int
  | 59 => .array .long
  | 60 => .array .boolean
  | 61 => .int
  | 62 => .int
  | 63 => .array .int
  | 64 => .int
  | 65 => .array .int
  | 66 => .array .int
  | 67 => .array .int
  | 68 => .array .int
  | 69 => .array .int
  | 70 => .int
  | 71 => .boolean
  | 72 => .long
  | _ => .long
theorem nmX7 : ∀ a, a < 74 → ∀ b, b < 74 → a ≠ b → (TX7 a).2.1 ≠ (TX7 b).2.1 := by decide +kernel
theorem tyX7_ok : ∀ k, k < 74 → parseFieldDescriptor (TX7 k).2.2.1 = some (tyX7 k) := by decide +kernel
abbrev cX7_init : ByteArray := prog_9_method_1_code
def yX7_init : MethodName := ⟨RX7, "<init>", "()V"⟩
abbrev cX7_isPerson : ByteArray := prog_9_method_2_code
def yX7_isPerson : MethodName := ⟨RX7, "isPerson", "(I)Z"⟩
abbrev cX7_person : ByteArray := prog_9_method_3_code
def yX7_person : MethodName := ⟨RX7, "person", "(I)I"⟩
abbrev cX7_roles : ByteArray := prog_9_method_4_code
def yX7_roles : MethodName := ⟨RX7, "roles", "(II)Z"⟩
abbrev cX7_isSpan : ByteArray := prog_9_method_5_code
def yX7_isSpan : MethodName := ⟨RX7, "isSpan", "(II)Z"⟩
abbrev cX7_away : ByteArray := prog_9_method_6_code
def yX7_away : MethodName := ⟨RX7, "away", "(III)Z"⟩
abbrev cX7_deputy : ByteArray := prog_9_method_7_code
def yX7_deputy : MethodName := ⟨RX7, "deputy", "(IIIII)I"⟩
abbrev cX7_end : ByteArray := prog_9_method_8_code
def yX7_end : MethodName := ⟨RX7, "end", "(I)Z"⟩
abbrev cX7_isAway : ByteArray := prog_9_method_9_code
def yX7_isAway : MethodName := ⟨RX7, "isAway", "(II)Z"⟩
abbrev cX7_actsFor : ByteArray := prog_9_method_10_code
def yX7_actsFor : MethodName := ⟨RX7, "actsFor", "(III)I"⟩
abbrev cX7_acts : ByteArray := prog_9_method_11_code
def yX7_acts : MethodName := ⟨RX7, "acts", "(III)I"⟩
abbrev cX7_later : ByteArray := prog_9_method_12_code
def yX7_later : MethodName := ⟨RX7, "later", "(I)I"⟩
abbrev cX7_byteAt : ByteArray := prog_9_method_13_code
def yX7_byteAt : MethodName := ⟨RX7, "byteAt", "(I)I"⟩
abbrev cX7_isLetter : ByteArray := prog_9_method_14_code
def yX7_isLetter : MethodName := ⟨RX7, "isLetter", "(I)Z"⟩
abbrev cX7_isDigit : ByteArray := prog_9_method_15_code
def yX7_isDigit : MethodName := ⟨RX7, "isDigit", "(I)Z"⟩
abbrev cX7_fails : ByteArray := prog_9_method_16_code
def yX7_fails : MethodName := ⟨RX7, "fails", "(II)V"⟩
abbrev cX7_isGood : ByteArray := prog_9_method_17_code
def yX7_isGood : MethodName := ⟨RX7, "isGood", "()Z"⟩
abbrev cX7_next : ByteArray := prog_9_method_18_code
def yX7_next : MethodName := ⟨RX7, "next", "()V"⟩
abbrev cX7_is : ByteArray := prog_9_method_19_code
def yX7_is : MethodName := ⟨RX7, "is", "(I)Z"⟩
abbrev cX7_isWord : ByteArray := prog_9_method_20_code
def yX7_isWord : MethodName := ⟨RX7, "isWord", "(J)Z"⟩
abbrev cX7_wrong : ByteArray := prog_9_method_21_code
def yX7_wrong : MethodName := ⟨RX7, "wrong", "()V"⟩
abbrev cX7_must : ByteArray := prog_9_method_22_code
def yX7_must : MethodName := ⟨RX7, "must", "(I)V"⟩
abbrev cX7_numeral : ByteArray := prog_9_method_23_code
def yX7_numeral : MethodName := ⟨RX7, "numeral", "()I"⟩
abbrev cX7_kindHere : ByteArray := prog_9_method_24_code
def yX7_kindHere : MethodName := ⟨RX7, "kindHere", "()I"⟩
abbrev cX7_roleHere : ByteArray := prog_9_method_25_code
def yX7_roleHere : MethodName := ⟨RX7, "roleHere", "()I"⟩
abbrev cX7_rules : ByteArray := prog_9_method_26_code
def yX7_rules : MethodName := ⟨RX7, "rules", "()I"⟩
abbrev cX7_readLine : ByteArray := prog_9_method_27_code
def yX7_readLine : MethodName := ⟨RX7, "readLine", "()V"⟩
abbrev cX7_readLimit : ByteArray := prog_9_method_28_code
def yX7_readLimit : MethodName := ⟨RX7, "readLimit", "()V"⟩
abbrev cX7_readRule : ByteArray := prog_9_method_29_code
def yX7_readRule : MethodName := ⟨RX7, "readRule", "()V"⟩
abbrev cX7_readStep : ByteArray := prog_9_method_30_code
def yX7_readStep : MethodName := ⟨RX7, "readStep", "(II)V"⟩
abbrev cX7_put : ByteArray := prog_9_method_31_code
def yX7_put : MethodName := ⟨RX7, "put", "(II)V"⟩
abbrev cX7_pile : ByteArray := prog_9_method_32_code
def yX7_pile : MethodName := ⟨RX7, "pile", "(I)V"⟩
abbrev cX7_e : ByteArray := prog_9_method_33_code
def yX7_e : MethodName := ⟨RX7, "e", "()V"⟩
abbrev cX7_one : ByteArray := prog_9_method_34_code
def yX7_one : MethodName := ⟨RX7, "one", "()Z"⟩
abbrev cX7_behind : ByteArray := prog_9_method_35_code
def yX7_behind : MethodName := ⟨RX7, "behind", "()Z"⟩
abbrev cX7_fault : ByteArray := prog_9_method_36_code
def yX7_fault : MethodName := ⟨RX7, "fault", "(I)I"⟩
abbrev cX7_holds : ByteArray := prog_9_method_37_code
def yX7_holds : MethodName := ⟨RX7, "holds", "(IJIZ)Z"⟩
abbrev cX7_ruleFor : ByteArray := prog_9_method_38_code
def yX7_ruleFor : MethodName := ⟨RX7, "ruleFor", "(IJIZ)I"⟩
abbrev cX7_span : ByteArray := prog_9_method_39_code
def yX7_span : MethodName := ⟨RX7, "span", "(I)Z"⟩
abbrev cX7_isPaper : ByteArray := prog_9_method_40_code
def yX7_isPaper : MethodName := ⟨RX7, "isPaper", "(I)Z"⟩
abbrev cX7_others : ByteArray := prog_9_method_41_code
def yX7_others : MethodName := ⟨RX7, "others", "(IIIII)J"⟩
abbrev cX7_begin : ByteArray := prog_9_method_42_code
def yX7_begin : MethodName := ⟨RX7, "begin", "(II)V"⟩
abbrev cX7_canBe : ByteArray := prog_9_method_43_code
def yX7_canBe : MethodName := ⟨RX7, "canBe", "(III)Z"⟩
abbrev cX7_set : ByteArray := prog_9_method_44_code
def yX7_set : MethodName := ⟨RX7, "set", "(IIIIIZ)V"⟩
abbrev cX7_paper : ByteArray := prog_9_method_45_code
def yX7_paper : MethodName := ⟨RX7, "paper", "(IIIIZ)I"⟩
abbrev cX7_signedOf : ByteArray := prog_9_method_46_code
def yX7_signedOf : MethodName := ⟨RX7, "signedOf", "(I)I"⟩
abbrev cX7_stepOf : ByteArray := prog_9_method_47_code
def yX7_stepOf : MethodName := ⟨RX7, "stepOf", "(I)I"⟩
abbrev cX7_of : ByteArray := prog_9_method_48_code
def yX7_of : MethodName := ⟨RX7, "of", "(II)I"⟩
abbrev cX7_slot : ByteArray := prog_9_method_49_code
def yX7_slot : MethodName := ⟨RX7, "slot", "(III)I"⟩
abbrev cX7_signedBy : ByteArray := prog_9_method_50_code
def yX7_signedBy : MethodName := ⟨RX7, "signedBy", "(IIIZ)J"⟩
abbrev cX7_signed : ByteArray := prog_9_method_51_code
def yX7_signed : MethodName := ⟨RX7, "signed", "(IIIZ)J"⟩
abbrev cX7_room : ByteArray := prog_9_method_52_code
def yX7_room : MethodName := ⟨RX7, "room", "(II)J"⟩
abbrev cX7_lookAt : ByteArray := prog_9_method_53_code
def yX7_lookAt : MethodName := ⟨RX7, "lookAt", "(I)V"⟩
abbrev cX7_fits : ByteArray := prog_9_method_54_code
def yX7_fits : MethodName := ⟨RX7, "fits", "(IIIII)Z"⟩
abbrev cX7_isOpen : ByteArray := prog_9_method_55_code
def yX7_isOpen : MethodName := ⟨RX7, "isOpen", "(II)Z"⟩
abbrev cX7_sign : ByteArray := prog_9_method_56_code
def yX7_sign : MethodName := ⟨RX7, "sign", "(IIII)Z"⟩
abbrev cX7_back : ByteArray := prog_9_method_57_code
def yX7_back : MethodName := ⟨RX7, "back", "(I)Z"⟩
abbrev cX7_withdraw : ByteArray := prog_9_method_58_code
def yX7_withdraw : MethodName := ⟨RX7, "withdraw", "(I)Z"⟩
abbrev cX7_seek : ByteArray := prog_9_method_59_code
def yX7_seek : MethodName := ⟨RX7, "seek", "(II)I"⟩
abbrev cX7_way : ByteArray := prog_9_method_60_code
def yX7_way : MethodName := ⟨RX7, "way", "(I)I"⟩
abbrev cX7_wayOf : ByteArray := prog_9_method_61_code
def yX7_wayOf : MethodName := ⟨RX7, "wayOf", "(II)I"⟩
abbrev cX7_holders : ByteArray := prog_9_method_62_code
def yX7_holders : MethodName := ⟨RX7, "holders", "(I)I"⟩
abbrev cX7_mayBe : ByteArray := prog_9_method_63_code
def yX7_mayBe : MethodName := ⟨RX7, "mayBe", "(J)V"⟩
abbrev cX7_nextBelow : ByteArray := prog_9_method_64_code
def yX7_nextBelow : MethodName := ⟨RX7, "nextBelow", "(JJ)J"⟩
abbrev cX7_greatest : ByteArray := prog_9_method_65_code
def yX7_greatest : MethodName := ⟨RX7, "greatest", "(IIZII)I"⟩
abbrev cX7_about : ByteArray := prog_9_method_66_code
def yX7_about : MethodName := ⟨RX7, "about", "(I)I"⟩
abbrev cX7_feed : ByteArray := prog_9_method_67_code
def yX7_feed : MethodName := ⟨RX7, "feed", "(IIIII)I"⟩
abbrev cX7_cut : ByteArray := prog_9_method_68_code
def yX7_cut : MethodName := ⟨RX7, "cut", "(I)I"⟩
def RJ9 : String := "java/lang/Math"
abbrev cJ9_max_7cf53 : ByteArray := prog_10_method_65_code
def yJ9_max_7cf53 : MethodName := ⟨RJ9, "max", "(II)I"⟩
abbrev cJ9_min_7cf53 : ByteArray := prog_10_method_69_code
def yJ9_min_7cf53 : MethodName := ⟨RJ9, "min", "(II)I"⟩
def RJ0 : String := "java/lang/String"
abbrev cJ0_length_8abf5 : ByteArray := prog_11_method_54_code
def yJ0_length_8abf5 : MethodName := ⟨RJ0, "length", "()I"⟩
abbrev cJ0_charAt_5068e : ByteArray := prog_11_method_56_code
def yJ0_charAt_5068e : MethodName := ⟨RJ0, "charAt", "(I)C"⟩
abbrev cJ0_coder_7d493 : ByteArray := prog_11_method_152_code
def yJ0_coder_7d493 : MethodName := ⟨RJ0, "coder", "()B"⟩
abbrev cJ0_isLatin1_aae02 : ByteArray := prog_11_method_154_code
def yJ0_isLatin1_aae02 : MethodName := ⟨RJ0, "isLatin1", "()Z"⟩
abbrev cJ0_checkIndex_df160 : ByteArray := prog_11_method_155_code
def yJ0_checkIndex_df160 : MethodName := ⟨RJ0, "checkIndex", "(II)V"⟩
def RJ1 : String := "java/lang/StringLatin1"
abbrev cJ1_charAt_3b067 : ByteArray := prog_12_method_2_code
def yJ1_charAt_3b067 : MethodName := ⟨RJ1, "charAt", "([BI)C"⟩
def RJ2 : String := "java/lang/StringUTF16"
abbrev cJ2_getChar_3b067 : ByteArray := prog_13_method_5_code
def yJ2_getChar_3b067 : MethodName := ⟨RJ2, "getChar", "([BI)C"⟩
abbrev cJ2_length_9d52b : ByteArray := prog_13_method_6_code
def yJ2_length_9d52b : MethodName := ⟨RJ2, "length", "([B)I"⟩
abbrev cJ2_charAt_3b067 : ByteArray := prog_13_method_83_code
def yJ2_charAt_3b067 : MethodName := ⟨RJ2, "charAt", "([BI)C"⟩
abbrev cJ2_checkIndex_2214a : ByteArray := prog_13_method_91_code
def yJ2_checkIndex_2214a : MethodName := ⟨RJ2, "checkIndex", "(I[B)V"⟩
def RJ3 : String := "jdk/internal/util/Preconditions"
abbrev cJ3_checkIndex_8e157 : ByteArray := prog_14_method_11_code
def yJ3_checkIndex_8e157 : MethodName := ⟨RJ3, "checkIndex", "(IILjava/util/function/BiFunction;)I"⟩
/-- the classes whose objects the worlds hold -/
abbrev kl_cl : List vw_C := [(RX0, TX0, 2), (RX1, TX1, 14), (RX2, TX2, 8), (RX3, TX3, 14), (RX4, TX4, 12), (RX5, TX5, 13), (RX6, TX6, 10), (RX7, TX7, 74)]
end
section
/-! the words, by their places; generated by wip/gen/part02.py -/
def kl_ws : List Cond := lw_tbl.filter goodWord
theorem kl_in {w : Cond} (i : Nat) (h : lw_tbl[i]? = some w) (hg : goodWord w = true) : w ∈ kl_ws := List.mem_filter.mpr ⟨List.mem_of_getElem? h, hg⟩
def kl_nest (w : Cond) : Bool := match w with
  | .fieldLinkNest _ _ _ _ _ _ => true
  | .methodLinkNest _ _ _ _ => true
  | _ => false
def kl_nw : List Cond := lw_tbl.filter kl_nest
theorem kl_nin {w : Cond} (i : Nat) (h : lw_tbl[i]? = some w) (hg : kl_nest w = true) : w ∈ kl_nw := List.mem_filter.mpr ⟨List.mem_of_getElem? h, hg⟩
theorem kl_sub {w : Cond} (h : w ∈ kl_ws) : w ∈ lw_tbl ∧ goodWord w = true := List.mem_filter.mp h
theorem kl_nsub {w : Cond} (h : w ∈ kl_nw) : w ∈ lw_tbl ∧ kl_nest w = true := List.mem_filter.mp h
def kCn (ci : Nat) : String := match ci with
  | 0 => RX0
  | 1 => RX1
  | 2 => RX2
  | 3 => RX3
  | 4 => RX4
  | 5 => RX5
  | 6 => RX6
  | _ => RX7
def kTn (ci : Nat) : u_T := match ci with
  | 0 => TX0
  | 1 => TX1
  | 2 => TX2
  | 3 => TX3
  | 4 => TX4
  | 5 => TX5
  | 6 => TX6
  | _ => TX7
def kNn (ci : Nat) : Nat := match ci with
  | 0 => 2
  | 1 => 14
  | 2 => 8
  | 3 => 14
  | 4 => 12
  | 5 => 13
  | 6 => 10
  | _ => 74
def ktY (ci : Nat) : Nat → FieldType := match ci with
  | 0 => tyX0
  | 1 => tyX1
  | 2 => tyX2
  | 3 => tyX3
  | 4 => tyX4
  | 5 => tyX5
  | 6 => tyX6
  | _ => tyX7
theorem kcl_at : ∀ ci, ci < 8 → kl_cl[ci]? = some (kCn ci, kTn ci, kNn ci) := by
  intro ci h
  rcases (show ci = 0 ∨ ci = 1 ∨ ci = 2 ∨ ci = 3 ∨ ci = 4 ∨ ci = 5 ∨ ci = 6 ∨ ci = 7 by omega) with rfl | rfl | rfl | rfl | rfl | rfl | rfl | rfl
  · rfl
  · rfl
  · rfl
  · rfl
  · rfl
  · rfl
  · rfl
  · rfl
theorem ku_0 : ∀ w ∈ u_ws RX0 TX0 2, w ∈ lw_tbl := by decide +kernel
theorem kug_0 : ∀ w ∈ u_ws RX0 TX0 2, goodWord w = true := by decide +kernel
theorem kown_0 : ∀ k, k < 2 → (TX0 k).1 = RX0 := by decide +kernel
theorem ku_1 : ∀ w ∈ u_ws RX1 TX1 14, w ∈ lw_tbl := by decide +kernel
theorem kug_1 : ∀ w ∈ u_ws RX1 TX1 14, goodWord w = true := by decide +kernel
theorem kown_1 : ∀ k, k < 14 → (TX1 k).1 = RX1 := by decide +kernel
theorem ku_2 : ∀ w ∈ u_ws RX2 TX2 8, w ∈ lw_tbl := by decide +kernel
theorem kug_2 : ∀ w ∈ u_ws RX2 TX2 8, goodWord w = true := by decide +kernel
theorem kown_2 : ∀ k, k < 8 → (TX2 k).1 = RX2 := by decide +kernel
theorem ku_3 : ∀ w ∈ u_ws RX3 TX3 14, w ∈ lw_tbl := by decide +kernel
theorem kug_3 : ∀ w ∈ u_ws RX3 TX3 14, goodWord w = true := by decide +kernel
theorem kown_3 : ∀ k, k < 14 → (TX3 k).1 = RX3 := by decide +kernel
theorem ku_4 : ∀ w ∈ u_ws RX4 TX4 12, w ∈ lw_tbl := by decide +kernel
theorem kug_4 : ∀ w ∈ u_ws RX4 TX4 12, goodWord w = true := by decide +kernel
theorem kown_4 : ∀ k, k < 12 → (TX4 k).1 = RX4 := by decide +kernel
theorem ku_5 : ∀ w ∈ u_ws RX5 TX5 13, w ∈ lw_tbl := by decide +kernel
theorem kug_5 : ∀ w ∈ u_ws RX5 TX5 13, goodWord w = true := by decide +kernel
theorem kown_5 : ∀ k, k < 13 → (TX5 k).1 = RX5 := by decide +kernel
theorem ku_6 : ∀ w ∈ u_ws RX6 TX6 10, w ∈ lw_tbl := by decide +kernel
theorem kug_6 : ∀ w ∈ u_ws RX6 TX6 10, goodWord w = true := by decide +kernel
theorem kown_6 : ∀ k, k < 10 → (TX6 k).1 = RX6 := by decide +kernel
theorem ku_7 : ∀ w ∈ u_ws RX7 TX7 74, w ∈ lw_tbl := by decide +kernel
theorem kug_7 : ∀ w ∈ u_ws RX7 TX7 74, goodWord w = true := by decide +kernel
theorem kown_7 : ∀ k, k < 74 → (TX7 k).1 = RX7 := by decide +kernel
theorem kcl_ws : ∀ ci, ci < 8 → ∀ w ∈ u_ws (kCn ci) (kTn ci) (kNn ci), w ∈ kl_ws := by
  intro ci h
  rcases (show ci = 0 ∨ ci = 1 ∨ ci = 2 ∨ ci = 3 ∨ ci = 4 ∨ ci = 5 ∨ ci = 6 ∨ ci = 7 by omega) with rfl | rfl | rfl | rfl | rfl | rfl | rfl | rfl
  · exact fun w hw => List.mem_filter.mpr ⟨ku_0 w hw, kug_0 w hw⟩
  · exact fun w hw => List.mem_filter.mpr ⟨ku_1 w hw, kug_1 w hw⟩
  · exact fun w hw => List.mem_filter.mpr ⟨ku_2 w hw, kug_2 w hw⟩
  · exact fun w hw => List.mem_filter.mpr ⟨ku_3 w hw, kug_3 w hw⟩
  · exact fun w hw => List.mem_filter.mpr ⟨ku_4 w hw, kug_4 w hw⟩
  · exact fun w hw => List.mem_filter.mpr ⟨ku_5 w hw, kug_5 w hw⟩
  · exact fun w hw => List.mem_filter.mpr ⟨ku_6 w hw, kug_6 w hw⟩
  · exact fun w hw => List.mem_filter.mpr ⟨ku_7 w hw, kug_7 w hw⟩
theorem kcl_ty : ∀ ci, ci < 8 → ∀ k, k < kNn ci → parseFieldDescriptor (kTn ci k).2.2.1 = some (ktY ci k) := by
  intro ci h
  rcases (show ci = 0 ∨ ci = 1 ∨ ci = 2 ∨ ci = 3 ∨ ci = 4 ∨ ci = 5 ∨ ci = 6 ∨ ci = 7 by omega) with rfl | rfl | rfl | rfl | rfl | rfl | rfl | rfl
  · exact tyX0_ok
  · exact tyX1_ok
  · exact tyX2_ok
  · exact tyX3_ok
  · exact tyX4_ok
  · exact tyX5_ok
  · exact tyX6_ok
  · exact tyX7_ok
theorem kcl_nm : ∀ ci, ci < 8 → ∀ a, a < kNn ci → ∀ b, b < kNn ci → a ≠ b → (kTn ci a).2.1 ≠ (kTn ci b).2.1 := by
  intro ci h
  rcases (show ci = 0 ∨ ci = 1 ∨ ci = 2 ∨ ci = 3 ∨ ci = 4 ∨ ci = 5 ∨ ci = 6 ∨ ci = 7 by omega) with rfl | rfl | rfl | rfl | rfl | rfl | rfl | rfl
  · exact nmX0
  · exact nmX1
  · exact nmX2
  · exact nmX3
  · exact nmX4
  · exact nmX5
  · exact nmX6
  · exact nmX7
theorem kcl_own : ∀ ci, ci < 8 → ∀ k, k < kNn ci → (kTn ci k).1 = kCn ci := by
  intro ci h
  rcases (show ci = 0 ∨ ci = 1 ∨ ci = 2 ∨ ci = 3 ∨ ci = 4 ∨ ci = 5 ∨ ci = 6 ∨ ci = 7 by omega) with rfl | rfl | rfl | rfl | rfl | rfl | rfl | rfl
  · exact kown_0
  · exact kown_1
  · exact kown_2
  · exact kown_3
  · exact kown_4
  · exact kown_5
  · exact kown_6
  · exact kown_7
def kFl (own : String) (idx ci k : Nat) : Prop := ci < 8 ∧ k < kNn ci ∧ (Cond.fieldLink own idx (kCn ci) (kTn ci k).2.1 (kTn ci k).2.2.1 ∈ kl_ws ∨ Cond.fieldLinkNest own idx (kCn ci) (kTn ci k).2.1 (kTn ci k).2.2.1 "PenRoom" ∈ kl_nw)
abbrev kM : Type := String × ByteArray × Nat × Option FieldType × String
def kMl (own : String) (idx : Nat) (y : MethodName) : Prop := Cond.methodLink own idx y ∈ kl_ws ∨ Cond.methodLinkNest own idx y "PenRoom" ∈ kl_nw
def kYb (y : MethodName) (μ : kM) (n : Nat) : Prop := Cond.code y μ.2.1 μ.2.2.1 μ.2.2.2.1 ∈ kl_ws ∧ Cond.initialized y.cls ∈ kl_ws ∧ (y.cls ≠ "java/lang/invoke/MethodHandle" ∧ y.cls ≠ "java/lang/invoke/VarHandle" ∧ (parseMethodDescriptor y.desc).map (fun d => d.parameters.length) = some n) ∧ μ.2.2.1 ≤ 21 ∧ plainName y.cls = true ∧ y.cls = μ.1 ∧ y.name = μ.2.2.2.2
def kYv (y : MethodName) (μ : kM) (n : Nat) : Prop := kYb y μ n ∧ Cond.instanceMethod y ∈ kl_ws ∧ Cond.selects y.cls y y ∈ kl_ws
def kYs (y : MethodName) (μ : kM) (n : Nat) : Prop := kYb y μ n ∧ Cond.static y ∈ kl_ws
def kYi (y : MethodName) (μ : kM) (n : Nat) : Prop := kYb y μ n ∧ Cond.instanceMethod y ∈ kl_ws ∧ y.name = "<init>"
theorem kf_X6_12 : kFl RX6 12 6 0 := ⟨by decide, by decide, Or.inl (kl_in 288 (by decide +kernel) (by decide +kernel))⟩
theorem kf_X6_19 : kFl RX6 19 6 1 := ⟨by decide, by decide, Or.inl (kl_in 289 (by decide +kernel) (by decide +kernel))⟩
theorem kf_X6_26 : kFl RX6 26 6 2 := ⟨by decide, by decide, Or.inl (kl_in 290 (by decide +kernel) (by decide +kernel))⟩
theorem kf_X6_35 : kFl RX6 35 6 3 := ⟨by decide, by decide, Or.inl (kl_in 291 (by decide +kernel) (by decide +kernel))⟩
theorem kf_X6_42 : kFl RX6 42 6 4 := ⟨by decide, by decide, Or.inl (kl_in 292 (by decide +kernel) (by decide +kernel))⟩
theorem kf_X6_46 : kFl RX6 46 6 5 := ⟨by decide, by decide, Or.inl (kl_in 293 (by decide +kernel) (by decide +kernel))⟩
theorem kf_X6_49 : kFl RX6 49 6 6 := ⟨by decide, by decide, Or.inl (kl_in 294 (by decide +kernel) (by decide +kernel))⟩
theorem kf_X6_53 : kFl RX6 53 6 7 := ⟨by decide, by decide, Or.inl (kl_in 295 (by decide +kernel) (by decide +kernel))⟩
theorem kf_X6_56 : kFl RX6 56 6 8 := ⟨by decide, by decide, Or.inl (kl_in 296 (by decide +kernel) (by decide +kernel))⟩
theorem kf_X6_60 : kFl RX6 60 6 9 := ⟨by decide, by decide, Or.inl (kl_in 297 (by decide +kernel) (by decide +kernel))⟩
theorem kf_X6_143 : kFl RX6 143 1 5 := ⟨by decide, by decide, Or.inr (kl_nin 669 (by decide +kernel) (by decide +kernel))⟩
theorem kf_X6_146 : kFl RX6 146 1 6 := ⟨by decide, by decide, Or.inr (kl_nin 671 (by decide +kernel) (by decide +kernel))⟩
theorem kf_X6_149 : kFl RX6 149 1 8 := ⟨by decide, by decide, Or.inr (kl_nin 678 (by decide +kernel) (by decide +kernel))⟩
theorem kf_X6_158 : kFl RX6 158 1 7 := ⟨by decide, by decide, Or.inr (kl_nin 674 (by decide +kernel) (by decide +kernel))⟩
theorem kf_X6_161 : kFl RX6 161 1 9 := ⟨by decide, by decide, Or.inr (kl_nin 682 (by decide +kernel) (by decide +kernel))⟩
theorem kf_X6_164 : kFl RX6 164 1 10 := ⟨by decide, by decide, Or.inr (kl_nin 684 (by decide +kernel) (by decide +kernel))⟩
theorem kf_X6_167 : kFl RX6 167 1 11 := ⟨by decide, by decide, Or.inr (kl_nin 686 (by decide +kernel) (by decide +kernel))⟩
theorem kf_X6_170 : kFl RX6 170 1 12 := ⟨by decide, by decide, Or.inr (kl_nin 690 (by decide +kernel) (by decide +kernel))⟩
theorem kf_X6_180 : kFl RX6 180 1 1 := ⟨by decide, by decide, Or.inr (kl_nin 658 (by decide +kernel) (by decide +kernel))⟩
theorem kf_X6_251 : kFl RX6 251 1 0 := ⟨by decide, by decide, Or.inr (kl_nin 654 (by decide +kernel) (by decide +kernel))⟩
theorem kf_X6_254 : kFl RX6 254 1 2 := ⟨by decide, by decide, Or.inr (kl_nin 661 (by decide +kernel) (by decide +kernel))⟩
theorem kf_X6_257 : kFl RX6 257 1 3 := ⟨by decide, by decide, Or.inr (kl_nin 664 (by decide +kernel) (by decide +kernel))⟩
theorem kf_X6_263 : kFl RX6 263 1 4 := ⟨by decide, by decide, Or.inr (kl_nin 666 (by decide +kernel) (by decide +kernel))⟩
theorem kf_X0_11 : kFl RX0 11 0 0 := ⟨by decide, by decide, Or.inl (kl_in 150 (by decide +kernel) (by decide +kernel))⟩
theorem kf_X0_17 : kFl RX0 17 0 1 := ⟨by decide, by decide, Or.inl (kl_in 151 (by decide +kernel) (by decide +kernel))⟩
theorem kf_X0_25 : kFl RX0 25 1 5 := ⟨by decide, by decide, Or.inr (kl_nin 668 (by decide +kernel) (by decide +kernel))⟩
theorem kf_X0_28 : kFl RX0 28 1 7 := ⟨by decide, by decide, Or.inr (kl_nin 673 (by decide +kernel) (by decide +kernel))⟩
theorem kf_X0_31 : kFl RX0 31 1 0 := ⟨by decide, by decide, Or.inr (kl_nin 653 (by decide +kernel) (by decide +kernel))⟩
theorem kf_X0_34 : kFl RX0 34 1 2 := ⟨by decide, by decide, Or.inr (kl_nin 660 (by decide +kernel) (by decide +kernel))⟩
theorem kf_X0_37 : kFl RX0 37 1 3 := ⟨by decide, by decide, Or.inr (kl_nin 663 (by decide +kernel) (by decide +kernel))⟩
theorem kf_X0_40 : kFl RX0 40 1 1 := ⟨by decide, by decide, Or.inr (kl_nin 657 (by decide +kernel) (by decide +kernel))⟩
theorem kf_X0_43 : kFl RX0 43 1 8 := ⟨by decide, by decide, Or.inr (kl_nin 677 (by decide +kernel) (by decide +kernel))⟩
theorem kf_X0_46 : kFl RX0 46 1 12 := ⟨by decide, by decide, Or.inr (kl_nin 689 (by decide +kernel) (by decide +kernel))⟩
theorem kf_X0_50 : kFl RX0 50 1 9 := ⟨by decide, by decide, Or.inr (kl_nin 681 (by decide +kernel) (by decide +kernel))⟩
theorem kf_X0_53 : kFl RX0 53 1 13 := ⟨by decide, by decide, Or.inr (kl_nin 693 (by decide +kernel) (by decide +kernel))⟩
theorem kf_X1_9 : kFl RX1 9 1 5 := ⟨by decide, by decide, Or.inl (kl_in 667 (by decide +kernel) (by decide +kernel))⟩
theorem kf_X1_15 : kFl RX1 15 1 6 := ⟨by decide, by decide, Or.inl (kl_in 670 (by decide +kernel) (by decide +kernel))⟩
theorem kf_X1_18 : kFl RX1 18 1 7 := ⟨by decide, by decide, Or.inl (kl_in 672 (by decide +kernel) (by decide +kernel))⟩
theorem kf_X1_21 : kFl RX1 21 1 8 := ⟨by decide, by decide, Or.inl (kl_in 675 (by decide +kernel) (by decide +kernel))⟩
theorem kf_X1_24 : kFl RX1 24 1 9 := ⟨by decide, by decide, Or.inl (kl_in 679 (by decide +kernel) (by decide +kernel))⟩
theorem kf_X1_28 : kFl RX1 28 1 10 := ⟨by decide, by decide, Or.inl (kl_in 683 (by decide +kernel) (by decide +kernel))⟩
theorem kf_X1_31 : kFl RX1 31 1 11 := ⟨by decide, by decide, Or.inl (kl_in 685 (by decide +kernel) (by decide +kernel))⟩
theorem kf_X1_34 : kFl RX1 34 1 12 := ⟨by decide, by decide, Or.inl (kl_in 687 (by decide +kernel) (by decide +kernel))⟩
theorem kf_X1_37 : kFl RX1 37 1 13 := ⟨by decide, by decide, Or.inl (kl_in 691 (by decide +kernel) (by decide +kernel))⟩
theorem kf_X1_40 : kFl RX1 40 1 0 := ⟨by decide, by decide, Or.inl (kl_in 652 (by decide +kernel) (by decide +kernel))⟩
theorem kf_X1_43 : kFl RX1 43 1 1 := ⟨by decide, by decide, Or.inl (kl_in 655 (by decide +kernel) (by decide +kernel))⟩
theorem kf_X1_46 : kFl RX1 46 1 2 := ⟨by decide, by decide, Or.inl (kl_in 659 (by decide +kernel) (by decide +kernel))⟩
theorem kf_X1_49 : kFl RX1 49 1 3 := ⟨by decide, by decide, Or.inl (kl_in 662 (by decide +kernel) (by decide +kernel))⟩
theorem kf_X1_52 : kFl RX1 52 1 4 := ⟨by decide, by decide, Or.inl (kl_in 665 (by decide +kernel) (by decide +kernel))⟩
theorem kf_X2_9 : kFl RX2 9 2 0 := ⟨by decide, by decide, Or.inl (kl_in 163 (by decide +kernel) (by decide +kernel))⟩
theorem kf_X2_15 : kFl RX2 15 2 1 := ⟨by decide, by decide, Or.inl (kl_in 164 (by decide +kernel) (by decide +kernel))⟩
theorem kf_X2_19 : kFl RX2 19 2 2 := ⟨by decide, by decide, Or.inl (kl_in 165 (by decide +kernel) (by decide +kernel))⟩
theorem kf_X2_22 : kFl RX2 22 2 3 := ⟨by decide, by decide, Or.inl (kl_in 166 (by decide +kernel) (by decide +kernel))⟩
theorem kf_X2_25 : kFl RX2 25 2 4 := ⟨by decide, by decide, Or.inl (kl_in 167 (by decide +kernel) (by decide +kernel))⟩
theorem kf_X2_28 : kFl RX2 28 2 5 := ⟨by decide, by decide, Or.inl (kl_in 168 (by decide +kernel) (by decide +kernel))⟩
theorem kf_X2_31 : kFl RX2 31 2 6 := ⟨by decide, by decide, Or.inl (kl_in 169 (by decide +kernel) (by decide +kernel))⟩
theorem kf_X2_34 : kFl RX2 34 2 7 := ⟨by decide, by decide, Or.inl (kl_in 170 (by decide +kernel) (by decide +kernel))⟩
theorem kf_X3_9 : kFl RX3 9 3 0 := ⟨by decide, by decide, Or.inl (kl_in 243 (by decide +kernel) (by decide +kernel))⟩
theorem kf_X3_15 : kFl RX3 15 3 1 := ⟨by decide, by decide, Or.inl (kl_in 244 (by decide +kernel) (by decide +kernel))⟩
theorem kf_X3_19 : kFl RX3 19 3 2 := ⟨by decide, by decide, Or.inl (kl_in 245 (by decide +kernel) (by decide +kernel))⟩
theorem kf_X3_22 : kFl RX3 22 3 3 := ⟨by decide, by decide, Or.inl (kl_in 246 (by decide +kernel) (by decide +kernel))⟩
theorem kf_X3_25 : kFl RX3 25 3 4 := ⟨by decide, by decide, Or.inl (kl_in 247 (by decide +kernel) (by decide +kernel))⟩
theorem kf_X3_28 : kFl RX3 28 3 5 := ⟨by decide, by decide, Or.inl (kl_in 248 (by decide +kernel) (by decide +kernel))⟩
theorem kf_X3_31 : kFl RX3 31 3 6 := ⟨by decide, by decide, Or.inl (kl_in 249 (by decide +kernel) (by decide +kernel))⟩
theorem kf_X3_34 : kFl RX3 34 3 7 := ⟨by decide, by decide, Or.inl (kl_in 250 (by decide +kernel) (by decide +kernel))⟩
theorem kf_X3_37 : kFl RX3 37 3 8 := ⟨by decide, by decide, Or.inl (kl_in 251 (by decide +kernel) (by decide +kernel))⟩
theorem kf_X3_40 : kFl RX3 40 3 9 := ⟨by decide, by decide, Or.inl (kl_in 252 (by decide +kernel) (by decide +kernel))⟩
theorem kf_X3_43 : kFl RX3 43 3 10 := ⟨by decide, by decide, Or.inl (kl_in 253 (by decide +kernel) (by decide +kernel))⟩
theorem kf_X3_46 : kFl RX3 46 3 11 := ⟨by decide, by decide, Or.inl (kl_in 254 (by decide +kernel) (by decide +kernel))⟩
theorem kf_X3_49 : kFl RX3 49 3 12 := ⟨by decide, by decide, Or.inl (kl_in 255 (by decide +kernel) (by decide +kernel))⟩
theorem kf_X3_52 : kFl RX3 52 3 13 := ⟨by decide, by decide, Or.inl (kl_in 257 (by decide +kernel) (by decide +kernel))⟩
theorem kf_X4_9 : kFl RX4 9 4 2 := ⟨by decide, by decide, Or.inl (kl_in 197 (by decide +kernel) (by decide +kernel))⟩
theorem kf_X4_15 : kFl RX4 15 4 3 := ⟨by decide, by decide, Or.inl (kl_in 198 (by decide +kernel) (by decide +kernel))⟩
theorem kf_X4_18 : kFl RX4 18 4 4 := ⟨by decide, by decide, Or.inl (kl_in 199 (by decide +kernel) (by decide +kernel))⟩
theorem kf_X4_21 : kFl RX4 21 4 5 := ⟨by decide, by decide, Or.inl (kl_in 200 (by decide +kernel) (by decide +kernel))⟩
theorem kf_X4_24 : kFl RX4 24 4 6 := ⟨by decide, by decide, Or.inl (kl_in 201 (by decide +kernel) (by decide +kernel))⟩
theorem kf_X4_28 : kFl RX4 28 4 7 := ⟨by decide, by decide, Or.inl (kl_in 202 (by decide +kernel) (by decide +kernel))⟩
theorem kf_X4_31 : kFl RX4 31 4 8 := ⟨by decide, by decide, Or.inl (kl_in 203 (by decide +kernel) (by decide +kernel))⟩
theorem kf_X4_34 : kFl RX4 34 4 9 := ⟨by decide, by decide, Or.inl (kl_in 204 (by decide +kernel) (by decide +kernel))⟩
theorem kf_X4_37 : kFl RX4 37 4 10 := ⟨by decide, by decide, Or.inl (kl_in 205 (by decide +kernel) (by decide +kernel))⟩
theorem kf_X4_40 : kFl RX4 40 4 11 := ⟨by decide, by decide, Or.inl (kl_in 206 (by decide +kernel) (by decide +kernel))⟩
theorem kf_X4_43 : kFl RX4 43 4 0 := ⟨by decide, by decide, Or.inl (kl_in 195 (by decide +kernel) (by decide +kernel))⟩
theorem kf_X4_47 : kFl RX4 47 4 1 := ⟨by decide, by decide, Or.inl (kl_in 196 (by decide +kernel) (by decide +kernel))⟩
theorem kf_X4_51 : kFl RX4 51 3 12 := ⟨by decide, by decide, Or.inr (kl_nin 256 (by decide +kernel) (by decide +kernel))⟩
theorem kf_X4_56 : kFl RX4 56 3 13 := ⟨by decide, by decide, Or.inr (kl_nin 258 (by decide +kernel) (by decide +kernel))⟩
theorem kf_X4_73 : kFl RX4 73 1 8 := ⟨by decide, by decide, Or.inr (kl_nin 676 (by decide +kernel) (by decide +kernel))⟩
theorem kf_X4_82 : kFl RX4 82 1 12 := ⟨by decide, by decide, Or.inr (kl_nin 688 (by decide +kernel) (by decide +kernel))⟩
theorem kf_X4_85 : kFl RX4 85 1 9 := ⟨by decide, by decide, Or.inr (kl_nin 680 (by decide +kernel) (by decide +kernel))⟩
theorem kf_X4_88 : kFl RX4 88 1 13 := ⟨by decide, by decide, Or.inr (kl_nin 692 (by decide +kernel) (by decide +kernel))⟩
theorem kf_X4_95 : kFl RX4 95 1 1 := ⟨by decide, by decide, Or.inr (kl_nin 656 (by decide +kernel) (by decide +kernel))⟩
theorem kf_X5_9 : kFl RX5 9 5 0 := ⟨by decide, by decide, Or.inl (kl_in 100 (by decide +kernel) (by decide +kernel))⟩
theorem kf_X5_15 : kFl RX5 15 5 1 := ⟨by decide, by decide, Or.inl (kl_in 101 (by decide +kernel) (by decide +kernel))⟩
theorem kf_X5_19 : kFl RX5 19 5 2 := ⟨by decide, by decide, Or.inl (kl_in 102 (by decide +kernel) (by decide +kernel))⟩
theorem kf_X5_22 : kFl RX5 22 5 3 := ⟨by decide, by decide, Or.inl (kl_in 103 (by decide +kernel) (by decide +kernel))⟩
theorem kf_X5_25 : kFl RX5 25 5 4 := ⟨by decide, by decide, Or.inl (kl_in 104 (by decide +kernel) (by decide +kernel))⟩
theorem kf_X5_28 : kFl RX5 28 5 5 := ⟨by decide, by decide, Or.inl (kl_in 105 (by decide +kernel) (by decide +kernel))⟩
theorem kf_X5_31 : kFl RX5 31 5 6 := ⟨by decide, by decide, Or.inl (kl_in 106 (by decide +kernel) (by decide +kernel))⟩
theorem kf_X5_34 : kFl RX5 34 5 7 := ⟨by decide, by decide, Or.inl (kl_in 107 (by decide +kernel) (by decide +kernel))⟩
theorem kf_X5_37 : kFl RX5 37 5 8 := ⟨by decide, by decide, Or.inl (kl_in 108 (by decide +kernel) (by decide +kernel))⟩
theorem kf_X5_40 : kFl RX5 40 5 9 := ⟨by decide, by decide, Or.inl (kl_in 109 (by decide +kernel) (by decide +kernel))⟩
theorem kf_X5_43 : kFl RX5 43 5 10 := ⟨by decide, by decide, Or.inl (kl_in 110 (by decide +kernel) (by decide +kernel))⟩
theorem kf_X5_46 : kFl RX5 46 5 11 := ⟨by decide, by decide, Or.inl (kl_in 111 (by decide +kernel) (by decide +kernel))⟩
theorem kf_X5_49 : kFl RX5 49 5 12 := ⟨by decide, by decide, Or.inl (kl_in 112 (by decide +kernel) (by decide +kernel))⟩
theorem kf_X7_7 : kFl RX7 7 7 0 := ⟨by decide, by decide, Or.inl (kl_in 974 (by decide +kernel) (by decide +kernel))⟩
theorem kf_X7_13 : kFl RX7 13 7 1 := ⟨by decide, by decide, Or.inl (kl_in 975 (by decide +kernel) (by decide +kernel))⟩
theorem kf_X7_16 : kFl RX7 16 7 2 := ⟨by decide, by decide, Or.inl (kl_in 976 (by decide +kernel) (by decide +kernel))⟩
theorem kf_X7_19 : kFl RX7 19 7 3 := ⟨by decide, by decide, Or.inl (kl_in 977 (by decide +kernel) (by decide +kernel))⟩
theorem kf_X7_22 : kFl RX7 22 7 4 := ⟨by decide, by decide, Or.inl (kl_in 978 (by decide +kernel) (by decide +kernel))⟩
theorem kf_X7_25 : kFl RX7 25 7 5 := ⟨by decide, by decide, Or.inl (kl_in 979 (by decide +kernel) (by decide +kernel))⟩
theorem kf_X7_28 : kFl RX7 28 7 6 := ⟨by decide, by decide, Or.inl (kl_in 980 (by decide +kernel) (by decide +kernel))⟩
theorem kf_X7_31 : kFl RX7 31 7 7 := ⟨by decide, by decide, Or.inl (kl_in 981 (by decide +kernel) (by decide +kernel))⟩
theorem kf_X7_34 : kFl RX7 34 7 8 := ⟨by decide, by decide, Or.inl (kl_in 982 (by decide +kernel) (by decide +kernel))⟩
theorem kf_X7_37 : kFl RX7 37 7 9 := ⟨by decide, by decide, Or.inl (kl_in 983 (by decide +kernel) (by decide +kernel))⟩
theorem kf_X7_41 : kFl RX7 41 7 14 := ⟨by decide, by decide, Or.inl (kl_in 988 (by decide +kernel) (by decide +kernel))⟩
theorem kf_X7_45 : kFl RX7 45 7 15 := ⟨by decide, by decide, Or.inl (kl_in 989 (by decide +kernel) (by decide +kernel))⟩
theorem kf_X7_48 : kFl RX7 48 7 19 := ⟨by decide, by decide, Or.inl (kl_in 993 (by decide +kernel) (by decide +kernel))⟩
theorem kf_X7_52 : kFl RX7 52 7 25 := ⟨by decide, by decide, Or.inl (kl_in 999 (by decide +kernel) (by decide +kernel))⟩
theorem kf_X7_55 : kFl RX7 55 7 26 := ⟨by decide, by decide, Or.inl (kl_in 1000 (by decide +kernel) (by decide +kernel))⟩
theorem kf_X7_58 : kFl RX7 58 7 27 := ⟨by decide, by decide, Or.inl (kl_in 1001 (by decide +kernel) (by decide +kernel))⟩
theorem kf_X7_61 : kFl RX7 61 7 28 := ⟨by decide, by decide, Or.inl (kl_in 1002 (by decide +kernel) (by decide +kernel))⟩
theorem kf_X7_64 : kFl RX7 64 7 29 := ⟨by decide, by decide, Or.inl (kl_in 1003 (by decide +kernel) (by decide +kernel))⟩
theorem kf_X7_67 : kFl RX7 67 7 30 := ⟨by decide, by decide, Or.inl (kl_in 1004 (by decide +kernel) (by decide +kernel))⟩
theorem kf_X7_70 : kFl RX7 70 7 31 := ⟨by decide, by decide, Or.inl (kl_in 1005 (by decide +kernel) (by decide +kernel))⟩
theorem kf_X7_73 : kFl RX7 73 7 32 := ⟨by decide, by decide, Or.inl (kl_in 1006 (by decide +kernel) (by decide +kernel))⟩
theorem kf_X7_76 : kFl RX7 76 7 33 := ⟨by decide, by decide, Or.inl (kl_in 1007 (by decide +kernel) (by decide +kernel))⟩
theorem kf_X7_79 : kFl RX7 79 7 34 := ⟨by decide, by decide, Or.inl (kl_in 1008 (by decide +kernel) (by decide +kernel))⟩
theorem kf_X7_82 : kFl RX7 82 7 35 := ⟨by decide, by decide, Or.inl (kl_in 1009 (by decide +kernel) (by decide +kernel))⟩
theorem kf_X7_85 : kFl RX7 85 7 36 := ⟨by decide, by decide, Or.inl (kl_in 1010 (by decide +kernel) (by decide +kernel))⟩
theorem kf_X7_88 : kFl RX7 88 7 37 := ⟨by decide, by decide, Or.inl (kl_in 1011 (by decide +kernel) (by decide +kernel))⟩
theorem kf_X7_91 : kFl RX7 91 7 42 := ⟨by decide, by decide, Or.inl (kl_in 1016 (by decide +kernel) (by decide +kernel))⟩
theorem kf_X7_94 : kFl RX7 94 7 45 := ⟨by decide, by decide, Or.inl (kl_in 1019 (by decide +kernel) (by decide +kernel))⟩
theorem kf_X7_97 : kFl RX7 97 7 46 := ⟨by decide, by decide, Or.inl (kl_in 1020 (by decide +kernel) (by decide +kernel))⟩
theorem kf_X7_100 : kFl RX7 100 7 47 := ⟨by decide, by decide, Or.inl (kl_in 1021 (by decide +kernel) (by decide +kernel))⟩
theorem kf_X7_103 : kFl RX7 103 7 48 := ⟨by decide, by decide, Or.inl (kl_in 1022 (by decide +kernel) (by decide +kernel))⟩
theorem kf_X7_106 : kFl RX7 106 7 49 := ⟨by decide, by decide, Or.inl (kl_in 1023 (by decide +kernel) (by decide +kernel))⟩
theorem kf_X7_109 : kFl RX7 109 7 50 := ⟨by decide, by decide, Or.inl (kl_in 1024 (by decide +kernel) (by decide +kernel))⟩
theorem kf_X7_112 : kFl RX7 112 7 51 := ⟨by decide, by decide, Or.inl (kl_in 1025 (by decide +kernel) (by decide +kernel))⟩
theorem kf_X7_115 : kFl RX7 115 7 52 := ⟨by decide, by decide, Or.inl (kl_in 1026 (by decide +kernel) (by decide +kernel))⟩
theorem kf_X7_118 : kFl RX7 118 7 53 := ⟨by decide, by decide, Or.inl (kl_in 1027 (by decide +kernel) (by decide +kernel))⟩
theorem kf_X7_121 : kFl RX7 121 7 54 := ⟨by decide, by decide, Or.inl (kl_in 1028 (by decide +kernel) (by decide +kernel))⟩
theorem kf_X7_124 : kFl RX7 124 7 55 := ⟨by decide, by decide, Or.inl (kl_in 1029 (by decide +kernel) (by decide +kernel))⟩
theorem kf_X7_127 : kFl RX7 127 7 56 := ⟨by decide, by decide, Or.inl (kl_in 1030 (by decide +kernel) (by decide +kernel))⟩
theorem kf_X7_130 : kFl RX7 130 7 57 := ⟨by decide, by decide, Or.inl (kl_in 1031 (by decide +kernel) (by decide +kernel))⟩
theorem kf_X7_133 : kFl RX7 133 7 58 := ⟨by decide, by decide, Or.inl (kl_in 1032 (by decide +kernel) (by decide +kernel))⟩
theorem kf_X7_136 : kFl RX7 136 7 59 := ⟨by decide, by decide, Or.inl (kl_in 1033 (by decide +kernel) (by decide +kernel))⟩
theorem kf_X7_140 : kFl RX7 140 7 60 := ⟨by decide, by decide, Or.inl (kl_in 1034 (by decide +kernel) (by decide +kernel))⟩
theorem kf_X7_143 : kFl RX7 143 7 63 := ⟨by decide, by decide, Or.inl (kl_in 1037 (by decide +kernel) (by decide +kernel))⟩
theorem kf_X7_146 : kFl RX7 146 7 65 := ⟨by decide, by decide, Or.inl (kl_in 1039 (by decide +kernel) (by decide +kernel))⟩
theorem kf_X7_149 : kFl RX7 149 7 66 := ⟨by decide, by decide, Or.inl (kl_in 1040 (by decide +kernel) (by decide +kernel))⟩
theorem kf_X7_152 : kFl RX7 152 7 67 := ⟨by decide, by decide, Or.inl (kl_in 1041 (by decide +kernel) (by decide +kernel))⟩
theorem kf_X7_155 : kFl RX7 155 7 68 := ⟨by decide, by decide, Or.inl (kl_in 1042 (by decide +kernel) (by decide +kernel))⟩
theorem kf_X7_158 : kFl RX7 158 7 69 := ⟨by decide, by decide, Or.inl (kl_in 1043 (by decide +kernel) (by decide +kernel))⟩
theorem kf_X7_161 : kFl RX7 161 7 10 := ⟨by decide, by decide, Or.inl (kl_in 984 (by decide +kernel) (by decide +kernel))⟩
theorem kf_X7_173 : kFl RX7 173 7 11 := ⟨by decide, by decide, Or.inl (kl_in 985 (by decide +kernel) (by decide +kernel))⟩
theorem kf_X7_177 : kFl RX7 177 7 12 := ⟨by decide, by decide, Or.inl (kl_in 986 (by decide +kernel) (by decide +kernel))⟩
theorem kf_X7_187 : kFl RX7 187 7 13 := ⟨by decide, by decide, Or.inl (kl_in 987 (by decide +kernel) (by decide +kernel))⟩
theorem kf_X7_190 : kFl RX7 190 7 17 := ⟨by decide, by decide, Or.inl (kl_in 991 (by decide +kernel) (by decide +kernel))⟩
theorem kf_X7_193 : kFl RX7 193 7 18 := ⟨by decide, by decide, Or.inl (kl_in 992 (by decide +kernel) (by decide +kernel))⟩
theorem kf_X7_196 : kFl RX7 196 7 21 := ⟨by decide, by decide, Or.inl (kl_in 995 (by decide +kernel) (by decide +kernel))⟩
theorem kf_X7_199 : kFl RX7 199 7 20 := ⟨by decide, by decide, Or.inl (kl_in 994 (by decide +kernel) (by decide +kernel))⟩
theorem kf_X7_206 : kFl RX7 206 7 22 := ⟨by decide, by decide, Or.inl (kl_in 996 (by decide +kernel) (by decide +kernel))⟩
theorem kf_X7_212 : kFl RX7 212 7 24 := ⟨by decide, by decide, Or.inl (kl_in 998 (by decide +kernel) (by decide +kernel))⟩
theorem kf_X7_219 : kFl RX7 219 7 23 := ⟨by decide, by decide, Or.inl (kl_in 997 (by decide +kernel) (by decide +kernel))⟩
theorem kf_X7_263 : kFl RX7 263 7 16 := ⟨by decide, by decide, Or.inl (kl_in 990 (by decide +kernel) (by decide +kernel))⟩
theorem kf_X7_266 : kFl RX7 266 7 38 := ⟨by decide, by decide, Or.inl (kl_in 1012 (by decide +kernel) (by decide +kernel))⟩
theorem kf_X7_269 : kFl RX7 269 7 41 := ⟨by decide, by decide, Or.inl (kl_in 1015 (by decide +kernel) (by decide +kernel))⟩
theorem kf_X7_272 : kFl RX7 272 7 39 := ⟨by decide, by decide, Or.inl (kl_in 1013 (by decide +kernel) (by decide +kernel))⟩
theorem kf_X7_275 : kFl RX7 275 7 40 := ⟨by decide, by decide, Or.inl (kl_in 1014 (by decide +kernel) (by decide +kernel))⟩
theorem kf_X7_325 : kFl RX7 325 7 43 := ⟨by decide, by decide, Or.inl (kl_in 1017 (by decide +kernel) (by decide +kernel))⟩
theorem kf_X7_328 : kFl RX7 328 7 44 := ⟨by decide, by decide, Or.inl (kl_in 1018 (by decide +kernel) (by decide +kernel))⟩
theorem kf_X7_357 : kFl RX7 357 7 62 := ⟨by decide, by decide, Or.inl (kl_in 1036 (by decide +kernel) (by decide +kernel))⟩
theorem kf_X7_360 : kFl RX7 360 7 61 := ⟨by decide, by decide, Or.inl (kl_in 1035 (by decide +kernel) (by decide +kernel))⟩
theorem kf_X7_399 : kFl RX7 399 7 64 := ⟨by decide, by decide, Or.inl (kl_in 1038 (by decide +kernel) (by decide +kernel))⟩
theorem kf_X7_416 : kFl RX7 416 7 70 := ⟨by decide, by decide, Or.inl (kl_in 1044 (by decide +kernel) (by decide +kernel))⟩
theorem kf_X7_423 : kFl RX7 423 7 71 := ⟨by decide, by decide, Or.inl (kl_in 1045 (by decide +kernel) (by decide +kernel))⟩
theorem kf_X7_427 : kFl RX7 427 7 73 := ⟨by decide, by decide, Or.inl (kl_in 1047 (by decide +kernel) (by decide +kernel))⟩
theorem kf_X7_430 : kFl RX7 430 7 72 := ⟨by decide, by decide, Or.inl (kl_in 1046 (by decide +kernel) (by decide +kernel))⟩
abbrev mX0_init : kM := (RX0, cX0_init, 1, none, "<init>")
theorem ky_X0_init : kYi yX0_init mX0_init 0 := ⟨⟨kl_in 146 (by decide +kernel) (by decide +kernel), kl_in 75 (by decide +kernel) (by decide +kernel), ⟨by decide +kernel, by decide +kernel, by decide +kernel⟩, by decide, by decide +kernel, rfl, rfl⟩, kl_in 145 (by decide +kernel) (by decide +kernel), by decide +kernel⟩
abbrev mX0_size : kM := (RX0, cX0_size, 1, (some .int), "size")
theorem ky_X0_size : kYv yX0_size mX0_size 0 := ⟨⟨kl_in 800 (by decide +kernel) (by decide +kernel), kl_in 75 (by decide +kernel) (by decide +kernel), ⟨by decide +kernel, by decide +kernel, by decide +kernel⟩, by decide, by decide +kernel, rfl, rfl⟩, kl_in 798 (by decide +kernel) (by decide +kernel), kl_in 799 (by decide +kernel) (by decide +kernel)⟩
abbrev mX0_isFull : kM := (RX0, cX0_isFull, 1, (some .boolean), "isFull")
theorem ky_X0_isFull : kYv yX0_isFull mX0_isFull 0 := ⟨⟨kl_in 645 (by decide +kernel) (by decide +kernel), kl_in 75 (by decide +kernel) (by decide +kernel), ⟨by decide +kernel, by decide +kernel, by decide +kernel⟩, by decide, by decide +kernel, rfl, rfl⟩, kl_in 643 (by decide +kernel) (by decide +kernel), kl_in 644 (by decide +kernel) (by decide +kernel)⟩
abbrev mX0_at : kM := (RX0, cX0_at, 2, (some (.object "PenRoom$Paper")), "at")
theorem ky_X0_at : kYv yX0_at mX0_at 1 := ⟨⟨kl_in 735 (by decide +kernel) (by decide +kernel), kl_in 75 (by decide +kernel) (by decide +kernel), ⟨by decide +kernel, by decide +kernel, by decide +kernel⟩, by decide, by decide +kernel, rfl, rfl⟩, kl_in 733 (by decide +kernel) (by decide +kernel), kl_in 734 (by decide +kernel) (by decide +kernel)⟩
abbrev mX0_add : kM := (RX0, cX0_add, 2, (some .int), "add")
theorem ky_X0_add : kYv yX0_add mX0_add 1 := ⟨⟨kl_in 726 (by decide +kernel) (by decide +kernel), kl_in 75 (by decide +kernel) (by decide +kernel), ⟨by decide +kernel, by decide +kernel, by decide +kernel⟩, by decide, by decide +kernel, rfl, rfl⟩, kl_in 724 (by decide +kernel) (by decide +kernel), kl_in 725 (by decide +kernel) (by decide +kernel)⟩
abbrev mX0_sumOfOthers : kM := (RX0, cX0_sumOfOthers, 9, (some .int), "sumOfOthers")
theorem ky_X0_sumOfOthers : kYv yX0_sumOfOthers mX0_sumOfOthers 5 := ⟨⟨kl_in 739 (by decide +kernel) (by decide +kernel), kl_in 75 (by decide +kernel) (by decide +kernel), ⟨by decide +kernel, by decide +kernel, by decide +kernel⟩, by decide, by decide +kernel, rfl, rfl⟩, kl_in 737 (by decide +kernel) (by decide +kernel), kl_in 738 (by decide +kernel) (by decide +kernel)⟩
abbrev mX0_total : kM := (RX0, cX0_total, 10, (some .long), "total")
theorem ky_X0_total : kYv yX0_total mX0_total 4 := ⟨⟨kl_in 861 (by decide +kernel) (by decide +kernel), kl_in 75 (by decide +kernel) (by decide +kernel), ⟨by decide +kernel, by decide +kernel, by decide +kernel⟩, by decide, by decide +kernel, rfl, rfl⟩, kl_in 859 (by decide +kernel) (by decide +kernel), kl_in 860 (by decide +kernel) (by decide +kernel)⟩
abbrev mX0_isWithin : kM := (RX0, cX0_isWithin, 3, (some .boolean), "isWithin")
theorem ky_X0_isWithin : kYs yX0_isWithin mX0_isWithin 3 := ⟨⟨kl_in 809 (by decide +kernel) (by decide +kernel), kl_in 75 (by decide +kernel) (by decide +kernel), ⟨by decide +kernel, by decide +kernel, by decide +kernel⟩, by decide, by decide +kernel, rfl, rfl⟩, kl_in 808 (by decide +kernel) (by decide +kernel)⟩
abbrev mX1_init : kM := (RX1, cX1_init, 6, none, "<init>")
theorem ky_X1_init : kYi yX1_init mX1_init 5 := ⟨⟨kl_in 650 (by decide +kernel) (by decide +kernel), kl_in 84 (by decide +kernel) (by decide +kernel), ⟨by decide +kernel, by decide +kernel, by decide +kernel⟩, by decide, by decide +kernel, rfl, rfl⟩, kl_in 649 (by decide +kernel) (by decide +kernel), by decide +kernel⟩
abbrev mX1_clearSlots : kM := (RX1, cX1_clearSlots, 1, none, "clearSlots")
theorem ky_X1_clearSlots : kYv yX1_clearSlots mX1_clearSlots 0 := ⟨⟨kl_in 743 (by decide +kernel) (by decide +kernel), kl_in 84 (by decide +kernel) (by decide +kernel), ⟨by decide +kernel, by decide +kernel, by decide +kernel⟩, by decide, by decide +kernel, rfl, rfl⟩, kl_in 741 (by decide +kernel) (by decide +kernel), kl_in 742 (by decide +kernel) (by decide +kernel)⟩
abbrev mX1_addSlot : kM := (RX1, cX1_addSlot, 3, none, "addSlot")
theorem ky_X1_addSlot : kYv yX1_addSlot mX1_addSlot 2 := ⟨⟨kl_in 763 (by decide +kernel) (by decide +kernel), kl_in 84 (by decide +kernel) (by decide +kernel), ⟨by decide +kernel, by decide +kernel, by decide +kernel⟩, by decide, by decide +kernel, rfl, rfl⟩, kl_in 761 (by decide +kernel) (by decide +kernel), kl_in 762 (by decide +kernel) (by decide +kernel)⟩
abbrev mX1_isSigned : kM := (RX1, cX1_isSigned, 2, (some .boolean), "isSigned")
theorem ky_X1_isSigned : kYv yX1_isSigned mX1_isSigned 1 := ⟨⟨kl_in 775 (by decide +kernel) (by decide +kernel), kl_in 84 (by decide +kernel) (by decide +kernel), ⟨by decide +kernel, by decide +kernel, by decide +kernel⟩, by decide, by decide +kernel, rfl, rfl⟩, kl_in 773 (by decide +kernel) (by decide +kernel), kl_in 774 (by decide +kernel) (by decide +kernel)⟩
abbrev mX1_signedSlots : kM := (RX1, cX1_signedSlots, 3, (some .int), "signedSlots")
theorem ky_X1_signedSlots : kYv yX1_signedSlots mX1_signedSlots 0 := ⟨⟨kl_in 771 (by decide +kernel) (by decide +kernel), kl_in 84 (by decide +kernel) (by decide +kernel), ⟨by decide +kernel, by decide +kernel, by decide +kernel⟩, by decide, by decide +kernel, rfl, rfl⟩, kl_in 769 (by decide +kernel) (by decide +kernel), kl_in 770 (by decide +kernel) (by decide +kernel)⟩
abbrev mX1_firstOpenStep : kM := (RX1, cX1_firstOpenStep, 2, (some .int), "firstOpenStep")
theorem ky_X1_firstOpenStep : kYv yX1_firstOpenStep mX1_firstOpenStep 0 := ⟨⟨kl_in 779 (by decide +kernel) (by decide +kernel), kl_in 84 (by decide +kernel) (by decide +kernel), ⟨by decide +kernel, by decide +kernel, by decide +kernel⟩, by decide, by decide +kernel, rfl, rfl⟩, kl_in 777 (by decide +kernel) (by decide +kernel), kl_in 778 (by decide +kernel) (by decide +kernel)⟩
abbrev mX1_isOpenNow : kM := (RX1, cX1_isOpenNow, 2, (some .boolean), "isOpenNow")
theorem ky_X1_isOpenNow : kYv yX1_isOpenNow mX1_isOpenNow 1 := ⟨⟨kl_in 791 (by decide +kernel) (by decide +kernel), kl_in 84 (by decide +kernel) (by decide +kernel), ⟨by decide +kernel, by decide +kernel, by decide +kernel⟩, by decide, by decide +kernel, rfl, rfl⟩, kl_in 789 (by decide +kernel) (by decide +kernel), kl_in 790 (by decide +kernel) (by decide +kernel)⟩
abbrev mX1_taken : kM := (RX1, cX1_taken, 3, (some .int), "taken")
theorem ky_X1_taken : kYv yX1_taken mX1_taken 0 := ⟨⟨kl_in 834 (by decide +kernel) (by decide +kernel), kl_in 84 (by decide +kernel) (by decide +kernel), ⟨by decide +kernel, by decide +kernel, by decide +kernel⟩, by decide, by decide +kernel, rfl, rfl⟩, kl_in 832 (by decide +kernel) (by decide +kernel), kl_in 833 (by decide +kernel) (by decide +kernel)⟩
abbrev mX1_put : kM := (RX1, cX1_put, 5, none, "put")
theorem ky_X1_put : kYv yX1_put mX1_put 4 := ⟨⟨kl_in 843 (by decide +kernel) (by decide +kernel), kl_in 84 (by decide +kernel) (by decide +kernel), ⟨by decide +kernel, by decide +kernel, by decide +kernel⟩, by decide, by decide +kernel, rfl, rfl⟩, kl_in 841 (by decide +kernel) (by decide +kernel), kl_in 842 (by decide +kernel) (by decide +kernel)⟩
abbrev mX2_init : kM := (RX2, cX2_init, 1, none, "<init>")
theorem ky_X2_init : kYi yX2_init mX2_init 0 := ⟨⟨kl_in 161 (by decide +kernel) (by decide +kernel), kl_in 76 (by decide +kernel) (by decide +kernel), ⟨by decide +kernel, by decide +kernel, by decide +kernel⟩, by decide, by decide +kernel, rfl, rfl⟩, kl_in 160 (by decide +kernel) (by decide +kernel), by decide +kernel⟩
abbrev mX2_size : kM := (RX2, cX2_size, 1, (some .int), "size")
theorem ky_X2_size : kYv yX2_size mX2_size 0 := ⟨⟨kl_in 420 (by decide +kernel) (by decide +kernel), kl_in 76 (by decide +kernel) (by decide +kernel), ⟨by decide +kernel, by decide +kernel, by decide +kernel⟩, by decide, by decide +kernel, rfl, rfl⟩, kl_in 418 (by decide +kernel) (by decide +kernel), kl_in 419 (by decide +kernel) (by decide +kernel)⟩
abbrev mX2_faultNumber : kM := (RX2, cX2_faultNumber, 1, (some .int), "faultNumber")
theorem ky_X2_faultNumber : kYv yX2_faultNumber mX2_faultNumber 0 := ⟨⟨kl_in 625 (by decide +kernel) (by decide +kernel), kl_in 76 (by decide +kernel) (by decide +kernel), ⟨by decide +kernel, by decide +kernel, by decide +kernel⟩, by decide, by decide +kernel, rfl, rfl⟩, kl_in 623 (by decide +kernel) (by decide +kernel), kl_in 624 (by decide +kernel) (by decide +kernel)⟩
abbrev mX2_faultPlace : kM := (RX2, cX2_faultPlace, 1, (some .int), "faultPlace")
theorem ky_X2_faultPlace : kYv yX2_faultPlace mX2_faultPlace 0 := ⟨⟨kl_in 629 (by decide +kernel) (by decide +kernel), kl_in 76 (by decide +kernel) (by decide +kernel), ⟨by decide +kernel, by decide +kernel, by decide +kernel⟩, by decide, by decide +kernel, rfl, rfl⟩, kl_in 627 (by decide +kernel) (by decide +kernel), kl_in 628 (by decide +kernel) (by decide +kernel)⟩
abbrev mX2_hasRoomFor : kM := (RX2, cX2_hasRoomFor, 2, (some .boolean), "hasRoomFor")
theorem ky_X2_hasRoomFor : kYv yX2_hasRoomFor mX2_hasRoomFor 1 := ⟨⟨kl_in 411 (by decide +kernel) (by decide +kernel), kl_in 76 (by decide +kernel) (by decide +kernel), ⟨by decide +kernel, by decide +kernel, by decide +kernel⟩, by decide, by decide +kernel, rfl, rfl⟩, kl_in 409 (by decide +kernel) (by decide +kernel), kl_in 410 (by decide +kernel) (by decide +kernel)⟩
abbrev mX2_put : kM := (RX2, cX2_put, 3, none, "put")
theorem ky_X2_put : kYv yX2_put mX2_put 1 := ⟨⟨kl_in 415 (by decide +kernel) (by decide +kernel), kl_in 76 (by decide +kernel) (by decide +kernel), ⟨by decide +kernel, by decide +kernel, by decide +kernel⟩, by decide, by decide +kernel, rfl, rfl⟩, kl_in 413 (by decide +kernel) (by decide +kernel), kl_in 414 (by decide +kernel) (by decide +kernel)⟩
abbrev mX2_shorten : kM := (RX2, cX2_shorten, 2, (some .int), "shorten")
theorem ky_X2_shorten : kYv yX2_shorten mX2_shorten 1 := ⟨⟨kl_in 428 (by decide +kernel) (by decide +kernel), kl_in 76 (by decide +kernel) (by decide +kernel), ⟨by decide +kernel, by decide +kernel, by decide +kernel⟩, by decide, by decide +kernel, rfl, rfl⟩, kl_in 426 (by decide +kernel) (by decide +kernel), kl_in 427 (by decide +kernel) (by decide +kernel)⟩
abbrev mX2_readInto : kM := (RX2, cX2_readInto, 4, (some .boolean), "readInto")
theorem ky_X2_readInto : kYv yX2_readInto mX2_readInto 1 := ⟨⟨kl_in 436 (by decide +kernel) (by decide +kernel), kl_in 76 (by decide +kernel) (by decide +kernel), ⟨by decide +kernel, by decide +kernel, by decide +kernel⟩, by decide, by decide +kernel, rfl, rfl⟩, kl_in 434 (by decide +kernel) (by decide +kernel), kl_in 435 (by decide +kernel) (by decide +kernel)⟩
abbrev mX2_readKind : kM := (RX2, cX2_readKind, 2, (some .boolean), "readKind")
theorem ky_X2_readKind : kYv yX2_readKind mX2_readKind 1 := ⟨⟨kl_in 554 (by decide +kernel) (by decide +kernel), kl_in 76 (by decide +kernel) (by decide +kernel), ⟨by decide +kernel, by decide +kernel, by decide +kernel⟩, by decide, by decide +kernel, rfl, rfl⟩, kl_in 553 (by decide +kernel) (by decide +kernel), kl_in 14 (by decide +kernel) (by decide +kernel)⟩
abbrev mX2_readSteps : kM := (RX2, cX2_readSteps, 5, (some .boolean), "readSteps")
theorem ky_X2_readSteps : kYv yX2_readSteps mX2_readSteps 1 := ⟨⟨kl_in 600 (by decide +kernel) (by decide +kernel), kl_in 76 (by decide +kernel) (by decide +kernel), ⟨by decide +kernel, by decide +kernel, by decide +kernel⟩, by decide, by decide +kernel, rfl, rfl⟩, kl_in 599 (by decide +kernel) (by decide +kernel), kl_in 20 (by decide +kernel) (by decide +kernel)⟩
abbrev mX2_readNeed : kM := (RX2, cX2_readNeed, 4, (some .boolean), "readNeed")
theorem ky_X2_readNeed : kYv yX2_readNeed mX2_readNeed 2 := ⟨⟨kl_in 604 (by decide +kernel) (by decide +kernel), kl_in 76 (by decide +kernel) (by decide +kernel), ⟨by decide +kernel, by decide +kernel, by decide +kernel⟩, by decide, by decide +kernel, rfl, rfl⟩, kl_in 603 (by decide +kernel) (by decide +kernel), kl_in 21 (by decide +kernel) (by decide +kernel)⟩
abbrev mX2_readEither : kM := (RX2, cX2_readEither, 5, (some .boolean), "readEither")
theorem ky_X2_readEither : kYv yX2_readEither mX2_readEither 2 := ⟨⟨kl_in 567 (by decide +kernel) (by decide +kernel), kl_in 76 (by decide +kernel) (by decide +kernel), ⟨by decide +kernel, by decide +kernel, by decide +kernel⟩, by decide, by decide +kernel, rfl, rfl⟩, kl_in 566 (by decide +kernel) (by decide +kernel), kl_in 15 (by decide +kernel) (by decide +kernel)⟩
abbrev mX2_readOne : kM := (RX2, cX2_readOne, 3, (some .boolean), "readOne")
theorem ky_X2_readOne : kYv yX2_readOne mX2_readOne 2 := ⟨⟨kl_in 571 (by decide +kernel) (by decide +kernel), kl_in 76 (by decide +kernel) (by decide +kernel), ⟨by decide +kernel, by decide +kernel, by decide +kernel⟩, by decide, by decide +kernel, rfl, rfl⟩, kl_in 570 (by decide +kernel) (by decide +kernel), kl_in 16 (by decide +kernel) (by decide +kernel)⟩
abbrev mX2_readSumTest : kM := (RX2, cX2_readSumTest, 3, (some .boolean), "readSumTest")
theorem ky_X2_readSumTest : kYv yX2_readSumTest mX2_readSumTest 1 := ⟨⟨kl_in 579 (by decide +kernel) (by decide +kernel), kl_in 76 (by decide +kernel) (by decide +kernel), ⟨by decide +kernel, by decide +kernel, by decide +kernel⟩, by decide, by decide +kernel, rfl, rfl⟩, kl_in 578 (by decide +kernel) (by decide +kernel), kl_in 17 (by decide +kernel) (by decide +kernel)⟩
abbrev mX2_readPlaceTest : kM := (RX2, cX2_readPlaceTest, 2, (some .boolean), "readPlaceTest")
theorem ky_X2_readPlaceTest : kYv yX2_readPlaceTest mX2_readPlaceTest 1 := ⟨⟨kl_in 592 (by decide +kernel) (by decide +kernel), kl_in 76 (by decide +kernel) (by decide +kernel), ⟨by decide +kernel, by decide +kernel, by decide +kernel⟩, by decide, by decide +kernel, rfl, rfl⟩, kl_in 591 (by decide +kernel) (by decide +kernel), kl_in 18 (by decide +kernel) (by decide +kernel)⟩
abbrev mX2_readUrgentTest : kM := (RX2, cX2_readUrgentTest, 2, (some .boolean), "readUrgentTest")
theorem ky_X2_readUrgentTest : kYv yX2_readUrgentTest mX2_readUrgentTest 1 := ⟨⟨kl_in 596 (by decide +kernel) (by decide +kernel), kl_in 76 (by decide +kernel) (by decide +kernel), ⟨by decide +kernel, by decide +kernel, by decide +kernel⟩, by decide, by decide +kernel, rfl, rfl⟩, kl_in 595 (by decide +kernel) (by decide +kernel), kl_in 19 (by decide +kernel) (by decide +kernel)⟩
abbrev mX2_readLimit : kM := (RX2, cX2_readLimit, 5, (some .boolean), "readLimit")
theorem ky_X2_readLimit : kYv yX2_readLimit mX2_readLimit 1 := ⟨⟨kl_in 517 (by decide +kernel) (by decide +kernel), kl_in 76 (by decide +kernel) (by decide +kernel), ⟨by decide +kernel, by decide +kernel, by decide +kernel⟩, by decide, by decide +kernel, rfl, rfl⟩, kl_in 516 (by decide +kernel) (by decide +kernel), kl_in 8 (by decide +kernel) (by decide +kernel)⟩
abbrev mX2_readAmount : kM := (RX2, cX2_readAmount, 3, (some .int), "readAmount")
theorem ky_X2_readAmount : kYv yX2_readAmount mX2_readAmount 1 := ⟨⟨kl_in 541 (by decide +kernel) (by decide +kernel), kl_in 76 (by decide +kernel) (by decide +kernel), ⟨by decide +kernel, by decide +kernel, by decide +kernel⟩, by decide, by decide +kernel, rfl, rfl⟩, kl_in 540 (by decide +kernel) (by decide +kernel), kl_in 12 (by decide +kernel) (by decide +kernel)⟩
abbrev mX2_take : kM := (RX2, cX2_take, 2, (some .boolean), "take")
theorem ky_X2_take : kYv yX2_take mX2_take 1 := ⟨⟨kl_in 550 (by decide +kernel) (by decide +kernel), kl_in 76 (by decide +kernel) (by decide +kernel), ⟨by decide +kernel, by decide +kernel, by decide +kernel⟩, by decide, by decide +kernel, rfl, rfl⟩, kl_in 549 (by decide +kernel) (by decide +kernel), kl_in 13 (by decide +kernel) (by decide +kernel)⟩
abbrev mX2_isRole : kM := (RX2, cX2_isRole, 1, (some .boolean), "isRole")
theorem ky_X2_isRole : kYv yX2_isRole mX2_isRole 0 := ⟨⟨kl_in 533 (by decide +kernel) (by decide +kernel), kl_in 76 (by decide +kernel) (by decide +kernel), ⟨by decide +kernel, by decide +kernel, by decide +kernel⟩, by decide, by decide +kernel, rfl, rfl⟩, kl_in 532 (by decide +kernel) (by decide +kernel), kl_in 11 (by decide +kernel) (by decide +kernel)⟩
abbrev mX2_wrongToken : kM := (RX2, cX2_wrongToken, 1, (some .boolean), "wrongToken")
theorem ky_X2_wrongToken : kYv yX2_wrongToken mX2_wrongToken 0 := ⟨⟨kl_in 525 (by decide +kernel) (by decide +kernel), kl_in 76 (by decide +kernel) (by decide +kernel), ⟨by decide +kernel, by decide +kernel, by decide +kernel⟩, by decide, by decide +kernel, rfl, rfl⟩, kl_in 524 (by decide +kernel) (by decide +kernel), kl_in 9 (by decide +kernel) (by decide +kernel)⟩
abbrev mX2_wrong : kM := (RX2, cX2_wrong, 2, (some .boolean), "wrong")
theorem ky_X2_wrong : kYv yX2_wrong mX2_wrong 1 := ⟨⟨kl_in 529 (by decide +kernel) (by decide +kernel), kl_in 76 (by decide +kernel) (by decide +kernel), ⟨by decide +kernel, by decide +kernel, by decide +kernel⟩, by decide, by decide +kernel, rfl, rfl⟩, kl_in 528 (by decide +kernel) (by decide +kernel), kl_in 10 (by decide +kernel) (by decide +kernel)⟩
abbrev mX2_advance : kM := (RX2, cX2_advance, 1, none, "advance")
theorem ky_X2_advance : kYv yX2_advance mX2_advance 0 := ⟨⟨kl_in 441 (by decide +kernel) (by decide +kernel), kl_in 76 (by decide +kernel) (by decide +kernel), ⟨by decide +kernel, by decide +kernel, by decide +kernel⟩, by decide, by decide +kernel, rfl, rfl⟩, kl_in 440 (by decide +kernel) (by decide +kernel), kl_in 2 (by decide +kernel) (by decide +kernel)⟩
abbrev mX2_skipLetters : kM := (RX2, cX2_skipLetters, 1, none, "skipLetters")
theorem ky_X2_skipLetters : kYv yX2_skipLetters mX2_skipLetters 0 := ⟨⟨kl_in 449 (by decide +kernel) (by decide +kernel), kl_in 76 (by decide +kernel) (by decide +kernel), ⟨by decide +kernel, by decide +kernel, by decide +kernel⟩, by decide, by decide +kernel, rfl, rfl⟩, kl_in 448 (by decide +kernel) (by decide +kernel), kl_in 4 (by decide +kernel) (by decide +kernel)⟩
abbrev mX2_readNumber : kM := (RX2, cX2_readNumber, 1, none, "readNumber")
theorem ky_X2_readNumber : kYv yX2_readNumber mX2_readNumber 0 := ⟨⟨kl_in 510 (by decide +kernel) (by decide +kernel), kl_in 76 (by decide +kernel) (by decide +kernel), ⟨by decide +kernel, by decide +kernel, by decide +kernel⟩, by decide, by decide +kernel, rfl, rfl⟩, kl_in 509 (by decide +kernel) (by decide +kernel), kl_in 7 (by decide +kernel) (by decide +kernel)⟩
abbrev mX2_wordToken : kM := (RX2, cX2_wordToken, 6, (some .int), "wordToken")
theorem ky_X2_wordToken : kYv yX2_wordToken mX2_wordToken 0 := ⟨⟨kl_in 453 (by decide +kernel) (by decide +kernel), kl_in 76 (by decide +kernel) (by decide +kernel), ⟨by decide +kernel, by decide +kernel, by decide +kernel⟩, by decide, by decide +kernel, rfl, rfl⟩, kl_in 452 (by decide +kernel) (by decide +kernel), kl_in 5 (by decide +kernel) (by decide +kernel)⟩
abbrev mX2_isLetter : kM := (RX2, cX2_isLetter, 2, (some .boolean), "isLetter")
theorem ky_X2_isLetter : kYv yX2_isLetter mX2_isLetter 1 := ⟨⟨kl_in 445 (by decide +kernel) (by decide +kernel), kl_in 76 (by decide +kernel) (by decide +kernel), ⟨by decide +kernel, by decide +kernel, by decide +kernel⟩, by decide, by decide +kernel, rfl, rfl⟩, kl_in 444 (by decide +kernel) (by decide +kernel), kl_in 3 (by decide +kernel) (by decide +kernel)⟩
abbrev mX2_isDigit : kM := (RX2, cX2_isDigit, 2, (some .boolean), "isDigit")
theorem ky_X2_isDigit : kYv yX2_isDigit mX2_isDigit 1 := ⟨⟨kl_in 506 (by decide +kernel) (by decide +kernel), kl_in 76 (by decide +kernel) (by decide +kernel), ⟨by decide +kernel, by decide +kernel, by decide +kernel⟩, by decide, by decide +kernel, rfl, rfl⟩, kl_in 505 (by decide +kernel) (by decide +kernel), kl_in 6 (by decide +kernel) (by decide +kernel)⟩
abbrev mX2_isSign : kM := (RX2, cX2_isSign, 1, (some .boolean), "isSign")
theorem ky_X2_isSign : kYs yX2_isSign mX2_isSign 1 := ⟨⟨kl_in 513 (by decide +kernel) (by decide +kernel), kl_in 76 (by decide +kernel) (by decide +kernel), ⟨by decide +kernel, by decide +kernel, by decide +kernel⟩, by decide, by decide +kernel, rfl, rfl⟩, kl_in 512 (by decide +kernel) (by decide +kernel)⟩
abbrev mX3_init : kM := (RX3, cX3_init, 1, none, "<init>")
theorem ky_X3_init : kYi yX3_init mX3_init 0 := ⟨⟨kl_in 236 (by decide +kernel) (by decide +kernel), kl_in 78 (by decide +kernel) (by decide +kernel), ⟨by decide +kernel, by decide +kernel, by decide +kernel⟩, by decide, by decide +kernel, rfl, rfl⟩, kl_in 235 (by decide +kernel) (by decide +kernel), by decide +kernel⟩
abbrev mX3_clear : kM := (RX3, cX3_clear, 2, none, "clear")
theorem ky_X3_clear : kYv yX3_clear mX3_clear 0 := ⟨⟨kl_in 241 (by decide +kernel) (by decide +kernel), kl_in 78 (by decide +kernel) (by decide +kernel), ⟨by decide +kernel, by decide +kernel, by decide +kernel⟩, by decide, by decide +kernel, rfl, rfl⟩, kl_in 239 (by decide +kernel) (by decide +kernel), kl_in 240 (by decide +kernel) (by decide +kernel)⟩
abbrev mX3_ruleCount : kM := (RX3, cX3_ruleCount, 1, (some .int), "ruleCount")
theorem ky_X3_ruleCount : kYv yX3_ruleCount mX3_ruleCount 0 := ⟨⟨kl_in 617 (by decide +kernel) (by decide +kernel), kl_in 78 (by decide +kernel) (by decide +kernel), ⟨by decide +kernel, by decide +kernel, by decide +kernel⟩, by decide, by decide +kernel, rfl, rfl⟩, kl_in 615 (by decide +kernel) (by decide +kernel), kl_in 616 (by decide +kernel) (by decide +kernel)⟩
abbrev mX3_limitCount : kM := (RX3, cX3_limitCount, 1, (some .int), "limitCount")
theorem ky_X3_limitCount : kYv yX3_limitCount mX3_limitCount 0 := ⟨⟨kl_in 966 (by decide +kernel) (by decide +kernel), kl_in 78 (by decide +kernel) (by decide +kernel), ⟨by decide +kernel, by decide +kernel, by decide +kernel⟩, by decide, by decide +kernel, rfl, rfl⟩, kl_in 964 (by decide +kernel) (by decide +kernel), kl_in 965 (by decide +kernel) (by decide +kernel)⟩
abbrev mX3_hasRoomForRule : kM := (RX3, cX3_hasRoomForRule, 1, (some .boolean), "hasRoomForRule")
theorem ky_X3_hasRoomForRule : kYv yX3_hasRoomForRule mX3_hasRoomForRule 0 := ⟨⟨kl_in 558 (by decide +kernel) (by decide +kernel), kl_in 78 (by decide +kernel) (by decide +kernel), ⟨by decide +kernel, by decide +kernel, by decide +kernel⟩, by decide, by decide +kernel, rfl, rfl⟩, kl_in 556 (by decide +kernel) (by decide +kernel), kl_in 557 (by decide +kernel) (by decide +kernel)⟩
abbrev mX3_hasRoomForLimit : kM := (RX3, cX3_hasRoomForLimit, 1, (some .boolean), "hasRoomForLimit")
theorem ky_X3_hasRoomForLimit : kYv yX3_hasRoomForLimit mX3_hasRoomForLimit 0 := ⟨⟨kl_in 521 (by decide +kernel) (by decide +kernel), kl_in 78 (by decide +kernel) (by decide +kernel), ⟨by decide +kernel, by decide +kernel, by decide +kernel⟩, by decide, by decide +kernel, rfl, rfl⟩, kl_in 519 (by decide +kernel) (by decide +kernel), kl_in 520 (by decide +kernel) (by decide +kernel)⟩
abbrev mX3_hasRoomForTest : kM := (RX3, cX3_hasRoomForTest, 1, (some .boolean), "hasRoomForTest")
theorem ky_X3_hasRoomForTest : kYv yX3_hasRoomForTest mX3_hasRoomForTest 0 := ⟨⟨kl_in 583 (by decide +kernel) (by decide +kernel), kl_in 78 (by decide +kernel) (by decide +kernel), ⟨by decide +kernel, by decide +kernel, by decide +kernel⟩, by decide, by decide +kernel, rfl, rfl⟩, kl_in 581 (by decide +kernel) (by decide +kernel), kl_in 582 (by decide +kernel) (by decide +kernel)⟩
abbrev mX3_hasLimit : kM := (RX3, cX3_hasLimit, 2, (some .boolean), "hasLimit")
theorem ky_X3_hasLimit : kYv yX3_hasLimit mX3_hasLimit 1 := ⟨⟨kl_in 537 (by decide +kernel) (by decide +kernel), kl_in 78 (by decide +kernel) (by decide +kernel), ⟨by decide +kernel, by decide +kernel, by decide +kernel⟩, by decide, by decide +kernel, rfl, rfl⟩, kl_in 535 (by decide +kernel) (by decide +kernel), kl_in 536 (by decide +kernel) (by decide +kernel)⟩
abbrev mX3_addLimit : kM := (RX3, cX3_addLimit, 4, none, "addLimit")
theorem ky_X3_addLimit : kYv yX3_addLimit mX3_addLimit 3 := ⟨⟨kl_in 546 (by decide +kernel) (by decide +kernel), kl_in 78 (by decide +kernel) (by decide +kernel), ⟨by decide +kernel, by decide +kernel, by decide +kernel⟩, by decide, by decide +kernel, rfl, rfl⟩, kl_in 544 (by decide +kernel) (by decide +kernel), kl_in 545 (by decide +kernel) (by decide +kernel)⟩
abbrev mX3_addRule : kM := (RX3, cX3_addRule, 2, none, "addRule")
theorem ky_X3_addRule : kYv yX3_addRule mX3_addRule 1 := ⟨⟨kl_in 562 (by decide +kernel) (by decide +kernel), kl_in 78 (by decide +kernel) (by decide +kernel), ⟨by decide +kernel, by decide +kernel, by decide +kernel⟩, by decide, by decide +kernel, rfl, rfl⟩, kl_in 560 (by decide +kernel) (by decide +kernel), kl_in 561 (by decide +kernel) (by decide +kernel)⟩
abbrev mX3_addTest : kM := (RX3, cX3_addTest, 3, none, "addTest")
theorem ky_X3_addTest : kYv yX3_addTest mX3_addTest 2 := ⟨⟨kl_in 587 (by decide +kernel) (by decide +kernel), kl_in 78 (by decide +kernel) (by decide +kernel), ⟨by decide +kernel, by decide +kernel, by decide +kernel⟩, by decide, by decide +kernel, rfl, rfl⟩, kl_in 585 (by decide +kernel) (by decide +kernel), kl_in 586 (by decide +kernel) (by decide +kernel)⟩
abbrev mX3_addOperation : kM := (RX3, cX3_addOperation, 3, none, "addOperation")
theorem ky_X3_addOperation : kYv yX3_addOperation mX3_addOperation 2 := ⟨⟨kl_in 575 (by decide +kernel) (by decide +kernel), kl_in 78 (by decide +kernel) (by decide +kernel), ⟨by decide +kernel, by decide +kernel, by decide +kernel⟩, by decide, by decide +kernel, rfl, rfl⟩, kl_in 573 (by decide +kernel) (by decide +kernel), kl_in 574 (by decide +kernel) (by decide +kernel)⟩
abbrev mX3_hasRoomForSlots : kM := (RX3, cX3_hasRoomForSlots, 2, (some .boolean), "hasRoomForSlots")
theorem ky_X3_hasRoomForSlots : kYv yX3_hasRoomForSlots mX3_hasRoomForSlots 1 := ⟨⟨kl_in 608 (by decide +kernel) (by decide +kernel), kl_in 78 (by decide +kernel) (by decide +kernel), ⟨by decide +kernel, by decide +kernel, by decide +kernel⟩, by decide, by decide +kernel, rfl, rfl⟩, kl_in 606 (by decide +kernel) (by decide +kernel), kl_in 607 (by decide +kernel) (by decide +kernel)⟩
abbrev mX3_addSlots : kM := (RX3, cX3_addSlots, 7, none, "addSlots")
theorem ky_X3_addSlots : kYv yX3_addSlots mX3_addSlots 3 := ⟨⟨kl_in 612 (by decide +kernel) (by decide +kernel), kl_in 78 (by decide +kernel) (by decide +kernel), ⟨by decide +kernel, by decide +kernel, by decide +kernel⟩, by decide, by decide +kernel, rfl, rfl⟩, kl_in 610 (by decide +kernel) (by decide +kernel), kl_in 611 (by decide +kernel) (by decide +kernel)⟩
abbrev mX3_slotCount : kM := (RX3, cX3_slotCount, 2, (some .int), "slotCount")
theorem ky_X3_slotCount : kYv yX3_slotCount mX3_slotCount 1 := ⟨⟨kl_in 919 (by decide +kernel) (by decide +kernel), kl_in 78 (by decide +kernel) (by decide +kernel), ⟨by decide +kernel, by decide +kernel, by decide +kernel⟩, by decide, by decide +kernel, rfl, rfl⟩, kl_in 917 (by decide +kernel) (by decide +kernel), kl_in 918 (by decide +kernel) (by decide +kernel)⟩
abbrev mX3_roleOfSlot : kM := (RX3, cX3_roleOfSlot, 3, (some .int), "roleOfSlot")
theorem ky_X3_roleOfSlot : kYv yX3_roleOfSlot mX3_roleOfSlot 2 := ⟨⟨kl_in 923 (by decide +kernel) (by decide +kernel), kl_in 78 (by decide +kernel) (by decide +kernel), ⟨by decide +kernel, by decide +kernel, by decide +kernel⟩, by decide, by decide +kernel, rfl, rfl⟩, kl_in 921 (by decide +kernel) (by decide +kernel), kl_in 922 (by decide +kernel) (by decide +kernel)⟩
abbrev mX3_copySlots : kM := (RX3, cX3_copySlots, 5, none, "copySlots")
theorem ky_X3_copySlots : kYv yX3_copySlots mX3_copySlots 2 := ⟨⟨kl_in 759 (by decide +kernel) (by decide +kernel), kl_in 78 (by decide +kernel) (by decide +kernel), ⟨by decide +kernel, by decide +kernel, by decide +kernel⟩, by decide, by decide +kernel, rfl, rfl⟩, kl_in 757 (by decide +kernel) (by decide +kernel), kl_in 758 (by decide +kernel) (by decide +kernel)⟩
abbrev mX3_ruleFor : kM := (RX3, cX3_ruleFor, 6, (some .int), "ruleFor")
theorem ky_X3_ruleFor : kYv yX3_ruleFor mX3_ruleFor 4 := ⟨⟨kl_in 747 (by decide +kernel) (by decide +kernel), kl_in 78 (by decide +kernel) (by decide +kernel), ⟨by decide +kernel, by decide +kernel, by decide +kernel⟩, by decide, by decide +kernel, rfl, rfl⟩, kl_in 745 (by decide +kernel) (by decide +kernel), kl_in 746 (by decide +kernel) (by decide +kernel)⟩
abbrev mX3_holds : kM := (RX3, cX3_holds, 7, (some .boolean), "holds")
theorem ky_X3_holds : kYv yX3_holds mX3_holds 4 := ⟨⟨kl_in 751 (by decide +kernel) (by decide +kernel), kl_in 78 (by decide +kernel) (by decide +kernel), ⟨by decide +kernel, by decide +kernel, by decide +kernel⟩, by decide, by decide +kernel, rfl, rfl⟩, kl_in 750 (by decide +kernel) (by decide +kernel), kl_in 24 (by decide +kernel) (by decide +kernel)⟩
abbrev mX3_passes : kM := (RX3, cX3_passes, 5, (some .boolean), "passes")
theorem ky_X3_passes : kYv yX3_passes mX3_passes 4 := ⟨⟨kl_in 755 (by decide +kernel) (by decide +kernel), kl_in 78 (by decide +kernel) (by decide +kernel), ⟨by decide +kernel, by decide +kernel, by decide +kernel⟩, by decide, by decide +kernel, rfl, rfl⟩, kl_in 754 (by decide +kernel) (by decide +kernel), kl_in 25 (by decide +kernel) (by decide +kernel)⟩
abbrev mX3_testBelow : kM := (RX3, cX3_testBelow, 8, (some .int), "testBelow")
theorem ky_X3_testBelow : kYv yX3_testBelow mX3_testBelow 3 := ⟨⟨kl_in 943 (by decide +kernel) (by decide +kernel), kl_in 78 (by decide +kernel) (by decide +kernel), ⟨by decide +kernel, by decide +kernel, by decide +kernel⟩, by decide, by decide +kernel, rfl, rfl⟩, kl_in 941 (by decide +kernel) (by decide +kernel), kl_in 942 (by decide +kernel) (by decide +kernel)⟩
abbrev mX3_changePoint : kM := (RX3, cX3_changePoint, 3, (some .int), "changePoint")
theorem ky_X3_changePoint : kYv yX3_changePoint mX3_changePoint 2 := ⟨⟨kl_in 947 (by decide +kernel) (by decide +kernel), kl_in 78 (by decide +kernel) (by decide +kernel), ⟨by decide +kernel, by decide +kernel, by decide +kernel⟩, by decide, by decide +kernel, rfl, rfl⟩, kl_in 946 (by decide +kernel) (by decide +kernel), kl_in 32 (by decide +kernel) (by decide +kernel)⟩
abbrev mX4_init : kM := (RX4, cX4_init, 3, none, "<init>")
theorem ky_X4_init : kYi yX4_init mX4_init 2 := ⟨⟨kl_in 193 (by decide +kernel) (by decide +kernel), kl_in 77 (by decide +kernel) (by decide +kernel), ⟨by decide +kernel, by decide +kernel, by decide +kernel⟩, by decide, by decide +kernel, rfl, rfl⟩, kl_in 192 (by decide +kernel) (by decide +kernel), by decide +kernel⟩
abbrev mX4_lookAtLimits : kM := (RX4, cX4_lookAtLimits, 5, none, "lookAtLimits")
theorem ky_X4_lookAtLimits : kYv yX4_lookAtLimits mX4_lookAtLimits 2 := ⟨⟨kl_in 796 (by decide +kernel) (by decide +kernel), kl_in 77 (by decide +kernel) (by decide +kernel), ⟨by decide +kernel, by decide +kernel, by decide +kernel⟩, by decide, by decide +kernel, rfl, rfl⟩, kl_in 794 (by decide +kernel) (by decide +kernel), kl_in 795 (by decide +kernel) (by decide +kernel)⟩
abbrev mX4_takeOff : kM := (RX4, cX4_takeOff, 5, none, "takeOff")
theorem ky_X4_takeOff : kYv yX4_takeOff mX4_takeOff 2 := ⟨⟨kl_in 805 (by decide +kernel) (by decide +kernel), kl_in 77 (by decide +kernel) (by decide +kernel), ⟨by decide +kernel, by decide +kernel, by decide +kernel⟩, by decide, by decide +kernel, rfl, rfl⟩, kl_in 804 (by decide +kernel) (by decide +kernel), kl_in 26 (by decide +kernel) (by decide +kernel)⟩
abbrev mX4_room : kM := (RX4, cX4_room, 4, (some .int), "room")
theorem ky_X4_room : kYv yX4_room mX4_room 2 := ⟨⟨kl_in 827 (by decide +kernel) (by decide +kernel), kl_in 77 (by decide +kernel) (by decide +kernel), ⟨by decide +kernel, by decide +kernel, by decide +kernel⟩, by decide, by decide +kernel, rfl, rfl⟩, kl_in 826 (by decide +kernel) (by decide +kernel), kl_in 27 (by decide +kernel) (by decide +kernel)⟩
abbrev mX4_lookAtPeople : kM := (RX4, cX4_lookAtPeople, 7, none, "lookAtPeople")
theorem ky_X4_lookAtPeople : kYv yX4_lookAtPeople mX4_lookAtPeople 3 := ⟨⟨kl_in 813 (by decide +kernel) (by decide +kernel), kl_in 77 (by decide +kernel) (by decide +kernel), ⟨by decide +kernel, by decide +kernel, by decide +kernel⟩, by decide, by decide +kernel, rfl, rfl⟩, kl_in 811 (by decide +kernel) (by decide +kernel), kl_in 812 (by decide +kernel) (by decide +kernel)⟩
abbrev mX4_allows : kM := (RX4, cX4_allows, 5, (some .boolean), "allows")
theorem ky_X4_allows : kYv yX4_allows mX4_allows 4 := ⟨⟨kl_in 838 (by decide +kernel) (by decide +kernel), kl_in 77 (by decide +kernel) (by decide +kernel), ⟨by decide +kernel, by decide +kernel, by decide +kernel⟩, by decide, by decide +kernel, rfl, rfl⟩, kl_in 836 (by decide +kernel) (by decide +kernel), kl_in 837 (by decide +kernel) (by decide +kernel)⟩
abbrev mX4_handsFor : kM := (RX4, cX4_handsFor, 5, (some .int), "handsFor")
theorem ky_X4_handsFor : kYv yX4_handsFor mX4_handsFor 2 := ⟨⟨kl_in 899 (by decide +kernel) (by decide +kernel), kl_in 77 (by decide +kernel) (by decide +kernel), ⟨by decide +kernel, by decide +kernel, by decide +kernel⟩, by decide, by decide +kernel, rfl, rfl⟩, kl_in 897 (by decide +kernel) (by decide +kernel), kl_in 898 (by decide +kernel) (by decide +kernel)⟩
abbrev mX4_roomBelow : kM := (RX4, cX4_roomBelow, 6, (some .int), "roomBelow")
theorem ky_X4_roomBelow : kYv yX4_roomBelow mX4_roomBelow 1 := ⟨⟨kl_in 938 (by decide +kernel) (by decide +kernel), kl_in 77 (by decide +kernel) (by decide +kernel), ⟨by decide +kernel, by decide +kernel, by decide +kernel⟩, by decide, by decide +kernel, rfl, rfl⟩, kl_in 936 (by decide +kernel) (by decide +kernel), kl_in 937 (by decide +kernel) (by decide +kernel)⟩
abbrev mX4_openSlotsOf : kM := (RX4, cX4_openSlotsOf, 3, none, "openSlotsOf")
theorem ky_X4_openSlotsOf : kYv yX4_openSlotsOf mX4_openSlotsOf 1 := ⟨⟨kl_in 870 (by decide +kernel) (by decide +kernel), kl_in 77 (by decide +kernel) (by decide +kernel), ⟨by decide +kernel, by decide +kernel, by decide +kernel⟩, by decide, by decide +kernel, rfl, rfl⟩, kl_in 868 (by decide +kernel) (by decide +kernel), kl_in 869 (by decide +kernel) (by decide +kernel)⟩
abbrev mX4_openSlotsOfRule : kM := (RX4, cX4_openSlotsOfRule, 4, none, "openSlotsOfRule")
theorem ky_X4_openSlotsOfRule : kYv yX4_openSlotsOfRule mX4_openSlotsOfRule 2 := ⟨⟨kl_in 915 (by decide +kernel) (by decide +kernel), kl_in 77 (by decide +kernel) (by decide +kernel), ⟨by decide +kernel, by decide +kernel, by decide +kernel⟩, by decide, by decide +kernel, rfl, rfl⟩, kl_in 913 (by decide +kernel) (by decide +kernel), kl_in 914 (by decide +kernel) (by decide +kernel)⟩
abbrev mX4_addOpen : kM := (RX4, cX4_addOpen, 3, none, "addOpen")
theorem ky_X4_addOpen : kYv yX4_addOpen mX4_addOpen 2 := ⟨⟨kl_in 874 (by decide +kernel) (by decide +kernel), kl_in 77 (by decide +kernel) (by decide +kernel), ⟨by decide +kernel, by decide +kernel, by decide +kernel⟩, by decide, by decide +kernel, rfl, rfl⟩, kl_in 873 (by decide +kernel) (by decide +kernel), kl_in 28 (by decide +kernel) (by decide +kernel)⟩
abbrev mX4_seekWay : kM := (RX4, cX4_seekWay, 2, (some .int), "seekWay")
theorem ky_X4_seekWay : kYv yX4_seekWay mX4_seekWay 1 := ⟨⟨kl_in 878 (by decide +kernel) (by decide +kernel), kl_in 77 (by decide +kernel) (by decide +kernel), ⟨by decide +kernel, by decide +kernel, by decide +kernel⟩, by decide, by decide +kernel, rfl, rfl⟩, kl_in 876 (by decide +kernel) (by decide +kernel), kl_in 877 (by decide +kernel) (by decide +kernel)⟩
abbrev mX4_seekFrom : kM := (RX4, cX4_seekFrom, 10, (some .boolean), "seekFrom")
theorem ky_X4_seekFrom : kYv yX4_seekFrom mX4_seekFrom 2 := ⟨⟨kl_in 882 (by decide +kernel) (by decide +kernel), kl_in 77 (by decide +kernel) (by decide +kernel), ⟨by decide +kernel, by decide +kernel, by decide +kernel⟩, by decide, by decide +kernel, rfl, rfl⟩, kl_in 881 (by decide +kernel) (by decide +kernel), kl_in 29 (by decide +kernel) (by decide +kernel)⟩
abbrev mX4_copyWay : kM := (RX4, cX4_copyWay, 4, none, "copyWay")
theorem ky_X4_copyWay : kYv yX4_copyWay mX4_copyWay 2 := ⟨⟨kl_in 887 (by decide +kernel) (by decide +kernel), kl_in 77 (by decide +kernel) (by decide +kernel), ⟨by decide +kernel, by decide +kernel, by decide +kernel⟩, by decide, by decide +kernel, rfl, rfl⟩, kl_in 885 (by decide +kernel) (by decide +kernel), kl_in 886 (by decide +kernel) (by decide +kernel)⟩
abbrev mX5_init : kM := (RX5, cX5_init, 1, none, "<init>")
theorem ky_X5_init : kYi yX5_init mX5_init 0 := ⟨⟨kl_in 98 (by decide +kernel) (by decide +kernel), kl_in 74 (by decide +kernel) (by decide +kernel), ⟨by decide +kernel, by decide +kernel, by decide +kernel⟩, by decide, by decide +kernel, rfl, rfl⟩, kl_in 97 (by decide +kernel) (by decide +kernel), by decide +kernel⟩
abbrev mX5_size : kM := (RX5, cX5_size, 1, (some .int), "size")
theorem ky_X5_size : kYv yX5_size mX5_size 0 := ⟨⟨kl_in 818 (by decide +kernel) (by decide +kernel), kl_in 74 (by decide +kernel) (by decide +kernel), ⟨by decide +kernel, by decide +kernel, by decide +kernel⟩, by decide, by decide +kernel, rfl, rfl⟩, kl_in 816 (by decide +kernel) (by decide +kernel), kl_in 817 (by decide +kernel) (by decide +kernel)⟩
abbrev mX5_awayCount : kM := (RX5, cX5_awayCount, 1, (some .int), "awayCount")
theorem ky_X5_awayCount : kYv yX5_awayCount mX5_awayCount 0 := ⟨⟨kl_in 958 (by decide +kernel) (by decide +kernel), kl_in 74 (by decide +kernel) (by decide +kernel), ⟨by decide +kernel, by decide +kernel, by decide +kernel⟩, by decide, by decide +kernel, rfl, rfl⟩, kl_in 956 (by decide +kernel) (by decide +kernel), kl_in 957 (by decide +kernel) (by decide +kernel)⟩
abbrev mX5_deputyCount : kM := (RX5, cX5_deputyCount, 1, (some .int), "deputyCount")
theorem ky_X5_deputyCount : kYv yX5_deputyCount mX5_deputyCount 0 := ⟨⟨kl_in 962 (by decide +kernel) (by decide +kernel), kl_in 74 (by decide +kernel) (by decide +kernel), ⟨by decide +kernel, by decide +kernel, by decide +kernel⟩, by decide, by decide +kernel, rfl, rfl⟩, kl_in 960 (by decide +kernel) (by decide +kernel), kl_in 961 (by decide +kernel) (by decide +kernel)⟩
abbrev mX5_has : kM := (RX5, cX5_has, 2, (some .boolean), "has")
theorem ky_X5_has : kYv yX5_has mX5_has 1 := ⟨⟨kl_in 341 (by decide +kernel) (by decide +kernel), kl_in 74 (by decide +kernel) (by decide +kernel), ⟨by decide +kernel, by decide +kernel, by decide +kernel⟩, by decide, by decide +kernel, rfl, rfl⟩, kl_in 339 (by decide +kernel) (by decide +kernel), kl_in 340 (by decide +kernel) (by decide +kernel)⟩
abbrev mX5_areAllThere : kM := (RX5, cX5_areAllThere, 2, (some .boolean), "areAllThere")
theorem ky_X5_areAllThere : kYv yX5_areAllThere mX5_areAllThere 1 := ⟨⟨kl_in 907 (by decide +kernel) (by decide +kernel), kl_in 74 (by decide +kernel) (by decide +kernel), ⟨by decide +kernel, by decide +kernel, by decide +kernel⟩, by decide, by decide +kernel, rfl, rfl⟩, kl_in 905 (by decide +kernel) (by decide +kernel), kl_in 906 (by decide +kernel) (by decide +kernel)⟩
abbrev mX5_hasRole : kM := (RX5, cX5_hasRole, 3, (some .boolean), "hasRole")
theorem ky_X5_hasRole : kYv yX5_hasRole mX5_hasRole 2 := ⟨⟨kl_in 823 (by decide +kernel) (by decide +kernel), kl_in 74 (by decide +kernel) (by decide +kernel), ⟨by decide +kernel, by decide +kernel, by decide +kernel⟩, by decide, by decide +kernel, rfl, rfl⟩, kl_in 821 (by decide +kernel) (by decide +kernel), kl_in 822 (by decide +kernel) (by decide +kernel)⟩
abbrev mX5_addPerson : kM := (RX5, cX5_addPerson, 2, (some .int), "addPerson")
theorem ky_X5_addPerson : kYv yX5_addPerson mX5_addPerson 1 := ⟨⟨kl_in 326 (by decide +kernel) (by decide +kernel), kl_in 74 (by decide +kernel) (by decide +kernel), ⟨by decide +kernel, by decide +kernel, by decide +kernel⟩, by decide, by decide +kernel, rfl, rfl⟩, kl_in 324 (by decide +kernel) (by decide +kernel), kl_in 325 (by decide +kernel) (by decide +kernel)⟩
abbrev mX5_setRoles : kM := (RX5, cX5_setRoles, 3, (some .boolean), "setRoles")
theorem ky_X5_setRoles : kYv yX5_setRoles mX5_setRoles 2 := ⟨⟨kl_in 337 (by decide +kernel) (by decide +kernel), kl_in 74 (by decide +kernel) (by decide +kernel), ⟨by decide +kernel, by decide +kernel, by decide +kernel⟩, by decide, by decide +kernel, rfl, rfl⟩, kl_in 335 (by decide +kernel) (by decide +kernel), kl_in 336 (by decide +kernel) (by decide +kernel)⟩
abbrev mX5_addAway : kM := (RX5, cX5_addAway, 4, (some .boolean), "addAway")
theorem ky_X5_addAway : kYv yX5_addAway mX5_addAway 3 := ⟨⟨kl_in 349 (by decide +kernel) (by decide +kernel), kl_in 74 (by decide +kernel) (by decide +kernel), ⟨by decide +kernel, by decide +kernel, by decide +kernel⟩, by decide, by decide +kernel, rfl, rfl⟩, kl_in 347 (by decide +kernel) (by decide +kernel), kl_in 348 (by decide +kernel) (by decide +kernel)⟩
abbrev mX5_addDeputy : kM := (RX5, cX5_addDeputy, 6, (some .int), "addDeputy")
theorem ky_X5_addDeputy : kYv yX5_addDeputy mX5_addDeputy 5 := ⟨⟨kl_in 361 (by decide +kernel) (by decide +kernel), kl_in 74 (by decide +kernel) (by decide +kernel), ⟨by decide +kernel, by decide +kernel, by decide +kernel⟩, by decide, by decide +kernel, rfl, rfl⟩, kl_in 359 (by decide +kernel) (by decide +kernel), kl_in 360 (by decide +kernel) (by decide +kernel)⟩
abbrev mX5_endDeputy : kM := (RX5, cX5_endDeputy, 2, (some .boolean), "endDeputy")
theorem ky_X5_endDeputy : kYv yX5_endDeputy mX5_endDeputy 1 := ⟨⟨kl_in 373 (by decide +kernel) (by decide +kernel), kl_in 74 (by decide +kernel) (by decide +kernel), ⟨by decide +kernel, by decide +kernel, by decide +kernel⟩, by decide, by decide +kernel, rfl, rfl⟩, kl_in 371 (by decide +kernel) (by decide +kernel), kl_in 372 (by decide +kernel) (by decide +kernel)⟩
abbrev mX5_awayOn : kM := (RX5, cX5_awayOn, 4, (some .int), "awayOn")
theorem ky_X5_awayOn : kYv yX5_awayOn mX5_awayOn 1 := ⟨⟨kl_in 383 (by decide +kernel) (by decide +kernel), kl_in 74 (by decide +kernel) (by decide +kernel), ⟨by decide +kernel, by decide +kernel, by decide +kernel⟩, by decide, by decide +kernel, rfl, rfl⟩, kl_in 381 (by decide +kernel) (by decide +kernel), kl_in 382 (by decide +kernel) (by decide +kernel)⟩
abbrev mX5_actingFor : kM := (RX5, cX5_actingFor, 9, (some .int), "actingFor")
theorem ky_X5_actingFor : kYv yX5_actingFor mX5_actingFor 4 := ⟨⟨kl_in 387 (by decide +kernel) (by decide +kernel), kl_in 74 (by decide +kernel) (by decide +kernel), ⟨by decide +kernel, by decide +kernel, by decide +kernel⟩, by decide, by decide +kernel, rfl, rfl⟩, kl_in 385 (by decide +kernel) (by decide +kernel), kl_in 386 (by decide +kernel) (by decide +kernel)⟩
abbrev mX5_deputiesOf : kM := (RX5, cX5_deputiesOf, 6, (some .int), "deputiesOf")
theorem ky_X5_deputiesOf : kYv yX5_deputiesOf mX5_deputiesOf 3 := ⟨⟨kl_in 391 (by decide +kernel) (by decide +kernel), kl_in 74 (by decide +kernel) (by decide +kernel), ⟨by decide +kernel, by decide +kernel, by decide +kernel⟩, by decide, by decide +kernel, rfl, rfl⟩, kl_in 390 (by decide +kernel) (by decide +kernel), kl_in 0 (by decide +kernel) (by decide +kernel)⟩
abbrev mX5_standsOn : kM := (RX5, cX5_standsOn, 3, (some .boolean), "standsOn")
theorem ky_X5_standsOn : kYv yX5_standsOn mX5_standsOn 2 := ⟨⟨kl_in 398 (by decide +kernel) (by decide +kernel), kl_in 74 (by decide +kernel) (by decide +kernel), ⟨by decide +kernel, by decide +kernel, by decide +kernel⟩, by decide, by decide +kernel, rfl, rfl⟩, kl_in 397 (by decide +kernel) (by decide +kernel), kl_in 1 (by decide +kernel) (by decide +kernel)⟩
abbrev mX5_amountBelow : kM := (RX5, cX5_amountBelow, 5, (some .int), "amountBelow")
theorem ky_X5_amountBelow : kYv yX5_amountBelow mX5_amountBelow 2 := ⟨⟨kl_in 931 (by decide +kernel) (by decide +kernel), kl_in 74 (by decide +kernel) (by decide +kernel), ⟨by decide +kernel, by decide +kernel, by decide +kernel⟩, by decide, by decide +kernel, rfl, rfl⟩, kl_in 929 (by decide +kernel) (by decide +kernel), kl_in 930 (by decide +kernel) (by decide +kernel)⟩
abbrev mX5_areRoles : kM := (RX5, cX5_areRoles, 1, (some .boolean), "areRoles")
theorem ky_X5_areRoles : kYs yX5_areRoles mX5_areRoles 1 := ⟨⟨kl_in 329 (by decide +kernel) (by decide +kernel), kl_in 74 (by decide +kernel) (by decide +kernel), ⟨by decide +kernel, by decide +kernel, by decide +kernel⟩, by decide, by decide +kernel, rfl, rfl⟩, kl_in 328 (by decide +kernel) (by decide +kernel)⟩
abbrev mX5_areDays : kM := (RX5, cX5_areDays, 2, (some .boolean), "areDays")
theorem ky_X5_areDays : kYs yX5_areDays mX5_areDays 2 := ⟨⟨kl_in 352 (by decide +kernel) (by decide +kernel), kl_in 74 (by decide +kernel) (by decide +kernel), ⟨by decide +kernel, by decide +kernel, by decide +kernel⟩, by decide, by decide +kernel, rfl, rfl⟩, kl_in 351 (by decide +kernel) (by decide +kernel)⟩
abbrev mX6_init : kM := (RX6, cX6_init, 2, none, "<init>")
theorem ky_X6_init : kYi yX6_init mX6_init 0 := ⟨⟨kl_in 90 (by decide +kernel) (by decide +kernel), kl_in 73 (by decide +kernel) (by decide +kernel), ⟨by decide +kernel, by decide +kernel, by decide +kernel⟩, by decide, by decide +kernel, rfl, rfl⟩, kl_in 89 (by decide +kernel) (by decide +kernel), by decide +kernel⟩
abbrev mX6_person : kM := (RX6, cX6_person, 2, (some .int), "person")
theorem ky_X6_person : kYv yX6_person mX6_person 1 := ⟨⟨kl_in 322 (by decide +kernel) (by decide +kernel), kl_in 73 (by decide +kernel) (by decide +kernel), ⟨by decide +kernel, by decide +kernel, by decide +kernel⟩, by decide, by decide +kernel, rfl, rfl⟩, kl_in 320 (by decide +kernel) (by decide +kernel), kl_in 321 (by decide +kernel) (by decide +kernel)⟩
abbrev mX6_roles : kM := (RX6, cX6_roles, 3, (some .boolean), "roles")
theorem ky_X6_roles : kYv yX6_roles mX6_roles 2 := ⟨⟨kl_in 333 (by decide +kernel) (by decide +kernel), kl_in 73 (by decide +kernel) (by decide +kernel), ⟨by decide +kernel, by decide +kernel, by decide +kernel⟩, by decide, by decide +kernel, rfl, rfl⟩, kl_in 331 (by decide +kernel) (by decide +kernel), kl_in 332 (by decide +kernel) (by decide +kernel)⟩
abbrev mX6_away : kM := (RX6, cX6_away, 4, (some .boolean), "away")
theorem ky_X6_away : kYv yX6_away mX6_away 3 := ⟨⟨kl_in 345 (by decide +kernel) (by decide +kernel), kl_in 73 (by decide +kernel) (by decide +kernel), ⟨by decide +kernel, by decide +kernel, by decide +kernel⟩, by decide, by decide +kernel, rfl, rfl⟩, kl_in 343 (by decide +kernel) (by decide +kernel), kl_in 344 (by decide +kernel) (by decide +kernel)⟩
abbrev mX6_deputy : kM := (RX6, cX6_deputy, 6, (some .int), "deputy")
theorem ky_X6_deputy : kYv yX6_deputy mX6_deputy 5 := ⟨⟨kl_in 357 (by decide +kernel) (by decide +kernel), kl_in 73 (by decide +kernel) (by decide +kernel), ⟨by decide +kernel, by decide +kernel, by decide +kernel⟩, by decide, by decide +kernel, rfl, rfl⟩, kl_in 355 (by decide +kernel) (by decide +kernel), kl_in 356 (by decide +kernel) (by decide +kernel)⟩
abbrev mX6_end : kM := (RX6, cX6_end, 2, (some .boolean), "end")
theorem ky_X6_end : kYv yX6_end mX6_end 1 := ⟨⟨kl_in 369 (by decide +kernel) (by decide +kernel), kl_in 73 (by decide +kernel) (by decide +kernel), ⟨by decide +kernel, by decide +kernel, by decide +kernel⟩, by decide, by decide +kernel, rfl, rfl⟩, kl_in 367 (by decide +kernel) (by decide +kernel), kl_in 368 (by decide +kernel) (by decide +kernel)⟩
abbrev mX6_acts : kM := (RX6, cX6_acts, 4, (some .int), "acts")
theorem ky_X6_acts : kYv yX6_acts mX6_acts 3 := ⟨⟨kl_in 377 (by decide +kernel) (by decide +kernel), kl_in 73 (by decide +kernel) (by decide +kernel), ⟨by decide +kernel, by decide +kernel, by decide +kernel⟩, by decide, by decide +kernel, rfl, rfl⟩, kl_in 375 (by decide +kernel) (by decide +kernel), kl_in 376 (by decide +kernel) (by decide +kernel)⟩
abbrev mX6_later : kM := (RX6, cX6_later, 2, (some .int), "later")
theorem ky_X6_later : kYv yX6_later mX6_later 1 := ⟨⟨kl_in 402 (by decide +kernel) (by decide +kernel), kl_in 73 (by decide +kernel) (by decide +kernel), ⟨by decide +kernel, by decide +kernel, by decide +kernel⟩, by decide, by decide +kernel, rfl, rfl⟩, kl_in 400 (by decide +kernel) (by decide +kernel), kl_in 401 (by decide +kernel) (by decide +kernel)⟩
abbrev mX6_feed : kM := (RX6, cX6_feed, 6, (some .int), "feed")
theorem ky_X6_feed : kYv yX6_feed mX6_feed 5 := ⟨⟨kl_in 407 (by decide +kernel) (by decide +kernel), kl_in 73 (by decide +kernel) (by decide +kernel), ⟨by decide +kernel, by decide +kernel, by decide +kernel⟩, by decide, by decide +kernel, rfl, rfl⟩, kl_in 405 (by decide +kernel) (by decide +kernel), kl_in 406 (by decide +kernel) (by decide +kernel)⟩
abbrev mX6_cut : kM := (RX6, cX6_cut, 2, (some .int), "cut")
theorem ky_X6_cut : kYv yX6_cut mX6_cut 1 := ⟨⟨kl_in 424 (by decide +kernel) (by decide +kernel), kl_in 73 (by decide +kernel) (by decide +kernel), ⟨by decide +kernel, by decide +kernel, by decide +kernel⟩, by decide, by decide +kernel, rfl, rfl⟩, kl_in 422 (by decide +kernel) (by decide +kernel), kl_in 423 (by decide +kernel) (by decide +kernel)⟩
abbrev mX6_rules : kM := (RX6, cX6_rules, 3, (some .int), "rules")
theorem ky_X6_rules : kYv yX6_rules mX6_rules 0 := ⟨⟨kl_in 432 (by decide +kernel) (by decide +kernel), kl_in 73 (by decide +kernel) (by decide +kernel), ⟨by decide +kernel, by decide +kernel, by decide +kernel⟩, by decide, by decide +kernel, rfl, rfl⟩, kl_in 430 (by decide +kernel) (by decide +kernel), kl_in 431 (by decide +kernel) (by decide +kernel)⟩
abbrev mX6_fault : kM := (RX6, cX6_fault, 2, (some .int), "fault")
theorem ky_X6_fault : kYv yX6_fault mX6_fault 1 := ⟨⟨kl_in 621 (by decide +kernel) (by decide +kernel), kl_in 73 (by decide +kernel) (by decide +kernel), ⟨by decide +kernel, by decide +kernel, by decide +kernel⟩, by decide, by decide +kernel, rfl, rfl⟩, kl_in 619 (by decide +kernel) (by decide +kernel), kl_in 620 (by decide +kernel) (by decide +kernel)⟩
abbrev mX6_span : kM := (RX6, cX6_span, 2, (some .boolean), "span")
theorem ky_X6_span : kYv yX6_span mX6_span 1 := ⟨⟨kl_in 633 (by decide +kernel) (by decide +kernel), kl_in 73 (by decide +kernel) (by decide +kernel), ⟨by decide +kernel, by decide +kernel, by decide +kernel⟩, by decide, by decide +kernel, rfl, rfl⟩, kl_in 631 (by decide +kernel) (by decide +kernel), kl_in 632 (by decide +kernel) (by decide +kernel)⟩
abbrev mX6_paper : kM := (RX6, cX6_paper, 7, (some .int), "paper")
theorem ky_X6_paper : kYv yX6_paper mX6_paper 5 := ⟨⟨kl_in 637 (by decide +kernel) (by decide +kernel), kl_in 73 (by decide +kernel) (by decide +kernel), ⟨by decide +kernel, by decide +kernel, by decide +kernel⟩, by decide, by decide +kernel, rfl, rfl⟩, kl_in 635 (by decide +kernel) (by decide +kernel), kl_in 636 (by decide +kernel) (by decide +kernel)⟩
abbrev mX6_of : kM := (RX6, cX6_of, 4, (some .int), "of")
theorem ky_X6_of : kYv yX6_of mX6_of 2 := ⟨⟨kl_in 767 (by decide +kernel) (by decide +kernel), kl_in 73 (by decide +kernel) (by decide +kernel), ⟨by decide +kernel, by decide +kernel, by decide +kernel⟩, by decide, by decide +kernel, rfl, rfl⟩, kl_in 765 (by decide +kernel) (by decide +kernel), kl_in 766 (by decide +kernel) (by decide +kernel)⟩
abbrev mX6_slot : kM := (RX6, cX6_slot, 5, (some .int), "slot")
theorem ky_X6_slot : kYv yX6_slot mX6_slot 3 := ⟨⟨kl_in 783 (by decide +kernel) (by decide +kernel), kl_in 73 (by decide +kernel) (by decide +kernel), ⟨by decide +kernel, by decide +kernel, by decide +kernel⟩, by decide, by decide +kernel, rfl, rfl⟩, kl_in 781 (by decide +kernel) (by decide +kernel), kl_in 782 (by decide +kernel) (by decide +kernel)⟩
abbrev mX6_sign : kM := (RX6, cX6_sign, 6, (some .boolean), "sign")
theorem ky_X6_sign : kYv yX6_sign mX6_sign 4 := ⟨⟨kl_in 787 (by decide +kernel) (by decide +kernel), kl_in 73 (by decide +kernel) (by decide +kernel), ⟨by decide +kernel, by decide +kernel, by decide +kernel⟩, by decide, by decide +kernel, rfl, rfl⟩, kl_in 785 (by decide +kernel) (by decide +kernel), kl_in 786 (by decide +kernel) (by decide +kernel)⟩
abbrev mX6_back : kM := (RX6, cX6_back, 3, (some .boolean), "back")
theorem ky_X6_back : kYv yX6_back mX6_back 1 := ⟨⟨kl_in 848 (by decide +kernel) (by decide +kernel), kl_in 73 (by decide +kernel) (by decide +kernel), ⟨by decide +kernel, by decide +kernel, by decide +kernel⟩, by decide, by decide +kernel, rfl, rfl⟩, kl_in 846 (by decide +kernel) (by decide +kernel), kl_in 847 (by decide +kernel) (by decide +kernel)⟩
abbrev mX6_withdraw : kM := (RX6, cX6_withdraw, 3, (some .boolean), "withdraw")
theorem ky_X6_withdraw : kYv yX6_withdraw mX6_withdraw 1 := ⟨⟨kl_in 852 (by decide +kernel) (by decide +kernel), kl_in 73 (by decide +kernel) (by decide +kernel), ⟨by decide +kernel, by decide +kernel, by decide +kernel⟩, by decide, by decide +kernel, rfl, rfl⟩, kl_in 850 (by decide +kernel) (by decide +kernel), kl_in 851 (by decide +kernel) (by decide +kernel)⟩
abbrev mX6_signed : kM := (RX6, cX6_signed, 5, (some .long), "signed")
theorem ky_X6_signed : kYv yX6_signed mX6_signed 4 := ⟨⟨kl_in 856 (by decide +kernel) (by decide +kernel), kl_in 73 (by decide +kernel) (by decide +kernel), ⟨by decide +kernel, by decide +kernel, by decide +kernel⟩, by decide, by decide +kernel, rfl, rfl⟩, kl_in 854 (by decide +kernel) (by decide +kernel), kl_in 855 (by decide +kernel) (by decide +kernel)⟩
abbrev mX6_way : kM := (RX6, cX6_way, 4, (some .int), "way")
theorem ky_X6_way : kYv yX6_way mX6_way 1 := ⟨⟨kl_in 866 (by decide +kernel) (by decide +kernel), kl_in 73 (by decide +kernel) (by decide +kernel), ⟨by decide +kernel, by decide +kernel, by decide +kernel⟩, by decide, by decide +kernel, rfl, rfl⟩, kl_in 864 (by decide +kernel) (by decide +kernel), kl_in 865 (by decide +kernel) (by decide +kernel)⟩
abbrev mX6_wayOf : kM := (RX6, cX6_wayOf, 3, (some .int), "wayOf")
theorem ky_X6_wayOf : kYv yX6_wayOf mX6_wayOf 2 := ⟨⟨kl_in 891 (by decide +kernel) (by decide +kernel), kl_in 73 (by decide +kernel) (by decide +kernel), ⟨by decide +kernel, by decide +kernel, by decide +kernel⟩, by decide, by decide +kernel, rfl, rfl⟩, kl_in 889 (by decide +kernel) (by decide +kernel), kl_in 890 (by decide +kernel) (by decide +kernel)⟩
abbrev mX6_holders : kM := (RX6, cX6_holders, 6, (some .int), "holders")
theorem ky_X6_holders : kYv yX6_holders mX6_holders 1 := ⟨⟨kl_in 895 (by decide +kernel) (by decide +kernel), kl_in 73 (by decide +kernel) (by decide +kernel), ⟨by decide +kernel, by decide +kernel, by decide +kernel⟩, by decide, by decide +kernel, rfl, rfl⟩, kl_in 893 (by decide +kernel) (by decide +kernel), kl_in 894 (by decide +kernel) (by decide +kernel)⟩
abbrev mX6_greatest : kM := (RX6, cX6_greatest, 11, (some .int), "greatest")
theorem ky_X6_greatest : kYv yX6_greatest mX6_greatest 5 := ⟨⟨kl_in 903 (by decide +kernel) (by decide +kernel), kl_in 73 (by decide +kernel) (by decide +kernel), ⟨by decide +kernel, by decide +kernel, by decide +kernel⟩, by decide, by decide +kernel, rfl, rfl⟩, kl_in 901 (by decide +kernel) (by decide +kernel), kl_in 902 (by decide +kernel) (by decide +kernel)⟩
abbrev mX6_about : kM := (RX6, cX6_about, 2, (some .int), "about")
theorem ky_X6_about : kYv yX6_about mX6_about 1 := ⟨⟨kl_in 953 (by decide +kernel) (by decide +kernel), kl_in 73 (by decide +kernel) (by decide +kernel), ⟨by decide +kernel, by decide +kernel, by decide +kernel⟩, by decide, by decide +kernel, rfl, rfl⟩, kl_in 951 (by decide +kernel) (by decide +kernel), kl_in 952 (by decide +kernel) (by decide +kernel)⟩
abbrev mX6_canBePaper : kM := (RX6, cX6_canBePaper, 4, (some .boolean), "canBePaper")
theorem ky_X6_canBePaper : kYv yX6_canBePaper mX6_canBePaper 3 := ⟨⟨kl_in 641 (by decide +kernel) (by decide +kernel), kl_in 73 (by decide +kernel) (by decide +kernel), ⟨by decide +kernel, by decide +kernel, by decide +kernel⟩, by decide, by decide +kernel, rfl, rfl⟩, kl_in 640 (by decide +kernel) (by decide +kernel), kl_in 22 (by decide +kernel) (by decide +kernel)⟩
abbrev mX6_begin : kM := (RX6, cX6_begin, 4, none, "begin")
theorem ky_X6_begin : kYv yX6_begin mX6_begin 1 := ⟨⟨kl_in 731 (by decide +kernel) (by decide +kernel), kl_in 73 (by decide +kernel) (by decide +kernel), ⟨by decide +kernel, by decide +kernel, by decide +kernel⟩, by decide, by decide +kernel, rfl, rfl⟩, kl_in 730 (by decide +kernel) (by decide +kernel), kl_in 23 (by decide +kernel) (by decide +kernel)⟩
abbrev mX6_seekByRule : kM := (RX6, cX6_seekByRule, 5, (some .int), "seekByRule")
theorem ky_X6_seekByRule : kYv yX6_seekByRule mX6_seekByRule 4 := ⟨⟨kl_in 911 (by decide +kernel) (by decide +kernel), kl_in 73 (by decide +kernel) (by decide +kernel), ⟨by decide +kernel, by decide +kernel, by decide +kernel⟩, by decide, by decide +kernel, rfl, rfl⟩, kl_in 910 (by decide +kernel) (by decide +kernel), kl_in 30 (by decide +kernel) (by decide +kernel)⟩
abbrev mX6_nextSum : kM := (RX6, cX6_nextSum, 7, (some .int), "nextSum")
theorem ky_X6_nextSum : kYv yX6_nextSum mX6_nextSum 3 := ⟨⟨kl_in 927 (by decide +kernel) (by decide +kernel), kl_in 73 (by decide +kernel) (by decide +kernel), ⟨by decide +kernel, by decide +kernel, by decide +kernel⟩, by decide, by decide +kernel, rfl, rfl⟩, kl_in 926 (by decide +kernel) (by decide +kernel), kl_in 31 (by decide +kernel) (by decide +kernel)⟩
abbrev mX6_isSum : kM := (RX6, cX6_isSum, 1, (some .boolean), "isSum")
theorem ky_X6_isSum : kYs yX6_isSum mX6_isSum 1 := ⟨⟨kl_in 364 (by decide +kernel) (by decide +kernel), kl_in 73 (by decide +kernel) (by decide +kernel), ⟨by decide +kernel, by decide +kernel, by decide +kernel⟩, by decide, by decide +kernel, rfl, rfl⟩, kl_in 363 (by decide +kernel) (by decide +kernel)⟩
abbrev mX6_isIn : kM := (RX6, cX6_isIn, 2, (some .boolean), "isIn")
theorem ky_X6_isIn : kYs yX6_isIn mX6_isIn 2 := ⟨⟨kl_in 394 (by decide +kernel) (by decide +kernel), kl_in 73 (by decide +kernel) (by decide +kernel), ⟨by decide +kernel, by decide +kernel, by decide +kernel⟩, by decide, by decide +kernel, rfl, rfl⟩, kl_in 393 (by decide +kernel) (by decide +kernel)⟩
abbrev mX7_init : kM := (RX7, cX7_init, 1, none, "<init>")
theorem ky_X7_init : kYi yX7_init mX7_init 0 := ⟨⟨kl_in 972 (by decide +kernel) (by decide +kernel), kl_in 79 (by decide +kernel) (by decide +kernel), ⟨by decide +kernel, by decide +kernel, by decide +kernel⟩, by decide, by decide +kernel, rfl, rfl⟩, kl_in 971 (by decide +kernel) (by decide +kernel), by decide +kernel⟩
abbrev mX7_isPerson : kM := (RX7, cX7_isPerson, 2, (some .boolean), "isPerson")
theorem ky_X7_isPerson : kYv yX7_isPerson mX7_isPerson 1 := ⟨⟨kl_in 1209 (by decide +kernel) (by decide +kernel), kl_in 79 (by decide +kernel) (by decide +kernel), ⟨by decide +kernel, by decide +kernel, by decide +kernel⟩, by decide, by decide +kernel, rfl, rfl⟩, kl_in 1208 (by decide +kernel) (by decide +kernel), kl_in 33 (by decide +kernel) (by decide +kernel)⟩
abbrev mX7_person : kM := (RX7, cX7_person, 2, (some .int), "person")
theorem ky_X7_person : kYv yX7_person mX7_person 1 := ⟨⟨kl_in 1201 (by decide +kernel) (by decide +kernel), kl_in 79 (by decide +kernel) (by decide +kernel), ⟨by decide +kernel, by decide +kernel, by decide +kernel⟩, by decide, by decide +kernel, rfl, rfl⟩, kl_in 1199 (by decide +kernel) (by decide +kernel), kl_in 1200 (by decide +kernel) (by decide +kernel)⟩
abbrev mX7_roles : kM := (RX7, cX7_roles, 3, (some .boolean), "roles")
theorem ky_X7_roles : kYv yX7_roles mX7_roles 2 := ⟨⟨kl_in 1205 (by decide +kernel) (by decide +kernel), kl_in 79 (by decide +kernel) (by decide +kernel), ⟨by decide +kernel, by decide +kernel, by decide +kernel⟩, by decide, by decide +kernel, rfl, rfl⟩, kl_in 1203 (by decide +kernel) (by decide +kernel), kl_in 1204 (by decide +kernel) (by decide +kernel)⟩
abbrev mX7_isSpan : kM := (RX7, cX7_isSpan, 2, (some .boolean), "isSpan")
theorem ky_X7_isSpan : kYs yX7_isSpan mX7_isSpan 2 := ⟨⟨kl_in 1216 (by decide +kernel) (by decide +kernel), kl_in 79 (by decide +kernel) (by decide +kernel), ⟨by decide +kernel, by decide +kernel, by decide +kernel⟩, by decide, by decide +kernel, rfl, rfl⟩, kl_in 1215 (by decide +kernel) (by decide +kernel)⟩
abbrev mX7_away : kM := (RX7, cX7_away, 4, (some .boolean), "away")
theorem ky_X7_away : kYv yX7_away mX7_away 3 := ⟨⟨kl_in 1213 (by decide +kernel) (by decide +kernel), kl_in 79 (by decide +kernel) (by decide +kernel), ⟨by decide +kernel, by decide +kernel, by decide +kernel⟩, by decide, by decide +kernel, rfl, rfl⟩, kl_in 1211 (by decide +kernel) (by decide +kernel), kl_in 1212 (by decide +kernel) (by decide +kernel)⟩
abbrev mX7_deputy : kM := (RX7, cX7_deputy, 6, (some .int), "deputy")
theorem ky_X7_deputy : kYv yX7_deputy mX7_deputy 5 := ⟨⟨kl_in 1221 (by decide +kernel) (by decide +kernel), kl_in 79 (by decide +kernel) (by decide +kernel), ⟨by decide +kernel, by decide +kernel, by decide +kernel⟩, by decide, by decide +kernel, rfl, rfl⟩, kl_in 1219 (by decide +kernel) (by decide +kernel), kl_in 1220 (by decide +kernel) (by decide +kernel)⟩
abbrev mX7_end : kM := (RX7, cX7_end, 2, (some .boolean), "end")
theorem ky_X7_end : kYv yX7_end mX7_end 1 := ⟨⟨kl_in 1226 (by decide +kernel) (by decide +kernel), kl_in 79 (by decide +kernel) (by decide +kernel), ⟨by decide +kernel, by decide +kernel, by decide +kernel⟩, by decide, by decide +kernel, rfl, rfl⟩, kl_in 1224 (by decide +kernel) (by decide +kernel), kl_in 1225 (by decide +kernel) (by decide +kernel)⟩
abbrev mX7_isAway : kM := (RX7, cX7_isAway, 4, (some .boolean), "isAway")
theorem ky_X7_isAway : kYv yX7_isAway mX7_isAway 2 := ⟨⟨kl_in 1238 (by decide +kernel) (by decide +kernel), kl_in 79 (by decide +kernel) (by decide +kernel), ⟨by decide +kernel, by decide +kernel, by decide +kernel⟩, by decide, by decide +kernel, rfl, rfl⟩, kl_in 1237 (by decide +kernel) (by decide +kernel), kl_in 35 (by decide +kernel) (by decide +kernel)⟩
abbrev mX7_actsFor : kM := (RX7, cX7_actsFor, 8, (some .int), "actsFor")
theorem ky_X7_actsFor : kYv yX7_actsFor mX7_actsFor 3 := ⟨⟨kl_in 1234 (by decide +kernel) (by decide +kernel), kl_in 79 (by decide +kernel) (by decide +kernel), ⟨by decide +kernel, by decide +kernel, by decide +kernel⟩, by decide, by decide +kernel, rfl, rfl⟩, kl_in 1233 (by decide +kernel) (by decide +kernel), kl_in 34 (by decide +kernel) (by decide +kernel)⟩
abbrev mX7_acts : kM := (RX7, cX7_acts, 4, (some .int), "acts")
theorem ky_X7_acts : kYv yX7_acts mX7_acts 3 := ⟨⟨kl_in 1230 (by decide +kernel) (by decide +kernel), kl_in 79 (by decide +kernel) (by decide +kernel), ⟨by decide +kernel, by decide +kernel, by decide +kernel⟩, by decide, by decide +kernel, rfl, rfl⟩, kl_in 1228 (by decide +kernel) (by decide +kernel), kl_in 1229 (by decide +kernel) (by decide +kernel)⟩
abbrev mX7_later : kM := (RX7, cX7_later, 2, (some .int), "later")
theorem ky_X7_later : kYv yX7_later mX7_later 1 := ⟨⟨kl_in 1242 (by decide +kernel) (by decide +kernel), kl_in 79 (by decide +kernel) (by decide +kernel), ⟨by decide +kernel, by decide +kernel, by decide +kernel⟩, by decide, by decide +kernel, rfl, rfl⟩, kl_in 1240 (by decide +kernel) (by decide +kernel), kl_in 1241 (by decide +kernel) (by decide +kernel)⟩
abbrev mX7_byteAt : kM := (RX7, cX7_byteAt, 2, (some .int), "byteAt")
theorem ky_X7_byteAt : kYv yX7_byteAt mX7_byteAt 1 := ⟨⟨kl_in 1254 (by decide +kernel) (by decide +kernel), kl_in 79 (by decide +kernel) (by decide +kernel), ⟨by decide +kernel, by decide +kernel, by decide +kernel⟩, by decide, by decide +kernel, rfl, rfl⟩, kl_in 1253 (by decide +kernel) (by decide +kernel), kl_in 37 (by decide +kernel) (by decide +kernel)⟩
abbrev mX7_isLetter : kM := (RX7, cX7_isLetter, 1, (some .boolean), "isLetter")
theorem ky_X7_isLetter : kYs yX7_isLetter mX7_isLetter 1 := ⟨⟨kl_in 1257 (by decide +kernel) (by decide +kernel), kl_in 79 (by decide +kernel) (by decide +kernel), ⟨by decide +kernel, by decide +kernel, by decide +kernel⟩, by decide, by decide +kernel, rfl, rfl⟩, kl_in 1256 (by decide +kernel) (by decide +kernel)⟩
abbrev mX7_isDigit : kM := (RX7, cX7_isDigit, 1, (some .boolean), "isDigit")
theorem ky_X7_isDigit : kYs yX7_isDigit mX7_isDigit 1 := ⟨⟨kl_in 1260 (by decide +kernel) (by decide +kernel), kl_in 79 (by decide +kernel) (by decide +kernel), ⟨by decide +kernel, by decide +kernel, by decide +kernel⟩, by decide, by decide +kernel, rfl, rfl⟩, kl_in 1259 (by decide +kernel) (by decide +kernel)⟩
abbrev mX7_fails : kM := (RX7, cX7_fails, 3, none, "fails")
theorem ky_X7_fails : kYv yX7_fails mX7_fails 2 := ⟨⟨kl_in 1282 (by decide +kernel) (by decide +kernel), kl_in 79 (by decide +kernel) (by decide +kernel), ⟨by decide +kernel, by decide +kernel, by decide +kernel⟩, by decide, by decide +kernel, rfl, rfl⟩, kl_in 1281 (by decide +kernel) (by decide +kernel), kl_in 42 (by decide +kernel) (by decide +kernel)⟩
abbrev mX7_isGood : kM := (RX7, cX7_isGood, 1, (some .boolean), "isGood")
theorem ky_X7_isGood : kYv yX7_isGood mX7_isGood 0 := ⟨⟨kl_in 1264 (by decide +kernel) (by decide +kernel), kl_in 79 (by decide +kernel) (by decide +kernel), ⟨by decide +kernel, by decide +kernel, by decide +kernel⟩, by decide, by decide +kernel, rfl, rfl⟩, kl_in 1263 (by decide +kernel) (by decide +kernel), kl_in 38 (by decide +kernel) (by decide +kernel)⟩
abbrev mX7_next : kM := (RX7, cX7_next, 3, none, "next")
theorem ky_X7_next : kYv yX7_next mX7_next 0 := ⟨⟨kl_in 1250 (by decide +kernel) (by decide +kernel), kl_in 79 (by decide +kernel) (by decide +kernel), ⟨by decide +kernel, by decide +kernel, by decide +kernel⟩, by decide, by decide +kernel, rfl, rfl⟩, kl_in 1249 (by decide +kernel) (by decide +kernel), kl_in 36 (by decide +kernel) (by decide +kernel)⟩
abbrev mX7_is : kM := (RX7, cX7_is, 2, (some .boolean), "is")
theorem ky_X7_is : kYv yX7_is mX7_is 1 := ⟨⟨kl_in 1311 (by decide +kernel) (by decide +kernel), kl_in 79 (by decide +kernel) (by decide +kernel), ⟨by decide +kernel, by decide +kernel, by decide +kernel⟩, by decide, by decide +kernel, rfl, rfl⟩, kl_in 1310 (by decide +kernel) (by decide +kernel), kl_in 48 (by decide +kernel) (by decide +kernel)⟩
abbrev mX7_isWord : kM := (RX7, cX7_isWord, 3, (some .boolean), "isWord")
theorem ky_X7_isWord : kYv yX7_isWord mX7_isWord 1 := ⟨⟨kl_in 1273 (by decide +kernel) (by decide +kernel), kl_in 79 (by decide +kernel) (by decide +kernel), ⟨by decide +kernel, by decide +kernel, by decide +kernel⟩, by decide, by decide +kernel, rfl, rfl⟩, kl_in 1272 (by decide +kernel) (by decide +kernel), kl_in 40 (by decide +kernel) (by decide +kernel)⟩
abbrev mX7_wrong : kM := (RX7, cX7_wrong, 1, none, "wrong")
theorem ky_X7_wrong : kYv yX7_wrong mX7_wrong 0 := ⟨⟨kl_in 1278 (by decide +kernel) (by decide +kernel), kl_in 79 (by decide +kernel) (by decide +kernel), ⟨by decide +kernel, by decide +kernel, by decide +kernel⟩, by decide, by decide +kernel, rfl, rfl⟩, kl_in 1277 (by decide +kernel) (by decide +kernel), kl_in 41 (by decide +kernel) (by decide +kernel)⟩
abbrev mX7_must : kM := (RX7, cX7_must, 2, none, "must")
theorem ky_X7_must : kYv yX7_must mX7_must 1 := ⟨⟨kl_in 1323 (by decide +kernel) (by decide +kernel), kl_in 79 (by decide +kernel) (by decide +kernel), ⟨by decide +kernel, by decide +kernel, by decide +kernel⟩, by decide, by decide +kernel, rfl, rfl⟩, kl_in 1322 (by decide +kernel) (by decide +kernel), kl_in 50 (by decide +kernel) (by decide +kernel)⟩
abbrev mX7_numeral : kM := (RX7, cX7_numeral, 2, (some .int), "numeral")
theorem ky_X7_numeral : kYv yX7_numeral mX7_numeral 0 := ⟨⟨kl_in 1327 (by decide +kernel) (by decide +kernel), kl_in 79 (by decide +kernel) (by decide +kernel), ⟨by decide +kernel, by decide +kernel, by decide +kernel⟩, by decide, by decide +kernel, rfl, rfl⟩, kl_in 1326 (by decide +kernel) (by decide +kernel), kl_in 51 (by decide +kernel) (by decide +kernel)⟩
abbrev mX7_kindHere : kM := (RX7, cX7_kindHere, 1, (some .int), "kindHere")
theorem ky_X7_kindHere : kYv yX7_kindHere mX7_kindHere 0 := ⟨⟨kl_in 1290 (by decide +kernel) (by decide +kernel), kl_in 79 (by decide +kernel) (by decide +kernel), ⟨by decide +kernel, by decide +kernel, by decide +kernel⟩, by decide, by decide +kernel, rfl, rfl⟩, kl_in 1289 (by decide +kernel) (by decide +kernel), kl_in 44 (by decide +kernel) (by decide +kernel)⟩
abbrev mX7_roleHere : kM := (RX7, cX7_roleHere, 2, (some .int), "roleHere")
theorem ky_X7_roleHere : kYv yX7_roleHere mX7_roleHere 0 := ⟨⟨kl_in 1341 (by decide +kernel) (by decide +kernel), kl_in 79 (by decide +kernel) (by decide +kernel), ⟨by decide +kernel, by decide +kernel, by decide +kernel⟩, by decide, by decide +kernel, rfl, rfl⟩, kl_in 1340 (by decide +kernel) (by decide +kernel), kl_in 54 (by decide +kernel) (by decide +kernel)⟩
abbrev mX7_rules : kM := (RX7, cX7_rules, 2, (some .int), "rules")
theorem ky_X7_rules : kYv yX7_rules mX7_rules 0 := ⟨⟨kl_in 1246 (by decide +kernel) (by decide +kernel), kl_in 79 (by decide +kernel) (by decide +kernel), ⟨by decide +kernel, by decide +kernel, by decide +kernel⟩, by decide, by decide +kernel, rfl, rfl⟩, kl_in 1244 (by decide +kernel) (by decide +kernel), kl_in 1245 (by decide +kernel) (by decide +kernel)⟩
abbrev mX7_readLine : kM := (RX7, cX7_readLine, 2, none, "readLine")
theorem ky_X7_readLine : kYv yX7_readLine mX7_readLine 0 := ⟨⟨kl_in 1268 (by decide +kernel) (by decide +kernel), kl_in 79 (by decide +kernel) (by decide +kernel), ⟨by decide +kernel, by decide +kernel, by decide +kernel⟩, by decide, by decide +kernel, rfl, rfl⟩, kl_in 1267 (by decide +kernel) (by decide +kernel), kl_in 39 (by decide +kernel) (by decide +kernel)⟩
abbrev mX7_readLimit : kM := (RX7, cX7_readLimit, 2, none, "readLimit")
theorem ky_X7_readLimit : kYv yX7_readLimit mX7_readLimit 0 := ⟨⟨kl_in 1354 (by decide +kernel) (by decide +kernel), kl_in 79 (by decide +kernel) (by decide +kernel), ⟨by decide +kernel, by decide +kernel, by decide +kernel⟩, by decide, by decide +kernel, rfl, rfl⟩, kl_in 1353 (by decide +kernel) (by decide +kernel), kl_in 55 (by decide +kernel) (by decide +kernel)⟩
abbrev mX7_readRule : kM := (RX7, cX7_readRule, 4, none, "readRule")
theorem ky_X7_readRule : kYv yX7_readRule mX7_readRule 0 := ⟨⟨kl_in 1286 (by decide +kernel) (by decide +kernel), kl_in 79 (by decide +kernel) (by decide +kernel), ⟨by decide +kernel, by decide +kernel, by decide +kernel⟩, by decide, by decide +kernel, rfl, rfl⟩, kl_in 1285 (by decide +kernel) (by decide +kernel), kl_in 43 (by decide +kernel) (by decide +kernel)⟩
abbrev mX7_readStep : kM := (RX7, cX7_readStep, 8, none, "readStep")
theorem ky_X7_readStep : kYv yX7_readStep mX7_readStep 2 := ⟨⟨kl_in 1337 (by decide +kernel) (by decide +kernel), kl_in 79 (by decide +kernel) (by decide +kernel), ⟨by decide +kernel, by decide +kernel, by decide +kernel⟩, by decide, by decide +kernel, rfl, rfl⟩, kl_in 1336 (by decide +kernel) (by decide +kernel), kl_in 53 (by decide +kernel) (by decide +kernel)⟩
abbrev mX7_put : kM := (RX7, cX7_put, 3, none, "put")
theorem ky_X7_put : kYv yX7_put mX7_put 2 := ⟨⟨kl_in 1319 (by decide +kernel) (by decide +kernel), kl_in 79 (by decide +kernel) (by decide +kernel), ⟨by decide +kernel, by decide +kernel, by decide +kernel⟩, by decide, by decide +kernel, rfl, rfl⟩, kl_in 1318 (by decide +kernel) (by decide +kernel), kl_in 49 (by decide +kernel) (by decide +kernel)⟩
abbrev mX7_pile : kM := (RX7, cX7_pile, 2, none, "pile")
theorem ky_X7_pile : kYv yX7_pile mX7_pile 1 := ⟨⟨kl_in 1303 (by decide +kernel) (by decide +kernel), kl_in 79 (by decide +kernel) (by decide +kernel), ⟨by decide +kernel, by decide +kernel, by decide +kernel⟩, by decide, by decide +kernel, rfl, rfl⟩, kl_in 1302 (by decide +kernel) (by decide +kernel), kl_in 46 (by decide +kernel) (by decide +kernel)⟩
abbrev mX7_e : kM := (RX7, cX7_e, 2, none, "e")
theorem ky_X7_e : kYv yX7_e mX7_e 0 := ⟨⟨kl_in 1299 (by decide +kernel) (by decide +kernel), kl_in 79 (by decide +kernel) (by decide +kernel), ⟨by decide +kernel, by decide +kernel, by decide +kernel⟩, by decide, by decide +kernel, rfl, rfl⟩, kl_in 1298 (by decide +kernel) (by decide +kernel), kl_in 45 (by decide +kernel) (by decide +kernel)⟩
abbrev mX7_one : kM := (RX7, cX7_one, 4, (some .boolean), "one")
theorem ky_X7_one : kYv yX7_one mX7_one 0 := ⟨⟨kl_in 1307 (by decide +kernel) (by decide +kernel), kl_in 79 (by decide +kernel) (by decide +kernel), ⟨by decide +kernel, by decide +kernel, by decide +kernel⟩, by decide, by decide +kernel, rfl, rfl⟩, kl_in 1306 (by decide +kernel) (by decide +kernel), kl_in 47 (by decide +kernel) (by decide +kernel)⟩
abbrev mX7_behind : kM := (RX7, cX7_behind, 2, (some .boolean), "behind")
theorem ky_X7_behind : kYv yX7_behind mX7_behind 0 := ⟨⟨kl_in 1331 (by decide +kernel) (by decide +kernel), kl_in 79 (by decide +kernel) (by decide +kernel), ⟨by decide +kernel, by decide +kernel, by decide +kernel⟩, by decide, by decide +kernel, rfl, rfl⟩, kl_in 1330 (by decide +kernel) (by decide +kernel), kl_in 52 (by decide +kernel) (by decide +kernel)⟩
abbrev mX7_fault : kM := (RX7, cX7_fault, 2, (some .int), "fault")
theorem ky_X7_fault : kYv yX7_fault mX7_fault 1 := ⟨⟨kl_in 1360 (by decide +kernel) (by decide +kernel), kl_in 79 (by decide +kernel) (by decide +kernel), ⟨by decide +kernel, by decide +kernel, by decide +kernel⟩, by decide, by decide +kernel, rfl, rfl⟩, kl_in 1358 (by decide +kernel) (by decide +kernel), kl_in 1359 (by decide +kernel) (by decide +kernel)⟩
abbrev mX7_holds : kM := (RX7, cX7_holds, 10, (some .boolean), "holds")
theorem ky_X7_holds : kYv yX7_holds mX7_holds 4 := ⟨⟨kl_in 1391 (by decide +kernel) (by decide +kernel), kl_in 79 (by decide +kernel) (by decide +kernel), ⟨by decide +kernel, by decide +kernel, by decide +kernel⟩, by decide, by decide +kernel, rfl, rfl⟩, kl_in 1390 (by decide +kernel) (by decide +kernel), kl_in 60 (by decide +kernel) (by decide +kernel)⟩
abbrev mX7_ruleFor : kM := (RX7, cX7_ruleFor, 7, (some .int), "ruleFor")
theorem ky_X7_ruleFor : kYv yX7_ruleFor mX7_ruleFor 4 := ⟨⟨kl_in 1387 (by decide +kernel) (by decide +kernel), kl_in 79 (by decide +kernel) (by decide +kernel), ⟨by decide +kernel, by decide +kernel, by decide +kernel⟩, by decide, by decide +kernel, rfl, rfl⟩, kl_in 1386 (by decide +kernel) (by decide +kernel), kl_in 59 (by decide +kernel) (by decide +kernel)⟩
abbrev mX7_span : kM := (RX7, cX7_span, 2, (some .boolean), "span")
theorem ky_X7_span : kYv yX7_span mX7_span 1 := ⟨⟨kl_in 1364 (by decide +kernel) (by decide +kernel), kl_in 79 (by decide +kernel) (by decide +kernel), ⟨by decide +kernel, by decide +kernel, by decide +kernel⟩, by decide, by decide +kernel, rfl, rfl⟩, kl_in 1362 (by decide +kernel) (by decide +kernel), kl_in 1363 (by decide +kernel) (by decide +kernel)⟩
abbrev mX7_isPaper : kM := (RX7, cX7_isPaper, 2, (some .boolean), "isPaper")
theorem ky_X7_isPaper : kYv yX7_isPaper mX7_isPaper 1 := ⟨⟨kl_in 1399 (by decide +kernel) (by decide +kernel), kl_in 79 (by decide +kernel) (by decide +kernel), ⟨by decide +kernel, by decide +kernel, by decide +kernel⟩, by decide, by decide +kernel, rfl, rfl⟩, kl_in 1398 (by decide +kernel) (by decide +kernel), kl_in 61 (by decide +kernel) (by decide +kernel)⟩
abbrev mX7_others : kM := (RX7, cX7_others, 9, (some .long), "others")
theorem ky_X7_others : kYv yX7_others mX7_others 5 := ⟨⟨kl_in 1383 (by decide +kernel) (by decide +kernel), kl_in 79 (by decide +kernel) (by decide +kernel), ⟨by decide +kernel, by decide +kernel, by decide +kernel⟩, by decide, by decide +kernel, rfl, rfl⟩, kl_in 1382 (by decide +kernel) (by decide +kernel), kl_in 58 (by decide +kernel) (by decide +kernel)⟩
abbrev mX7_begin : kM := (RX7, cX7_begin, 5, none, "begin")
theorem ky_X7_begin : kYv yX7_begin mX7_begin 2 := ⟨⟨kl_in 1379 (by decide +kernel) (by decide +kernel), kl_in 79 (by decide +kernel) (by decide +kernel), ⟨by decide +kernel, by decide +kernel, by decide +kernel⟩, by decide, by decide +kernel, rfl, rfl⟩, kl_in 1378 (by decide +kernel) (by decide +kernel), kl_in 57 (by decide +kernel) (by decide +kernel)⟩
abbrev mX7_canBe : kM := (RX7, cX7_canBe, 3, (some .boolean), "canBe")
theorem ky_X7_canBe : kYs yX7_canBe mX7_canBe 3 := ⟨⟨kl_in 1371 (by decide +kernel) (by decide +kernel), kl_in 79 (by decide +kernel) (by decide +kernel), ⟨by decide +kernel, by decide +kernel, by decide +kernel⟩, by decide, by decide +kernel, rfl, rfl⟩, kl_in 1370 (by decide +kernel) (by decide +kernel)⟩
abbrev mX7_set : kM := (RX7, cX7_set, 7, none, "set")
theorem ky_X7_set : kYv yX7_set mX7_set 6 := ⟨⟨kl_in 1375 (by decide +kernel) (by decide +kernel), kl_in 79 (by decide +kernel) (by decide +kernel), ⟨by decide +kernel, by decide +kernel, by decide +kernel⟩, by decide, by decide +kernel, rfl, rfl⟩, kl_in 1374 (by decide +kernel) (by decide +kernel), kl_in 56 (by decide +kernel) (by decide +kernel)⟩
abbrev mX7_paper : kM := (RX7, cX7_paper, 6, (some .int), "paper")
theorem ky_X7_paper : kYv yX7_paper mX7_paper 5 := ⟨⟨kl_in 1368 (by decide +kernel) (by decide +kernel), kl_in 79 (by decide +kernel) (by decide +kernel), ⟨by decide +kernel, by decide +kernel, by decide +kernel⟩, by decide, by decide +kernel, rfl, rfl⟩, kl_in 1366 (by decide +kernel) (by decide +kernel), kl_in 1367 (by decide +kernel) (by decide +kernel)⟩
abbrev mX7_signedOf : kM := (RX7, cX7_signedOf, 4, (some .int), "signedOf")
theorem ky_X7_signedOf : kYv yX7_signedOf mX7_signedOf 1 := ⟨⟨kl_in 1403 (by decide +kernel) (by decide +kernel), kl_in 79 (by decide +kernel) (by decide +kernel), ⟨by decide +kernel, by decide +kernel, by decide +kernel⟩, by decide, by decide +kernel, rfl, rfl⟩, kl_in 1402 (by decide +kernel) (by decide +kernel), kl_in 62 (by decide +kernel) (by decide +kernel)⟩
abbrev mX7_stepOf : kM := (RX7, cX7_stepOf, 3, (some .int), "stepOf")
theorem ky_X7_stepOf : kYv yX7_stepOf mX7_stepOf 1 := ⟨⟨kl_in 1407 (by decide +kernel) (by decide +kernel), kl_in 79 (by decide +kernel) (by decide +kernel), ⟨by decide +kernel, by decide +kernel, by decide +kernel⟩, by decide, by decide +kernel, rfl, rfl⟩, kl_in 1406 (by decide +kernel) (by decide +kernel), kl_in 63 (by decide +kernel) (by decide +kernel)⟩
abbrev mX7_of : kM := (RX7, cX7_of, 3, (some .int), "of")
theorem ky_X7_of : kYv yX7_of mX7_of 2 := ⟨⟨kl_in 1395 (by decide +kernel) (by decide +kernel), kl_in 79 (by decide +kernel) (by decide +kernel), ⟨by decide +kernel, by decide +kernel, by decide +kernel⟩, by decide, by decide +kernel, rfl, rfl⟩, kl_in 1393 (by decide +kernel) (by decide +kernel), kl_in 1394 (by decide +kernel) (by decide +kernel)⟩
abbrev mX7_slot : kM := (RX7, cX7_slot, 5, (some .int), "slot")
theorem ky_X7_slot : kYv yX7_slot mX7_slot 3 := ⟨⟨kl_in 1411 (by decide +kernel) (by decide +kernel), kl_in 79 (by decide +kernel) (by decide +kernel), ⟨by decide +kernel, by decide +kernel, by decide +kernel⟩, by decide, by decide +kernel, rfl, rfl⟩, kl_in 1409 (by decide +kernel) (by decide +kernel), kl_in 1410 (by decide +kernel) (by decide +kernel)⟩
abbrev mX7_signedBy : kM := (RX7, cX7_signedBy, 10, (some .long), "signedBy")
theorem ky_X7_signedBy : kYv yX7_signedBy mX7_signedBy 4 := ⟨⟨kl_in 1420 (by decide +kernel) (by decide +kernel), kl_in 79 (by decide +kernel) (by decide +kernel), ⟨by decide +kernel, by decide +kernel, by decide +kernel⟩, by decide, by decide +kernel, rfl, rfl⟩, kl_in 1419 (by decide +kernel) (by decide +kernel), kl_in 64 (by decide +kernel) (by decide +kernel)⟩
abbrev mX7_signed : kM := (RX7, cX7_signed, 5, (some .long), "signed")
theorem ky_X7_signed : kYv yX7_signed mX7_signed 4 := ⟨⟨kl_in 1415 (by decide +kernel) (by decide +kernel), kl_in 79 (by decide +kernel) (by decide +kernel), ⟨by decide +kernel, by decide +kernel, by decide +kernel⟩, by decide, by decide +kernel, rfl, rfl⟩, kl_in 1413 (by decide +kernel) (by decide +kernel), kl_in 1414 (by decide +kernel) (by decide +kernel)⟩
abbrev mX7_room : kM := (RX7, cX7_room, 8, (some .long), "room")
theorem ky_X7_room : kYv yX7_room mX7_room 2 := ⟨⟨kl_in 1440 (by decide +kernel) (by decide +kernel), kl_in 79 (by decide +kernel) (by decide +kernel), ⟨by decide +kernel, by decide +kernel, by decide +kernel⟩, by decide, by decide +kernel, rfl, rfl⟩, kl_in 1439 (by decide +kernel) (by decide +kernel), kl_in 68 (by decide +kernel) (by decide +kernel)⟩
abbrev mX7_lookAt : kM := (RX7, cX7_lookAt, 3, none, "lookAt")
theorem ky_X7_lookAt : kYv yX7_lookAt mX7_lookAt 1 := ⟨⟨kl_in 1432 (by decide +kernel) (by decide +kernel), kl_in 79 (by decide +kernel) (by decide +kernel), ⟨by decide +kernel, by decide +kernel, by decide +kernel⟩, by decide, by decide +kernel, rfl, rfl⟩, kl_in 1431 (by decide +kernel) (by decide +kernel), kl_in 66 (by decide +kernel) (by decide +kernel)⟩
abbrev mX7_fits : kM := (RX7, cX7_fits, 7, (some .boolean), "fits")
theorem ky_X7_fits : kYv yX7_fits mX7_fits 5 := ⟨⟨kl_in 1436 (by decide +kernel) (by decide +kernel), kl_in 79 (by decide +kernel) (by decide +kernel), ⟨by decide +kernel, by decide +kernel, by decide +kernel⟩, by decide, by decide +kernel, rfl, rfl⟩, kl_in 1435 (by decide +kernel) (by decide +kernel), kl_in 67 (by decide +kernel) (by decide +kernel)⟩
abbrev mX7_isOpen : kM := (RX7, cX7_isOpen, 3, (some .boolean), "isOpen")
theorem ky_X7_isOpen : kYv yX7_isOpen mX7_isOpen 2 := ⟨⟨kl_in 1428 (by decide +kernel) (by decide +kernel), kl_in 79 (by decide +kernel) (by decide +kernel), ⟨by decide +kernel, by decide +kernel, by decide +kernel⟩, by decide, by decide +kernel, rfl, rfl⟩, kl_in 1427 (by decide +kernel) (by decide +kernel), kl_in 65 (by decide +kernel) (by decide +kernel)⟩
abbrev mX7_sign : kM := (RX7, cX7_sign, 6, (some .boolean), "sign")
theorem ky_X7_sign : kYv yX7_sign mX7_sign 4 := ⟨⟨kl_in 1424 (by decide +kernel) (by decide +kernel), kl_in 79 (by decide +kernel) (by decide +kernel), ⟨by decide +kernel, by decide +kernel, by decide +kernel⟩, by decide, by decide +kernel, rfl, rfl⟩, kl_in 1422 (by decide +kernel) (by decide +kernel), kl_in 1423 (by decide +kernel) (by decide +kernel)⟩
abbrev mX7_back : kM := (RX7, cX7_back, 2, (some .boolean), "back")
theorem ky_X7_back : kYv yX7_back mX7_back 1 := ⟨⟨kl_in 1445 (by decide +kernel) (by decide +kernel), kl_in 79 (by decide +kernel) (by decide +kernel), ⟨by decide +kernel, by decide +kernel, by decide +kernel⟩, by decide, by decide +kernel, rfl, rfl⟩, kl_in 1443 (by decide +kernel) (by decide +kernel), kl_in 1444 (by decide +kernel) (by decide +kernel)⟩
abbrev mX7_withdraw : kM := (RX7, cX7_withdraw, 2, (some .boolean), "withdraw")
theorem ky_X7_withdraw : kYv yX7_withdraw mX7_withdraw 1 := ⟨⟨kl_in 1449 (by decide +kernel) (by decide +kernel), kl_in 79 (by decide +kernel) (by decide +kernel), ⟨by decide +kernel, by decide +kernel, by decide +kernel⟩, by decide, by decide +kernel, rfl, rfl⟩, kl_in 1447 (by decide +kernel) (by decide +kernel), kl_in 1448 (by decide +kernel) (by decide +kernel)⟩
abbrev mX7_seek : kM := (RX7, cX7_seek, 9, (some .int), "seek")
theorem ky_X7_seek : kYv yX7_seek mX7_seek 2 := ⟨⟨kl_in 1457 (by decide +kernel) (by decide +kernel), kl_in 79 (by decide +kernel) (by decide +kernel), ⟨by decide +kernel, by decide +kernel, by decide +kernel⟩, by decide, by decide +kernel, rfl, rfl⟩, kl_in 1456 (by decide +kernel) (by decide +kernel), kl_in 69 (by decide +kernel) (by decide +kernel)⟩
abbrev mX7_way : kM := (RX7, cX7_way, 4, (some .int), "way")
theorem ky_X7_way : kYv yX7_way mX7_way 1 := ⟨⟨kl_in 1453 (by decide +kernel) (by decide +kernel), kl_in 79 (by decide +kernel) (by decide +kernel), ⟨by decide +kernel, by decide +kernel, by decide +kernel⟩, by decide, by decide +kernel, rfl, rfl⟩, kl_in 1451 (by decide +kernel) (by decide +kernel), kl_in 1452 (by decide +kernel) (by decide +kernel)⟩
abbrev mX7_wayOf : kM := (RX7, cX7_wayOf, 3, (some .int), "wayOf")
theorem ky_X7_wayOf : kYv yX7_wayOf mX7_wayOf 2 := ⟨⟨kl_in 1461 (by decide +kernel) (by decide +kernel), kl_in 79 (by decide +kernel) (by decide +kernel), ⟨by decide +kernel, by decide +kernel, by decide +kernel⟩, by decide, by decide +kernel, rfl, rfl⟩, kl_in 1459 (by decide +kernel) (by decide +kernel), kl_in 1460 (by decide +kernel) (by decide +kernel)⟩
abbrev mX7_holders : kM := (RX7, cX7_holders, 6, (some .int), "holders")
theorem ky_X7_holders : kYv yX7_holders mX7_holders 1 := ⟨⟨kl_in 1465 (by decide +kernel) (by decide +kernel), kl_in 79 (by decide +kernel) (by decide +kernel), ⟨by decide +kernel, by decide +kernel, by decide +kernel⟩, by decide, by decide +kernel, rfl, rfl⟩, kl_in 1463 (by decide +kernel) (by decide +kernel), kl_in 1464 (by decide +kernel) (by decide +kernel)⟩
abbrev mX7_mayBe : kM := (RX7, cX7_mayBe, 3, none, "mayBe")
theorem ky_X7_mayBe : kYv yX7_mayBe mX7_mayBe 1 := ⟨⟨kl_in 1477 (by decide +kernel) (by decide +kernel), kl_in 79 (by decide +kernel) (by decide +kernel), ⟨by decide +kernel, by decide +kernel, by decide +kernel⟩, by decide, by decide +kernel, rfl, rfl⟩, kl_in 1476 (by decide +kernel) (by decide +kernel), kl_in 71 (by decide +kernel) (by decide +kernel)⟩
abbrev mX7_nextBelow : kM := (RX7, cX7_nextBelow, 8, (some .long), "nextBelow")
theorem ky_X7_nextBelow : kYv yX7_nextBelow mX7_nextBelow 2 := ⟨⟨kl_in 1473 (by decide +kernel) (by decide +kernel), kl_in 79 (by decide +kernel) (by decide +kernel), ⟨by decide +kernel, by decide +kernel, by decide +kernel⟩, by decide, by decide +kernel, rfl, rfl⟩, kl_in 1472 (by decide +kernel) (by decide +kernel), kl_in 70 (by decide +kernel) (by decide +kernel)⟩
abbrev mX7_greatest : kM := (RX7, cX7_greatest, 11, (some .int), "greatest")
theorem ky_X7_greatest : kYv yX7_greatest mX7_greatest 5 := ⟨⟨kl_in 1469 (by decide +kernel) (by decide +kernel), kl_in 79 (by decide +kernel) (by decide +kernel), ⟨by decide +kernel, by decide +kernel, by decide +kernel⟩, by decide, by decide +kernel, rfl, rfl⟩, kl_in 1467 (by decide +kernel) (by decide +kernel), kl_in 1468 (by decide +kernel) (by decide +kernel)⟩
abbrev mX7_about : kM := (RX7, cX7_about, 2, (some .int), "about")
theorem ky_X7_about : kYv yX7_about mX7_about 1 := ⟨⟨kl_in 1481 (by decide +kernel) (by decide +kernel), kl_in 79 (by decide +kernel) (by decide +kernel), ⟨by decide +kernel, by decide +kernel, by decide +kernel⟩, by decide, by decide +kernel, rfl, rfl⟩, kl_in 1479 (by decide +kernel) (by decide +kernel), kl_in 1480 (by decide +kernel) (by decide +kernel)⟩
abbrev mX7_feed : kM := (RX7, cX7_feed, 8, (some .int), "feed")
theorem ky_X7_feed : kYv yX7_feed mX7_feed 5 := ⟨⟨kl_in 1485 (by decide +kernel) (by decide +kernel), kl_in 79 (by decide +kernel) (by decide +kernel), ⟨by decide +kernel, by decide +kernel, by decide +kernel⟩, by decide, by decide +kernel, rfl, rfl⟩, kl_in 1483 (by decide +kernel) (by decide +kernel), kl_in 1484 (by decide +kernel) (by decide +kernel)⟩
abbrev mX7_cut : kM := (RX7, cX7_cut, 2, (some .int), "cut")
theorem ky_X7_cut : kYv yX7_cut mX7_cut 1 := ⟨⟨kl_in 1489 (by decide +kernel) (by decide +kernel), kl_in 79 (by decide +kernel) (by decide +kernel), ⟨by decide +kernel, by decide +kernel, by decide +kernel⟩, by decide, by decide +kernel, rfl, rfl⟩, kl_in 1487 (by decide +kernel) (by decide +kernel), kl_in 1488 (by decide +kernel) (by decide +kernel)⟩
theorem kl_X6_11 : kMl RX6 11 yX5_init := Or.inr (kl_nin 96 (by decide +kernel) (by decide +kernel))
theorem kl_X6_18 : kMl RX6 18 yX0_init := Or.inr (kl_nin 144 (by decide +kernel) (by decide +kernel))
theorem kl_X6_25 : kMl RX6 25 yX2_init := Or.inr (kl_nin 159 (by decide +kernel) (by decide +kernel))
theorem kl_X6_32 : kMl RX6 32 yX4_init := Or.inl (kl_in 191 (by decide +kernel) (by decide +kernel))
theorem kl_X6_41 : kMl RX6 41 yX3_init := Or.inl (kl_in 234 (by decide +kernel) (by decide +kernel))
theorem kl_X6_63 : kMl RX6 63 yX5_addPerson := Or.inl (kl_in 323 (by decide +kernel) (by decide +kernel))
theorem kl_X6_67 : kMl RX6 67 yX5_setRoles := Or.inl (kl_in 334 (by decide +kernel) (by decide +kernel))
theorem kl_X6_71 : kMl RX6 71 yX5_addAway := Or.inl (kl_in 346 (by decide +kernel) (by decide +kernel))
theorem kl_X6_75 : kMl RX6 75 yX5_addDeputy := Or.inl (kl_in 358 (by decide +kernel) (by decide +kernel))
theorem kl_X6_79 : kMl RX6 79 yX5_endDeputy := Or.inl (kl_in 370 (by decide +kernel) (by decide +kernel))
theorem kl_X6_83 : kMl RX6 83 yX5_has := Or.inl (kl_in 378 (by decide +kernel) (by decide +kernel))
theorem kl_X6_86 : kMl RX6 86 yX6_isSum := Or.inl (kl_in 379 (by decide +kernel) (by decide +kernel))
theorem kl_X6_89 : kMl RX6 89 yX5_awayOn := Or.inl (kl_in 380 (by decide +kernel) (by decide +kernel))
theorem kl_X6_92 : kMl RX6 92 yX5_actingFor := Or.inl (kl_in 384 (by decide +kernel) (by decide +kernel))
theorem kl_X6_97 : kMl RX6 97 yX2_hasRoomFor := Or.inl (kl_in 408 (by decide +kernel) (by decide +kernel))
theorem kl_X6_100 : kMl RX6 100 yX2_put := Or.inl (kl_in 412 (by decide +kernel) (by decide +kernel))
theorem kl_X6_104 : kMl RX6 104 yX2_size := Or.inl (kl_in 417 (by decide +kernel) (by decide +kernel))
theorem kl_X6_108 : kMl RX6 108 yX2_shorten := Or.inl (kl_in 425 (by decide +kernel) (by decide +kernel))
theorem kl_X6_111 : kMl RX6 111 yX2_readInto := Or.inl (kl_in 433 (by decide +kernel) (by decide +kernel))
theorem kl_X6_115 : kMl RX6 115 yX3_ruleCount := Or.inl (kl_in 614 (by decide +kernel) (by decide +kernel))
theorem kl_X6_118 : kMl RX6 118 yX2_faultNumber := Or.inl (kl_in 622 (by decide +kernel) (by decide +kernel))
theorem kl_X6_121 : kMl RX6 121 yX2_faultPlace := Or.inl (kl_in 626 (by decide +kernel) (by decide +kernel))
theorem kl_X6_124 : kMl RX6 124 yX6_canBePaper := Or.inl (kl_in 638 (by decide +kernel) (by decide +kernel))
theorem kl_X6_129 : kMl RX6 129 yX1_init := Or.inl (kl_in 648 (by decide +kernel) (by decide +kernel))
theorem kl_X6_132 : kMl RX6 132 yX0_add := Or.inl (kl_in 723 (by decide +kernel) (by decide +kernel))
theorem kl_X6_136 : kMl RX6 136 yX6_begin := Or.inl (kl_in 728 (by decide +kernel) (by decide +kernel))
theorem kl_X6_139 : kMl RX6 139 yX0_at := Or.inl (kl_in 732 (by decide +kernel) (by decide +kernel))
theorem kl_X6_152 : kMl RX6 152 yX1_signedSlots := Or.inl (kl_in 768 (by decide +kernel) (by decide +kernel))
theorem kl_X6_155 : kMl RX6 155 yX1_firstOpenStep := Or.inl (kl_in 776 (by decide +kernel) (by decide +kernel))
theorem kl_X6_173 : kMl RX6 173 yX1_isOpenNow := Or.inl (kl_in 788 (by decide +kernel) (by decide +kernel))
theorem kl_X6_176 : kMl RX6 176 yX4_lookAtLimits := Or.inl (kl_in 793 (by decide +kernel) (by decide +kernel))
theorem kl_X6_183 : kMl RX6 183 yX4_lookAtPeople := Or.inl (kl_in 810 (by decide +kernel) (by decide +kernel))
theorem kl_X6_187 : kMl RX6 187 yX1_taken := Or.inl (kl_in 831 (by decide +kernel) (by decide +kernel))
theorem kl_X6_190 : kMl RX6 190 yX4_allows := Or.inl (kl_in 835 (by decide +kernel) (by decide +kernel))
theorem kl_X6_194 : kMl RX6 194 yX1_put := Or.inl (kl_in 840 (by decide +kernel) (by decide +kernel))
theorem kl_X6_199 : kMl RX6 199 yX0_total := Or.inl (kl_in 858 (by decide +kernel) (by decide +kernel))
theorem kl_X6_203 : kMl RX6 203 yX4_openSlotsOf := Or.inl (kl_in 867 (by decide +kernel) (by decide +kernel))
theorem kl_X6_207 : kMl RX6 207 yX4_seekWay := Or.inl (kl_in 875 (by decide +kernel) (by decide +kernel))
theorem kl_X6_210 : kMl RX6 210 yX4_copyWay := Or.inl (kl_in 884 (by decide +kernel) (by decide +kernel))
theorem kl_X6_214 : kMl RX6 214 yX4_handsFor := Or.inl (kl_in 896 (by decide +kernel) (by decide +kernel))
theorem kl_X6_218 : kMl RX6 218 yX5_areAllThere := Or.inl (kl_in 904 (by decide +kernel) (by decide +kernel))
theorem kl_X6_221 : kMl RX6 221 yX0_sumOfOthers := Or.inl (kl_in 736 (by decide +kernel) (by decide +kernel))
theorem kl_X6_225 : kMl RX6 225 yX3_ruleFor := Or.inl (kl_in 744 (by decide +kernel) (by decide +kernel))
theorem kl_X6_229 : kMl RX6 229 yX6_seekByRule := Or.inl (kl_in 908 (by decide +kernel) (by decide +kernel))
theorem kl_X6_232 : kMl RX6 232 yX6_nextSum := Or.inl (kl_in 924 (by decide +kernel) (by decide +kernel))
theorem kl_X6_236 : kMl RX6 236 yX5_size := Or.inl (kl_in 954 (by decide +kernel) (by decide +kernel))
theorem kl_X6_237 : kMl RX6 237 yX5_awayCount := Or.inl (kl_in 955 (by decide +kernel) (by decide +kernel))
theorem kl_X6_240 : kMl RX6 240 yX5_deputyCount := Or.inl (kl_in 959 (by decide +kernel) (by decide +kernel))
theorem kl_X6_243 : kMl RX6 243 yX3_limitCount := Or.inl (kl_in 963 (by decide +kernel) (by decide +kernel))
theorem kl_X6_246 : kMl RX6 246 yX0_size := Or.inl (kl_in 967 (by decide +kernel) (by decide +kernel))
theorem kl_X6_247 : kMl RX6 247 yX0_isFull := Or.inl (kl_in 642 (by decide +kernel) (by decide +kernel))
theorem kl_X6_260 : kMl RX6 260 yX1_clearSlots := Or.inl (kl_in 740 (by decide +kernel) (by decide +kernel))
theorem kl_X6_267 : kMl RX6 267 yX3_copySlots := Or.inl (kl_in 756 (by decide +kernel) (by decide +kernel))
theorem kl_X6_271 : kMl RX6 271 yX4_openSlotsOfRule := Or.inl (kl_in 912 (by decide +kernel) (by decide +kernel))
theorem kl_X6_274 : kMl RX6 274 yX5_amountBelow := Or.inl (kl_in 928 (by decide +kernel) (by decide +kernel))
theorem kl_X6_277 : kMl RX6 277 yX4_roomBelow := Or.inl (kl_in 935 (by decide +kernel) (by decide +kernel))
theorem kl_X6_280 : kMl RX6 280 yX3_testBelow := Or.inl (kl_in 940 (by decide +kernel) (by decide +kernel))
theorem kl_X0_21 : kMl RX0 21 yX0_isFull := Or.inl (kl_in 727 (by decide +kernel) (by decide +kernel))
theorem kl_X0_56 : kMl RX0 56 yX0_isWithin := Or.inl (kl_in 862 (by decide +kernel) (by decide +kernel))
theorem kl_X1_56 : kMl RX1 56 yX1_isSigned := Or.inl (kl_in 772 (by decide +kernel) (by decide +kernel))
theorem kl_X1_60 : kMl RX1 60 yX1_firstOpenStep := Or.inl (kl_in 792 (by decide +kernel) (by decide +kernel))
theorem kl_X1_64 : kMl RX1 64 yX1_signedSlots := Or.inl (kl_in 844 (by decide +kernel) (by decide +kernel))
theorem kl_X2_37 : kMl RX2 37 yX2_hasRoomFor := Or.inl (kl_in 416 (by decide +kernel) (by decide +kernel))
theorem kl_X2_41 : kMl RX2 41 yX3_clear := Or.inl (kl_in 437 (by decide +kernel) (by decide +kernel))
theorem kl_X2_46 : kMl RX2 46 yX2_advance := Or.inl (kl_in 438 (by decide +kernel) (by decide +kernel))
theorem kl_X2_49 : kMl RX2 49 yX2_readLimit := Or.inl (kl_in 514 (by decide +kernel) (by decide +kernel))
theorem kl_X2_53 : kMl RX2 53 yX2_readKind := Or.inl (kl_in 551 (by decide +kernel) (by decide +kernel))
theorem kl_X2_56 : kMl RX2 56 yX2_readEither := Or.inl (kl_in 564 (by decide +kernel) (by decide +kernel))
theorem kl_X2_60 : kMl RX2 60 yX2_readSteps := Or.inl (kl_in 597 (by decide +kernel) (by decide +kernel))
theorem kl_X2_63 : kMl RX2 63 yX3_hasRoomForRule := Or.inl (kl_in 555 (by decide +kernel) (by decide +kernel))
theorem kl_X2_67 : kMl RX2 67 yX2_wrongToken := Or.inl (kl_in 522 (by decide +kernel) (by decide +kernel))
theorem kl_X2_70 : kMl RX2 70 yX3_addRule := Or.inl (kl_in 559 (by decide +kernel) (by decide +kernel))
theorem kl_X2_74 : kMl RX2 74 yX2_readNeed := Or.inl (kl_in 601 (by decide +kernel) (by decide +kernel))
theorem kl_X2_77 : kMl RX2 77 yX2_take := Or.inl (kl_in 547 (by decide +kernel) (by decide +kernel))
theorem kl_X2_80 : kMl RX2 80 yX3_hasRoomForSlots := Or.inl (kl_in 605 (by decide +kernel) (by decide +kernel))
theorem kl_X2_83 : kMl RX2 83 yX2_wrong := Or.inl (kl_in 526 (by decide +kernel) (by decide +kernel))
theorem kl_X2_86 : kMl RX2 86 yX2_isRole := Or.inl (kl_in 530 (by decide +kernel) (by decide +kernel))
theorem kl_X2_89 : kMl RX2 89 yX3_addSlots := Or.inl (kl_in 609 (by decide +kernel) (by decide +kernel))
theorem kl_X2_93 : kMl RX2 93 yX2_readOne := Or.inl (kl_in 568 (by decide +kernel) (by decide +kernel))
theorem kl_X2_96 : kMl RX2 96 yX3_addOperation := Or.inl (kl_in 572 (by decide +kernel) (by decide +kernel))
theorem kl_X2_100 : kMl RX2 100 yX2_readSumTest := Or.inl (kl_in 576 (by decide +kernel) (by decide +kernel))
theorem kl_X2_103 : kMl RX2 103 yX2_readPlaceTest := Or.inl (kl_in 589 (by decide +kernel) (by decide +kernel))
theorem kl_X2_106 : kMl RX2 106 yX2_readUrgentTest := Or.inl (kl_in 593 (by decide +kernel) (by decide +kernel))
theorem kl_X2_109 : kMl RX2 109 yX3_hasRoomForTest := Or.inl (kl_in 580 (by decide +kernel) (by decide +kernel))
theorem kl_X2_112 : kMl RX2 112 yX3_addTest := Or.inl (kl_in 584 (by decide +kernel) (by decide +kernel))
theorem kl_X2_115 : kMl RX2 115 yX3_hasRoomForLimit := Or.inl (kl_in 518 (by decide +kernel) (by decide +kernel))
theorem kl_X2_118 : kMl RX2 118 yX3_hasLimit := Or.inl (kl_in 534 (by decide +kernel) (by decide +kernel))
theorem kl_X2_121 : kMl RX2 121 yX2_readAmount := Or.inl (kl_in 538 (by decide +kernel) (by decide +kernel))
theorem kl_X2_125 : kMl RX2 125 yX3_addLimit := Or.inl (kl_in 543 (by decide +kernel) (by decide +kernel))
theorem kl_X2_129 : kMl RX2 129 yX2_isLetter := Or.inl (kl_in 442 (by decide +kernel) (by decide +kernel))
theorem kl_X2_132 : kMl RX2 132 yX2_skipLetters := Or.inl (kl_in 446 (by decide +kernel) (by decide +kernel))
theorem kl_X2_135 : kMl RX2 135 yX2_wordToken := Or.inl (kl_in 450 (by decide +kernel) (by decide +kernel))
theorem kl_X2_139 : kMl RX2 139 yX2_isDigit := Or.inl (kl_in 503 (by decide +kernel) (by decide +kernel))
theorem kl_X2_142 : kMl RX2 142 yX2_readNumber := Or.inl (kl_in 507 (by decide +kernel) (by decide +kernel))
theorem kl_X2_145 : kMl RX2 145 yX2_isSign := Or.inl (kl_in 511 (by decide +kernel) (by decide +kernel))
theorem kl_X3_55 : kMl RX3 55 yX3_clear := Or.inl (kl_in 238 (by decide +kernel) (by decide +kernel))
theorem kl_X3_59 : kMl RX3 59 yX3_hasRoomForRule := Or.inl (kl_in 563 (by decide +kernel) (by decide +kernel))
theorem kl_X3_63 : kMl RX3 63 yX3_addOperation := Or.inl (kl_in 588 (by decide +kernel) (by decide +kernel))
theorem kl_X3_67 : kMl RX3 67 yX3_hasRoomForSlots := Or.inl (kl_in 613 (by decide +kernel) (by decide +kernel))
theorem kl_X3_71 : kMl RX3 71 yX1_addSlot := Or.inl (kl_in 760 (by decide +kernel) (by decide +kernel))
theorem kl_X3_76 : kMl RX3 76 yX3_holds := Or.inl (kl_in 748 (by decide +kernel) (by decide +kernel))
theorem kl_X3_80 : kMl RX3 80 yX3_passes := Or.inl (kl_in 752 (by decide +kernel) (by decide +kernel))
theorem kl_X3_83 : kMl RX3 83 yX3_changePoint := Or.inl (kl_in 944 (by decide +kernel) (by decide +kernel))
theorem kl_X4_59 : kMl RX4 59 yX0_size := Or.inl (kl_in 797 (by decide +kernel) (by decide +kernel))
theorem kl_X4_65 : kMl RX4 65 yX0_at := Or.inl (kl_in 801 (by decide +kernel) (by decide +kernel))
theorem kl_X4_69 : kMl RX4 69 yX4_takeOff := Or.inl (kl_in 802 (by decide +kernel) (by decide +kernel))
theorem kl_X4_78 : kMl RX4 78 yX1_isSigned := Or.inl (kl_in 806 (by decide +kernel) (by decide +kernel))
theorem kl_X4_91 : kMl RX4 91 yX0_isWithin := Or.inr (kl_nin 807 (by decide +kernel) (by decide +kernel))
theorem kl_X4_104 : kMl RX4 104 yX5_awayOn := Or.inl (kl_in 814 (by decide +kernel) (by decide +kernel))
theorem kl_X4_110 : kMl RX4 110 yX5_size := Or.inl (kl_in 815 (by decide +kernel) (by decide +kernel))
theorem kl_X4_111 : kMl RX4 111 yX5_actingFor := Or.inl (kl_in 819 (by decide +kernel) (by decide +kernel))
theorem kl_X4_115 : kMl RX4 115 yX5_hasRole := Or.inl (kl_in 820 (by decide +kernel) (by decide +kernel))
theorem kl_X4_119 : kMl RX4 119 yX4_room := Or.inl (kl_in 824 (by decide +kernel) (by decide +kernel))
theorem kl_X4_122 : kMl RX4 122 yX6_isIn := Or.inr (kl_nin 839 (by decide +kernel) (by decide +kernel))
theorem kl_X4_128 : kMl RX4 128 yX4_addOpen := Or.inl (kl_in 871 (by decide +kernel) (by decide +kernel))
theorem kl_X4_132 : kMl RX4 132 yX3_slotCount := Or.inl (kl_in 916 (by decide +kernel) (by decide +kernel))
theorem kl_X4_135 : kMl RX4 135 yX3_roleOfSlot := Or.inl (kl_in 920 (by decide +kernel) (by decide +kernel))
theorem kl_X4_138 : kMl RX4 138 yX4_seekFrom := Or.inl (kl_in 879 (by decide +kernel) (by decide +kernel))
theorem kl_X5_53 : kMl RX5 53 yX5_has := Or.inl (kl_in 338 (by decide +kernel) (by decide +kernel))
theorem kl_X5_57 : kMl RX5 57 yX6_isIn := Or.inr (kl_nin 392 (by decide +kernel) (by decide +kernel))
theorem kl_X5_61 : kMl RX5 61 yX5_areRoles := Or.inl (kl_in 327 (by decide +kernel) (by decide +kernel))
theorem kl_X5_64 : kMl RX5 64 yX5_areDays := Or.inl (kl_in 350 (by decide +kernel) (by decide +kernel))
theorem kl_X5_67 : kMl RX5 67 yX6_isSum := Or.inr (kl_nin 362 (by decide +kernel) (by decide +kernel))
theorem kl_X5_70 : kMl RX5 70 yX5_deputiesOf := Or.inl (kl_in 388 (by decide +kernel) (by decide +kernel))
theorem kl_X5_74 : kMl RX5 74 yX5_standsOn := Or.inl (kl_in 395 (by decide +kernel) (by decide +kernel))
theorem kl_law_9 : kMl "PenRoomLaw" 9 yX6_init := Or.inl (kl_in 88 (by decide +kernel) (by decide +kernel))
theorem kl_law_12 : kMl "PenRoomLaw" 12 yX7_init := Or.inl (kl_in 970 (by decide +kernel) (by decide +kernel))
theorem kl_law_13 : kMl "PenRoomLaw" 13 yX6_person := Or.inl (kl_in 319 (by decide +kernel) (by decide +kernel))
theorem kl_law_17 : kMl "PenRoomLaw" 17 yX7_person := Or.inl (kl_in 1198 (by decide +kernel) (by decide +kernel))
theorem kl_law_18 : kMl "PenRoomLaw" 18 yX6_roles := Or.inl (kl_in 330 (by decide +kernel) (by decide +kernel))
theorem kl_law_22 : kMl "PenRoomLaw" 22 yX7_roles := Or.inl (kl_in 1202 (by decide +kernel) (by decide +kernel))
theorem kl_law_23 : kMl "PenRoomLaw" 23 yX6_away := Or.inl (kl_in 342 (by decide +kernel) (by decide +kernel))
theorem kl_law_27 : kMl "PenRoomLaw" 27 yX7_away := Or.inl (kl_in 1210 (by decide +kernel) (by decide +kernel))
theorem kl_law_28 : kMl "PenRoomLaw" 28 yX6_deputy := Or.inl (kl_in 354 (by decide +kernel) (by decide +kernel))
theorem kl_law_32 : kMl "PenRoomLaw" 32 yX7_deputy := Or.inl (kl_in 1218 (by decide +kernel) (by decide +kernel))
theorem kl_law_33 : kMl "PenRoomLaw" 33 yX6_end := Or.inl (kl_in 366 (by decide +kernel) (by decide +kernel))
theorem kl_law_37 : kMl "PenRoomLaw" 37 yX7_end := Or.inl (kl_in 1223 (by decide +kernel) (by decide +kernel))
theorem kl_law_38 : kMl "PenRoomLaw" 38 yX6_acts := Or.inl (kl_in 374 (by decide +kernel) (by decide +kernel))
theorem kl_law_42 : kMl "PenRoomLaw" 42 yX7_acts := Or.inl (kl_in 1227 (by decide +kernel) (by decide +kernel))
theorem kl_law_43 : kMl "PenRoomLaw" 43 yX6_later := Or.inl (kl_in 399 (by decide +kernel) (by decide +kernel))
theorem kl_law_46 : kMl "PenRoomLaw" 46 yX7_later := Or.inl (kl_in 1239 (by decide +kernel) (by decide +kernel))
theorem kl_law_47 : kMl "PenRoomLaw" 47 yX6_feed := Or.inl (kl_in 404 (by decide +kernel) (by decide +kernel))
theorem kl_law_50 : kMl "PenRoomLaw" 50 yX7_feed := Or.inl (kl_in 1482 (by decide +kernel) (by decide +kernel))
theorem kl_law_51 : kMl "PenRoomLaw" 51 yX6_cut := Or.inl (kl_in 421 (by decide +kernel) (by decide +kernel))
theorem kl_law_54 : kMl "PenRoomLaw" 54 yX7_cut := Or.inl (kl_in 1486 (by decide +kernel) (by decide +kernel))
theorem kl_law_55 : kMl "PenRoomLaw" 55 yX6_rules := Or.inl (kl_in 429 (by decide +kernel) (by decide +kernel))
theorem kl_law_59 : kMl "PenRoomLaw" 59 yX7_rules := Or.inl (kl_in 1243 (by decide +kernel) (by decide +kernel))
theorem kl_law_60 : kMl "PenRoomLaw" 60 yX6_fault := Or.inl (kl_in 618 (by decide +kernel) (by decide +kernel))
theorem kl_law_63 : kMl "PenRoomLaw" 63 yX7_fault := Or.inl (kl_in 1357 (by decide +kernel) (by decide +kernel))
theorem kl_law_64 : kMl "PenRoomLaw" 64 yX6_span := Or.inl (kl_in 630 (by decide +kernel) (by decide +kernel))
theorem kl_law_67 : kMl "PenRoomLaw" 67 yX7_span := Or.inl (kl_in 1361 (by decide +kernel) (by decide +kernel))
theorem kl_law_68 : kMl "PenRoomLaw" 68 yX6_paper := Or.inl (kl_in 634 (by decide +kernel) (by decide +kernel))
theorem kl_law_72 : kMl "PenRoomLaw" 72 yX7_paper := Or.inl (kl_in 1365 (by decide +kernel) (by decide +kernel))
theorem kl_law_73 : kMl "PenRoomLaw" 73 yX6_of := Or.inl (kl_in 764 (by decide +kernel) (by decide +kernel))
theorem kl_law_77 : kMl "PenRoomLaw" 77 yX7_of := Or.inl (kl_in 1392 (by decide +kernel) (by decide +kernel))
theorem kl_law_78 : kMl "PenRoomLaw" 78 yX6_slot := Or.inl (kl_in 780 (by decide +kernel) (by decide +kernel))
theorem kl_law_81 : kMl "PenRoomLaw" 81 yX7_slot := Or.inl (kl_in 1408 (by decide +kernel) (by decide +kernel))
theorem kl_law_82 : kMl "PenRoomLaw" 82 yX6_sign := Or.inl (kl_in 784 (by decide +kernel) (by decide +kernel))
theorem kl_law_86 : kMl "PenRoomLaw" 86 yX7_sign := Or.inl (kl_in 1421 (by decide +kernel) (by decide +kernel))
theorem kl_law_87 : kMl "PenRoomLaw" 87 yX6_back := Or.inl (kl_in 845 (by decide +kernel) (by decide +kernel))
theorem kl_law_90 : kMl "PenRoomLaw" 90 yX7_back := Or.inl (kl_in 1442 (by decide +kernel) (by decide +kernel))
theorem kl_law_91 : kMl "PenRoomLaw" 91 yX6_withdraw := Or.inl (kl_in 849 (by decide +kernel) (by decide +kernel))
theorem kl_law_94 : kMl "PenRoomLaw" 94 yX7_withdraw := Or.inl (kl_in 1446 (by decide +kernel) (by decide +kernel))
theorem kl_law_95 : kMl "PenRoomLaw" 95 yX6_signed := Or.inl (kl_in 853 (by decide +kernel) (by decide +kernel))
theorem kl_law_99 : kMl "PenRoomLaw" 99 yX7_signed := Or.inl (kl_in 1412 (by decide +kernel) (by decide +kernel))
theorem kl_law_100 : kMl "PenRoomLaw" 100 yX6_way := Or.inl (kl_in 863 (by decide +kernel) (by decide +kernel))
theorem kl_law_103 : kMl "PenRoomLaw" 103 yX7_way := Or.inl (kl_in 1450 (by decide +kernel) (by decide +kernel))
theorem kl_law_104 : kMl "PenRoomLaw" 104 yX6_wayOf := Or.inl (kl_in 888 (by decide +kernel) (by decide +kernel))
theorem kl_law_107 : kMl "PenRoomLaw" 107 yX7_wayOf := Or.inl (kl_in 1458 (by decide +kernel) (by decide +kernel))
theorem kl_law_108 : kMl "PenRoomLaw" 108 yX6_holders := Or.inl (kl_in 892 (by decide +kernel) (by decide +kernel))
theorem kl_law_111 : kMl "PenRoomLaw" 111 yX7_holders := Or.inl (kl_in 1462 (by decide +kernel) (by decide +kernel))
theorem kl_law_112 : kMl "PenRoomLaw" 112 yX6_greatest := Or.inl (kl_in 900 (by decide +kernel) (by decide +kernel))
theorem kl_law_116 : kMl "PenRoomLaw" 116 yX7_greatest := Or.inl (kl_in 1466 (by decide +kernel) (by decide +kernel))
theorem kl_law_117 : kMl "PenRoomLaw" 117 yX6_about := Or.inl (kl_in 950 (by decide +kernel) (by decide +kernel))
theorem kl_law_120 : kMl "PenRoomLaw" 120 yX7_about := Or.inl (kl_in 1478 (by decide +kernel) (by decide +kernel))
theorem kl_X7_164 : kMl RX7 164 yX7_isPerson := Or.inl (kl_in 1206 (by decide +kernel) (by decide +kernel))
theorem kl_X7_169 : kMl RX7 169 yX7_isSpan := Or.inl (kl_in 1214 (by decide +kernel) (by decide +kernel))
theorem kl_X7_180 : kMl RX7 180 yX7_isAway := Or.inl (kl_in 1235 (by decide +kernel) (by decide +kernel))
theorem kl_X7_183 : kMl RX7 183 yX7_actsFor := Or.inl (kl_in 1231 (by decide +kernel) (by decide +kernel))
theorem kl_X7_202 : kMl RX7 202 yX7_byteAt := Or.inl (kl_in 1251 (by decide +kernel) (by decide +kernel))
theorem kl_X7_209 : kMl RX7 209 yX7_isLetter := Or.inl (kl_in 1255 (by decide +kernel) (by decide +kernel))
theorem kl_X7_216 : kMl RX7 216 yX7_isDigit := Or.inl (kl_in 1258 (by decide +kernel) (by decide +kernel))
theorem kl_X7_222 : kMl RX7 222 yX7_fails := Or.inl (kl_in 1279 (by decide +kernel) (by decide +kernel))
theorem kl_X7_226 : kMl RX7 226 yX7_is := Or.inl (kl_in 1308 (by decide +kernel) (by decide +kernel))
theorem kl_X7_229 : kMl RX7 229 yX7_next := Or.inl (kl_in 1247 (by decide +kernel) (by decide +kernel))
theorem kl_X7_232 : kMl RX7 232 yX7_wrong := Or.inl (kl_in 1275 (by decide +kernel) (by decide +kernel))
theorem kl_X7_235 : kMl RX7 235 yX7_isGood := Or.inl (kl_in 1261 (by decide +kernel) (by decide +kernel))
theorem kl_X7_278 : kMl RX7 278 yX7_readLine := Or.inl (kl_in 1265 (by decide +kernel) (by decide +kernel))
theorem kl_X7_283 : kMl RX7 283 yX7_isWord := Or.inl (kl_in 1270 (by decide +kernel) (by decide +kernel))
theorem kl_X7_289 : kMl RX7 289 yX7_readRule := Or.inl (kl_in 1283 (by decide +kernel) (by decide +kernel))
theorem kl_X7_292 : kMl RX7 292 yX7_readLimit := Or.inl (kl_in 1351 (by decide +kernel) (by decide +kernel))
theorem kl_X7_295 : kMl RX7 295 yX7_must := Or.inl (kl_in 1320 (by decide +kernel) (by decide +kernel))
theorem kl_X7_299 : kMl RX7 299 yX7_roleHere := Or.inl (kl_in 1338 (by decide +kernel) (by decide +kernel))
theorem kl_X7_307 : kMl RX7 307 yX7_numeral := Or.inl (kl_in 1324 (by decide +kernel) (by decide +kernel))
theorem kl_X7_310 : kMl RX7 310 yX7_kindHere := Or.inl (kl_in 1287 (by decide +kernel) (by decide +kernel))
theorem kl_X7_315 : kMl RX7 315 yX7_e := Or.inl (kl_in 1296 (by decide +kernel) (by decide +kernel))
theorem kl_X7_318 : kMl RX7 318 yX7_readStep := Or.inl (kl_in 1334 (by decide +kernel) (by decide +kernel))
theorem kl_X7_331 : kMl RX7 331 yX7_pile := Or.inl (kl_in 1300 (by decide +kernel) (by decide +kernel))
theorem kl_X7_334 : kMl RX7 334 yX7_one := Or.inl (kl_in 1304 (by decide +kernel) (by decide +kernel))
theorem kl_X7_337 : kMl RX7 337 yX7_behind := Or.inl (kl_in 1328 (by decide +kernel) (by decide +kernel))
theorem kl_X7_348 : kMl RX7 348 yX7_put := Or.inl (kl_in 1316 (by decide +kernel) (by decide +kernel))
theorem kl_X7_353 : kMl RX7 353 yX7_holds := Or.inl (kl_in 1388 (by decide +kernel) (by decide +kernel))
theorem kl_X7_363 : kMl RX7 363 yX7_others := Or.inl (kl_in 1380 (by decide +kernel) (by decide +kernel))
theorem kl_X7_367 : kMl RX7 367 yX7_ruleFor := Or.inl (kl_in 1384 (by decide +kernel) (by decide +kernel))
theorem kl_X7_371 : kMl RX7 371 yX7_begin := Or.inl (kl_in 1376 (by decide +kernel) (by decide +kernel))
theorem kl_X7_374 : kMl RX7 374 yX7_canBe := Or.inl (kl_in 1369 (by decide +kernel) (by decide +kernel))
theorem kl_X7_378 : kMl RX7 378 yX7_set := Or.inl (kl_in 1372 (by decide +kernel) (by decide +kernel))
theorem kl_X7_382 : kMl RX7 382 yX7_isPaper := Or.inl (kl_in 1396 (by decide +kernel) (by decide +kernel))
theorem kl_X7_385 : kMl RX7 385 yX7_signedOf := Or.inl (kl_in 1400 (by decide +kernel) (by decide +kernel))
theorem kl_X7_388 : kMl RX7 388 yX7_stepOf := Or.inl (kl_in 1404 (by decide +kernel) (by decide +kernel))
theorem kl_X7_393 : kMl RX7 393 yX7_signedBy := Or.inl (kl_in 1417 (by decide +kernel) (by decide +kernel))
theorem kl_X7_402 : kMl RX7 402 yX7_room := Or.inl (kl_in 1437 (by decide +kernel) (by decide +kernel))
theorem kl_X7_406 : kMl RX7 406 yX7_isOpen := Or.inl (kl_in 1425 (by decide +kernel) (by decide +kernel))
theorem kl_X7_409 : kMl RX7 409 yX7_lookAt := Or.inl (kl_in 1429 (by decide +kernel) (by decide +kernel))
theorem kl_X7_412 : kMl RX7 412 yX7_fits := Or.inl (kl_in 1433 (by decide +kernel) (by decide +kernel))
theorem kl_X7_419 : kMl RX7 419 yX7_seek := Or.inl (kl_in 1454 (by decide +kernel) (by decide +kernel))
theorem kl_X7_433 : kMl RX7 433 yX7_mayBe := Or.inl (kl_in 1474 (by decide +kernel) (by decide +kernel))
theorem kl_X7_437 : kMl RX7 437 yX7_nextBelow := Or.inl (kl_in 1470 (by decide +kernel) (by decide +kernel))
theorem kn_X6_96 : Cond.constant RX6 96 100000 ∈ kl_ws := kl_in 403 (by decide +kernel) (by decide +kernel)
theorem kn_X6_224 : Cond.constant RX6 224 1000000 ∈ kl_ws := kl_in 365 (by decide +kernel) (by decide +kernel)
theorem kn_X2_128 : Cond.constant RX2 128 1000000000 ∈ kl_ws := kl_in 542 (by decide +kernel) (by decide +kernel)
theorem kn_X3_58 : Cond.constant RX3 58 1000000000 ∈ kl_ws := kl_in 242 (by decide +kernel) (by decide +kernel)
theorem kn_X4_141 : Cond.constant RX4 141 100000 ∈ kl_ws := kl_in 883 (by decide +kernel) (by decide +kernel)
theorem kn_X5_83 : Cond.constant RX5 83 100000 ∈ kl_ws := kl_in 353 (by decide +kernel) (by decide +kernel)
theorem kn_X7_168 : Cond.constant RX7 168 100000 ∈ kl_ws := kl_in 1217 (by decide +kernel) (by decide +kernel)
theorem kn_X7_176 : Cond.constant RX7 176 1000000 ∈ kl_ws := kl_in 1222 (by decide +kernel) (by decide +kernel)
theorem kn_X6_197 : Cond.constantLong RX6 197 (-1) ∈ kl_ws := kl_in 857 (by decide +kernel) (by decide +kernel)
theorem kn_X7_239 : Cond.constantLong RX7 239 1651076204 ∈ kl_ws := kl_in 1291 (by decide +kernel) (by decide +kernel)
theorem kn_X7_241 : Cond.constantLong RX7 241 478660552050 ∈ kl_ws := kl_in 1292 (by decide +kernel) (by decide +kernel)
theorem kn_X7_243 : Cond.constantLong RX7 243 7364985 ∈ kl_ws := kl_in 1293 (by decide +kernel) (by decide +kernel)
theorem kn_X7_245 : Cond.constantLong RX7 245 1953655152 ∈ kl_ws := kl_in 1294 (by decide +kernel) (by decide +kernel)
theorem kn_X7_247 : Cond.constantLong RX7 247 427020350059 ∈ kl_ws := kl_in 1342 (by decide +kernel) (by decide +kernel)
theorem kn_X7_249 : Cond.constantLong RX7 249 1751474532 ∈ kl_ws := kl_in 1343 (by decide +kernel) (by decide +kernel)
theorem kn_X7_251 : Cond.constantLong RX7 251 426953500006 ∈ kl_ws := kl_in 1344 (by decide +kernel) (by decide +kernel)
theorem kn_X7_253 : Cond.constantLong RX7 253 470020941177 ∈ kl_ws := kl_in 1345 (by decide +kernel) (by decide +kernel)
theorem kn_X7_255 : Cond.constantLong RX7 255 7102839 ∈ kl_ws := kl_in 1346 (by decide +kernel) (by decide +kernel)
theorem kn_X7_257 : Cond.constantLong RX7 257 422775452260 ∈ kl_ws := kl_in 1347 (by decide +kernel) (by decide +kernel)
theorem kn_X7_259 : Cond.constantLong RX7 259 444350952036 ∈ kl_ws := kl_in 1348 (by decide +kernel) (by decide +kernel)
theorem kn_X7_261 : Cond.constantLong RX7 261 478745093490 ∈ kl_ws := kl_in 1349 (by decide +kernel) (by decide +kernel)
theorem kn_X7_281 : Cond.constantLong RX7 281 1920298085 ∈ kl_ws := kl_in 1269 (by decide +kernel) (by decide +kernel)
theorem kn_X7_287 : Cond.constantLong RX7 287 465625246068 ∈ kl_ws := kl_in 1274 (by decide +kernel) (by decide +kernel)
theorem kn_X7_303 : Cond.constantLong RX7 303 6578553 ∈ kl_ws := kl_in 1355 (by decide +kernel) (by decide +kernel)
theorem kn_X7_305 : Cond.constantLong RX7 305 470020945000 ∈ kl_ws := kl_in 1356 (by decide +kernel) (by decide +kernel)
theorem kn_X7_313 : Cond.constantLong RX7 313 2003330414 ∈ kl_ws := kl_in 1295 (by decide +kernel) (by decide +kernel)
theorem kn_X7_321 : Cond.constantLong RX7 321 1952998766 ∈ kl_ws := kl_in 1350 (by decide +kernel) (by decide +kernel)
theorem kn_X7_323 : Cond.constantLong RX7 323 6385252 ∈ kl_ws := kl_in 1332 (by decide +kernel) (by decide +kernel)
theorem kn_X7_340 : Cond.constantLong RX7 340 7237492 ∈ kl_ws := kl_in 1312 (by decide +kernel) (by decide +kernel)
theorem kn_X7_342 : Cond.constantLong RX7 342 7566701 ∈ kl_ws := kl_in 1313 (by decide +kernel) (by decide +kernel)
theorem kn_X7_344 : Cond.constantLong RX7 344 482854658917 ∈ kl_ws := kl_in 1314 (by decide +kernel) (by decide +kernel)
theorem kn_X7_346 : Cond.constantLong RX7 346 129134221422196 ∈ kl_ws := kl_in 1315 (by decide +kernel) (by decide +kernel)
theorem kn_X7_351 : Cond.constantLong RX7 351 28530 ∈ kl_ws := kl_in 1333 (by decide +kernel) (by decide +kernel)
theorem kn_X7_391 : Cond.constantLong RX7 391 (-1) ∈ kl_ws := kl_in 1416 (by decide +kernel) (by decide +kernel)
theorem kn_X7_397 : Cond.constantLong RX7 397 1000000 ∈ kl_ws := kl_in 1441 (by decide +kernel) (by decide +kernel)
theorem kk_X6_9 : Cond.classLink RX6 9 RX5 ∈ kl_ws := kl_in 94 (by decide +kernel) (by decide +kernel)
theorem kk_X6_16 : Cond.classLink RX6 16 RX0 ∈ kl_ws := kl_in 142 (by decide +kernel) (by decide +kernel)
theorem kk_X6_23 : Cond.classLink RX6 23 RX2 ∈ kl_ws := kl_in 157 (by decide +kernel) (by decide +kernel)
theorem kk_X6_30 : Cond.classLink RX6 30 RX4 ∈ kl_ws := kl_in 189 (by decide +kernel) (by decide +kernel)
theorem kk_X6_39 : Cond.classLink RX6 39 RX3 ∈ kl_ws := kl_in 232 (by decide +kernel) (by decide +kernel)
theorem kk_X6_127 : Cond.classLink RX6 127 RX1 ∈ kl_ws := kl_in 646 (by decide +kernel) (by decide +kernel)
theorem kk_X0_9 : Cond.classLink RX0 9 RX1 ∈ kl_ws := kl_in 148 (by decide +kernel) (by decide +kernel)
theorem kk_law_7 : Cond.classLink "PenRoomLaw" 7 RX6 ∈ kl_ws := kl_in 86 (by decide +kernel) (by decide +kernel)
theorem kk_law_10 : Cond.classLink "PenRoomLaw" 10 RX7 ∈ kl_ws := kl_in 968 (by decide +kernel) (by decide +kernel)
theorem ki_6 : Cond.initialized RX6 ∈ kl_ws := kl_in 73 (by decide +kernel) (by decide +kernel)
theorem ki_5 : Cond.initialized RX5 ∈ kl_ws := kl_in 74 (by decide +kernel) (by decide +kernel)
theorem ki_0 : Cond.initialized RX0 ∈ kl_ws := kl_in 75 (by decide +kernel) (by decide +kernel)
theorem ki_2 : Cond.initialized RX2 ∈ kl_ws := kl_in 76 (by decide +kernel) (by decide +kernel)
theorem ki_4 : Cond.initialized RX4 ∈ kl_ws := kl_in 77 (by decide +kernel) (by decide +kernel)
theorem ki_3 : Cond.initialized RX3 ∈ kl_ws := kl_in 78 (by decide +kernel) (by decide +kernel)
theorem ki_7 : Cond.initialized RX7 ∈ kl_ws := kl_in 79 (by decide +kernel) (by decide +kernel)
theorem ki_1 : Cond.initialized RX1 ∈ kl_ws := kl_in 84 (by decide +kernel) (by decide +kernel)
theorem kx_6 : Cond.instantiable RX6 10 ∈ kl_ws := kl_in 87 (by decide +kernel) (by decide +kernel)
theorem kj_6 : Cond.methodLink RX6 3 objectInit ∈ kl_ws := kl_in 91 (by decide +kernel) (by decide +kernel)
theorem kx_5 : Cond.instantiable RX5 13 ∈ kl_ws := kl_in 95 (by decide +kernel) (by decide +kernel)
theorem kj_5 : Cond.methodLink RX5 3 objectInit ∈ kl_ws := kl_in 99 (by decide +kernel) (by decide +kernel)
theorem kr_int : Cond.arrayClass .int ∈ kl_ws := kl_in 140 (by decide +kernel) (by decide +kernel)
theorem kr_boolean : Cond.arrayClass .boolean ∈ kl_ws := kl_in 141 (by decide +kernel) (by decide +kernel)
theorem kx_0 : Cond.instantiable RX0 2 ∈ kl_ws := kl_in 143 (by decide +kernel) (by decide +kernel)
theorem kj_0 : Cond.methodLink RX0 3 objectInit ∈ kl_ws := kl_in 147 (by decide +kernel) (by decide +kernel)
theorem kr_paper : Cond.arrayOver (.object RX1) ∈ lw_tbl := List.mem_of_getElem? (i := 149) (by decide +kernel)
theorem kx_2 : Cond.instantiable RX2 8 ∈ kl_ws := kl_in 158 (by decide +kernel) (by decide +kernel)
theorem kj_2 : Cond.methodLink RX2 3 objectInit ∈ kl_ws := kl_in 162 (by decide +kernel) (by decide +kernel)
theorem kr_byte : Cond.arrayClass .byte ∈ kl_ws := kl_in 188 (by decide +kernel) (by decide +kernel)
theorem kx_4 : Cond.instantiable RX4 12 ∈ kl_ws := kl_in 190 (by decide +kernel) (by decide +kernel)
theorem kj_4 : Cond.methodLink RX4 3 objectInit ∈ kl_ws := kl_in 194 (by decide +kernel) (by decide +kernel)
theorem kx_3 : Cond.instantiable RX3 14 ∈ kl_ws := kl_in 233 (by decide +kernel) (by decide +kernel)
theorem kj_3 : Cond.methodLink RX3 3 objectInit ∈ kl_ws := kl_in 237 (by decide +kernel) (by decide +kernel)
theorem kx_1 : Cond.instantiable RX1 14 ∈ kl_ws := kl_in 647 (by decide +kernel) (by decide +kernel)
theorem kj_1 : Cond.methodLink RX1 3 objectInit ∈ kl_ws := kl_in 651 (by decide +kernel) (by decide +kernel)
theorem kx_7 : Cond.instantiable RX7 74 ∈ kl_ws := kl_in 969 (by decide +kernel) (by decide +kernel)
theorem kj_7 : Cond.methodLink RX7 1 objectInit ∈ kl_ws := kl_in 973 (by decide +kernel) (by decide +kernel)
theorem kr_long : Cond.arrayClass .long ∈ kl_ws := kl_in 1197 (by decide +kernel) (by decide +kernel)
theorem kj_obj : Cond.instanceMethod objectInit ∈ kl_ws := kl_in 92 (by decide +kernel) (by decide +kernel)
theorem kj_cod : Cond.code objectInit ⟨#[0xb1]⟩ 1 none ∈ kl_ws := kl_in 93 (by decide +kernel) (by decide +kernel)
end
section
/-! THE MINI MACHINE: its heap, its relation to the real one; generated by wip/gen/part03.py -/
abbrev kS : Type := Nat × (Nat → Nat → Int32) × (Nat → Nat → Int64) × (Nat → Nat → Option Nat)
def zN (σ : kS) : Nat := σ.1
def zI (σ : kS) (a k : Nat) : Int32 := σ.2.1 a k
def zL (σ : kS) (a k : Nat) : Int64 := σ.2.2.1 a k
def zR (σ : kS) (a k : Nat) : Option Nat := σ.2.2.2 a k
def u2 {α : Type} (f : Nat → Nat → α) (a k : Nat) (v : α) : Nat → Nat → α := fun x y => if x = a ∧ y = k then v else f x y
def u1 {α : Type} (f : Nat → Nat → α) (a : Nat) (v : α) : Nat → Nat → α := fun x y => if x = a then v else f x y
def sI (σ : kS) (a k : Nat) (v : Int32) : kS := (σ.1, u2 σ.2.1 a k v, σ.2.2.1, σ.2.2.2)
def sL (σ : kS) (a k : Nat) (v : Int64) : kS := (σ.1, σ.2.1, u2 σ.2.2.1 a k v, σ.2.2.2)
def sR (σ : kS) (a k : Nat) (v : Option Nat) : kS := (σ.1, σ.2.1, σ.2.2.1, u2 σ.2.2.2 a k v)
def sW (σ : kS) : kS := (σ.1 + 1, u1 σ.2.1 σ.1 0, u1 σ.2.2.1 σ.1 0, u1 σ.2.2.2 σ.1 none)
def kShL : List ((FieldType × Nat) ⊕ Nat) := [.inr 6, .inr 5, .inl (.int, 14), .inl (.int, 30), .inl (.int, 30), .inl (.int, 30), .inl (.int, 30), .inl (.int, 30), .inl (.int, 30), .inl (.int, 30), .inl (.int, 30), .inl (.boolean, 30), .inr 0, .inl (.object RX1, 40), .inr 2, .inl (.byte, 1000), .inr 4, .inl (.int, 112), .inl (.int, 112), .inl (.int, 8), .inl (.int, 14), .inl (.int, 8), .inl (.int, 8), .inl (.int, 8), .inl (.int, 8), .inr 3, .inl (.int, 20), .inl (.int, 20), .inl (.int, 20), .inl (.int, 20), .inl (.int, 160), .inl (.int, 160), .inl (.int, 400), .inl (.int, 400), .inl (.int, 8), .inl (.int, 8), .inr 3, .inl (.int, 20), .inl (.int, 20), .inl (.int, 20), .inl (.int, 20), .inl (.int, 160), .inl (.int, 160), .inl (.int, 400), .inl (.int, 400), .inl (.int, 8), .inl (.int, 8), .inl (.int, 8), .inl (.int, 8), .inr 7, .inl (.int, 14), .inl (.int, 30), .inl (.int, 30), .inl (.int, 30), .inl (.int, 30), .inl (.int, 30), .inl (.int, 30), .inl (.int, 30), .inl (.int, 30), .inl (.boolean, 30), .inl (.byte, 1020), .inl (.byte, 1000), .inl (.int, 40), .inl (.int, 40), .inl (.int, 40), .inl (.int, 40), .inl (.int, 320), .inl (.int, 320), .inl (.int, 16), .inl (.int, 16), .inl (.int, 2000), .inl (.int, 2000), .inl (.int, 2), .inl (.int, 2), .inl (.boolean, 16), .inl (.int, 60), .inl (.boolean, 70), .inl (.int, 41), .inl (.int, 41), .inl (.int, 41), .inl (.int, 41), .inl (.int, 41), .inl (.int, 41), .inl (.int, 41), .inl (.int, 41), .inl (.int, 328), .inl (.int, 328), .inl (.int, 328), .inl (.int, 328), .inl (.int, 328), .inl (.long, 41), .inl (.boolean, 41), .inl (.int, 14), .inl (.int, 8), .inl (.int, 8), .inl (.int, 9), .inl (.int, 8), .inl (.int, 8)]
def kSh (a : Nat) : (FieldType × Nat) ⊕ Nat := match kShL[a]? with
  | some x => x
  | none => if (a - 98) % 6 = 0 then .inr 1 else .inl (.int, 8)
def kd (ty : FieldType) : Nat := match ty with
  | .long => 1
  | .object _ => 2
  | .array _ => 2
  | _ => 0
def kv (σ : kS) (t a k : Nat) : Value := match t with
  | 0 => .int (zI σ a k)
  | 1 => .long (zL σ a k)
  | _ => va_rf (zR σ a k)
/-- n0, the script, the text, its bytes, the array classes, the tables' numbers -/
abbrev kT : Type := Nat × Nat × Nat × Nat × (FieldType → ClassId) × va_G
def kr (θ : kT) (v : Value) : Value := match v with
  | .ref k => .ref (θ.1 + k)
  | .float u => if u = 0 then .ref θ.2.1 else if u = 1 then .ref θ.2.2.1 else .ref θ.2.2.2.1
  | v => v
def kA (θ : kT) (σ : kS) (ty : FieldType) (a : Nat) : (Nat → Int32) ⊕ (Nat → Int64) ⊕ (Nat → UInt32) ⊕ (Nat → UInt64) ⊕ (Nat → Option Nat) := match kd ty with
  | 0 => .inl (zI σ a)
  | 1 => .inr (.inl (zL σ a))
  | _ => .inr (.inr (.inr (.inr (fun j => (zR σ a j).map (θ.1 + ·)))))
def kF (θ : kT) (σ : kS) (ci a : Nat) : List Value := (List.range (kNn ci)).map (fun k => kr θ (kv σ (kd (ktY ci k)) a k))
def kE (θ : kT) (σ : kS) (a : Nat) : va_E := match kSh a with
  | .inr ci => .inr (ci, kF θ σ ci a)
  | .inl q => .inl (θ.2.2.2.2.1 q.1, q.2, kA θ σ q.1 a)
def kW (θ : kT) (σ : kS) : va_W := (List.range (zN σ)).map (fun a => (θ.1 + a, kE θ σ a))
abbrev kAr (θ : kT) : Nat → Prop := fun q => θ.1 ≤ q
theorem kW_at {θ : kT} {σ : kS} {a : Nat} (h : a < zN σ) : (kW θ σ)[a]? = some (θ.1 + a, kE θ σ a) := by simp [kW, h]
theorem kW_get {θ : kT} {σ : kS} {a : Nat} {q : Nat × va_E} (h : (kW θ σ)[a]? = some q) : a < zN σ ∧ q = (θ.1 + a, kE θ σ a) := by
  have hl : a < zN σ := by
    have h1 := (List.getElem?_eq_some_iff.mp h).1
    simpa [kW] using h1
  rw [kW_at hl] at h
  exact ⟨hl, (Option.some.inj h).symm⟩
theorem kW_set {θ : kT} {σ σ' : kS} {a : Nat} (ha : a < zN σ) (hz : zN σ' = zN σ) (ho : ∀ x, x ≠ a → kE θ σ' x = kE θ σ x) : (kW θ σ).set a (θ.1 + a, kE θ σ' a) = kW θ σ' := by
  apply List.ext_getElem?
  intro i
  rw [List.getElem?_set]
  by_cases h : a = i
  · subst h
    rw [if_pos rfl, kW_at (by rw [hz]; exact ha), if_pos (by simpa [kW] using ha)]
  · rw [if_neg h]
    by_cases hi : i < zN σ
    · rw [kW_at hi, kW_at (by rw [hz]; exact hi), ho i (fun e => h e.symm)]
    · have e1 : (kW θ σ)[i]? = none := by simp [kW]; omega
      have e2 : (kW θ σ')[i]? = none := by simp [kW, hz]; omega
      rw [e1, e2]
theorem kW_D {θ : kT} {σ : kS} : va_D (kAr θ) (kW θ σ) := by
  refine ⟨fun i j p q hi hj e => ?_, fun k q h => ?_⟩
  · obtain ⟨-, rfl⟩ := kW_get hi
    obtain ⟨-, rfl⟩ := kW_get hj
    have e2 : θ.1 + i = θ.1 + j := e
    omega
  · obtain ⟨-, rfl⟩ := kW_get h
    exact Nat.le_add_right _ _
theorem kW_new {θ : kT} {σ : kS} (ho : ∀ x, x < zN σ → kE θ (sW σ) x = kE θ σ x) : kW θ (sW σ) = kW θ σ ++ [(θ.1 + zN σ, kE θ (sW σ) (zN σ))] := by
  show (List.range (zN σ + 1)).map _ = _
  rw [List.range_succ, List.map_append]
  congr 1
  apply List.map_congr_left
  intro x hx
  rw [ho x (List.mem_range.mp hx)]
theorem kI_ne {σ : kS} {a k : Nat} {v : Int32} {x y : Nat} (h : x ≠ a) : zI (sI σ a k v) x y = zI σ x y := by simp [zI, sI, u2, h]
theorem kI_eq {σ : kS} {a k : Nat} {v : Int32} {y : Nat} : zI (sI σ a k v) a y = if y = k then v else zI σ a y := by simp [zI, sI, u2]
theorem kL_ne {σ : kS} {a k : Nat} {v : Int64} {x y : Nat} (h : x ≠ a) : zL (sL σ a k v) x y = zL σ x y := by simp [zL, sL, u2, h]
theorem kL_eq {σ : kS} {a k : Nat} {v : Int64} {y : Nat} : zL (sL σ a k v) a y = if y = k then v else zL σ a y := by simp [zL, sL, u2]
theorem kR_ne {σ : kS} {a k : Nat} {v : Option Nat} {x y : Nat} (h : x ≠ a) : zR (sR σ a k v) x y = zR σ x y := by simp [zR, sR, u2, h]
theorem kR_eq {σ : kS} {a k : Nat} {v : Option Nat} {y : Nat} : zR (sR σ a k v) a y = if y = k then v else zR σ a y := by simp [zR, sR, u2]
/-- cells that are not touched -/
theorem kE_same {θ : kT} {σ σ' : kS} {x : Nat} (hI : ∀ k, zI σ' x k = zI σ x k) (hL : ∀ k, zL σ' x k = zL σ x k) (hR : ∀ k, zR σ' x k = zR σ x k) : kE θ σ' x = kE θ σ x := by
  have eI : zI σ' x = zI σ x := funext hI
  have eL : zL σ' x = zL σ x := funext hL
  have eF : ∀ ci, kF θ σ' ci x = kF θ σ ci x := fun ci => List.map_congr_left (fun k _ => by simp only [kv, hI, hL, hR])
  have eA : ∀ ty, kA θ σ' ty x = kA θ σ ty x := fun ty => by simp only [kA, eI, eL, hR]
  simp only [kE, eF, eA]
theorem kE_sI {θ : kT} {σ : kS} {a k : Nat} {v : Int32} : ∀ x, x ≠ a → kE θ (sI σ a k v) x = kE θ σ x := fun _ h => kE_same (fun _ => kI_ne h) (fun _ => rfl) (fun _ => rfl)
theorem kE_sL {θ : kT} {σ : kS} {a k : Nat} {v : Int64} : ∀ x, x ≠ a → kE θ (sL σ a k v) x = kE θ σ x := fun _ h => kE_same (fun _ => rfl) (fun _ => kL_ne h) (fun _ => rfl)
theorem kE_sR {θ : kT} {σ : kS} {a k : Nat} {v : Option Nat} : ∀ x, x ≠ a → kE θ (sR σ a k v) x = kE θ σ x := fun _ h => kE_same (fun _ => rfl) (fun _ => rfl) (fun _ => kR_ne h)
theorem kE_sW {θ : kT} {σ : kS} : ∀ x, x < zN σ → kE θ (sW σ) x = kE θ σ x := fun x h => by
  have h0 : x ≠ σ.1 := Nat.ne_of_lt h
  exact kE_same (fun _ => by simp [zI, sW, u1, h0]) (fun _ => by simp [zL, sW, u1, h0]) (fun _ => by simp [zR, sW, u1, h0])
theorem kF_len {θ : kT} {σ : kS} {ci a : Nat} : (kF θ σ ci a).length = kNn ci := by simp [kF]
theorem kF_get {θ : kT} {σ : kS} {ci a k : Nat} (h : k < kNn ci) : (kF θ σ ci a)[k]? = some (kr θ (kv σ (kd (ktY ci k)) a k)) := by simp [kF, h]
/-- a field is written -/
theorem kF_set {θ : kT} {σ σ' : kS} {ci a k : Nat} (ho : ∀ j, j ≠ k → ∀ t, kv σ' t a j = kv σ t a j) : (kF θ σ ci a).set k (kr θ (kv σ' (kd (ktY ci k)) a k)) = kF θ σ' ci a := by
  apply List.ext_getElem?
  intro i
  rw [List.getElem?_set]
  by_cases h : k = i
  · subst h
    rw [if_pos rfl]
    by_cases hk : k < kNn ci
    · rw [if_pos (by rw [kF_len]; exact hk), kF_get hk]
    · rw [if_neg (by rw [kF_len]; exact hk), List.getElem?_eq_none (by rw [kF_len]; omega)]
  · rw [if_neg h]
    by_cases hi : i < kNn ci
    · rw [kF_get hi, kF_get hi, ho i (fun e => h e.symm)]
    · rw [List.getElem?_eq_none (by rw [kF_len]; omega), List.getElem?_eq_none (by rw [kF_len]; omega)]
/-! what is given of the start, of the tables, of the text -/
def kTy (θ : kT) : List (ClassId × FieldType) := [(θ.2.2.2.2.1 .int, .int), (θ.2.2.2.2.1 .byte, .byte), (θ.2.2.2.2.1 .boolean, .boolean), (θ.2.2.2.2.1 .long, .long), (θ.2.2.2.2.1 (.object RX1), .object RX1)]
def kTxt : String := "rule limit when then and or not sum place urgent day month bill order pay trip clerk head chief money law board guard owner "
def kByt : List Int32 := [114, 117, 108, 101, 32, 108, 105, 109, 105, 116, 32, 119, 104, 101, 110, 32, 116, 104, 101, 110, 32, 97, 110, 100, 32, 111, 114, 32, 110, 111, 116, 32, 115, 117, 109, 32, 112, 108, 97, 99, 101, 32, 117, 114, 103, 101, 110, 116, 32, 100, 97, 121, 32, 109, 111, 110, 116, 104, 32, 98, 105, 108, 108, 32, 111, 114, 100, 101, 114, 32, 112, 97, 121, 32, 116, 114, 105, 112, 32, 99, 108, 101, 114, 107, 32, 104, 101, 97, 100, 32, 99, 104, 105, 101, 102, 32, 109, 111, 110, 101, 121, 32, 108, 97, 119, 32, 98, 111, 97, 114, 100, 32, 103, 117, 97, 114, 100, 32, 111, 119, 110, 101, 114, 32]
def kStr (θ : kT) (U : State) (H : Heap) : Prop := vk_S 1 [124] [kByt] (fun _ => θ.2.2.1) (fun _ => θ.2.2.2.1) (kAr θ) U H ∧ va_Z "java/lang/String" "COMPACT_STRINGS" "Z" (.int 1) (kAr θ) U H ∧ vk_R RX2 148 kTxt θ.2.2.1 U
def kSt (θ : kT) (U : State) : Prop := va_K θ.2.2.2.2.2 kl_cl (kTy θ) U ∧ (∀ w ∈ kl_nw, va_Nw w U) ∧ va_AO RX1 U
theorem kSt.warm {θ : kT} {s U : State} (hW : s.WarmedH U.vm) (h : kSt θ s) : kSt θ U := by
  refine ⟨va_K.moved hW.alike h.1, fun w hw => ?_, va_AO.moved hW.alike h.2.2⟩
  have h1 := h.2.1 w hw
  have h2 := (kl_nsub hw).2
  cases w with
  | fieldLinkNest a i b n d g => exact va_Nw.warmF hW h1
  | methodLinkNest a i x g => exact va_Nw.warmM hW h1
  | _ => cases h2
theorem kStr.warm {θ : kT} {s U : State} {H : Heap} {locs : List Loc} (hW : s.WarmedH U.vm) (hS : va_S (kAr θ) s.heap H locs) (hU : U.heap = H) (h : kStr θ s s.heap) : kStr θ U U.heap := by
  rw [hU]
  exact ⟨(h.1.kept hS.2.1).moved hW.alike, (h.2.1.kept hS.2.1).moved hW.alike, h.2.2.warm hW⟩
/-- locals: positions -/
def kLv (θ : kT) (ls : List (Option Value)) : List (Nat × Value) := (List.range ls.length).filterMap (fun k => (ls.getD k none).map (fun v => (k, kr θ v)))
theorem kLv_mem {θ : kT} {ls : List (Option Value)} {q : Nat × Value} : q ∈ kLv θ ls ↔ ∃ v, ls[q.1]? = some (some v) ∧ q.2 = kr θ v := by
  simp only [kLv, List.mem_filterMap, List.mem_range]
  constructor
  · rintro ⟨k, hk, h⟩
    rw [List.getD_eq_getElem?_getD, List.getElem?_eq_getElem hk] at h
    simp only [Option.getD_some] at h
    cases hv : ls[k] with
    | none => rw [hv] at h; cases h
    | some v =>
      rw [hv] at h
      have h2 := (Option.some.inj h).symm
      subst h2
      exact ⟨v, by rw [List.getElem?_eq_getElem hk, hv], rfl⟩
  · rintro ⟨v, h1, h2⟩
    have hk := (List.getElem?_eq_some_iff.mp h1).1
    refine ⟨q.1, hk, ?_⟩
    rw [List.getD_eq_getElem?_getD, h1]
    show some (q.1, kr θ v) = some q
    rw [← h2]
def kC (θ : kT) (μ : kM) (d : Nat) (p : Program) (R : Room) (s : State) (m : MethodId) (args : Array Value) (meth : Method) (c : Code) : Prop :=
  p.tables.exec = Jvm.exec ∧ c.code = μ.2.1 ∧ c.maxLocals = μ.2.2.1 ∧ s.vm.findClass μ.1 = some m.cls ∧ (∀ w ∈ kl_ws, w.before args s = true) ∧ kSt θ s ∧ kStr θ s s.heap ∧ θ.1 ≤ s.heap.size ∧ (d ≤ R.frames ∧ 40 * d ≤ R.locals) ∧ meth.name = μ.2.2.2.2
def kH (θ : kT) (σ : kS) (s : State) (H : Heap) (locs : List Loc) : Prop := va_P θ.2.2.2.2.2 kl_cl (kW θ σ) H ∧ va_S (kAr θ) s.heap H locs ∧ H.size = θ.1 + zN σ
/-- the return that stands at pc fits the answer -/
def kRt (μ : kM) (pc : Nat) (r : Option Value) : Prop := match r with
  | none => decode μ.2.1 pc = .ok (.return_, 1) ∧ μ.2.2.2.1 = none
  | some (.int v) => decode μ.2.1 pc = .ok (.ireturn, 1) ∧ ∃ ty, μ.2.2.2.1 = some ty ∧ narrow ty (.int v) = .int v
  | some (.long _) => decode μ.2.1 pc = .ok (.lreturn, 1) ∧ μ.2.2.2.1 = some .long
  | some (.ref _) => decode μ.2.1 pc = .ok (.areturn, 1) ∧ ∃ n, μ.2.2.2.1 = some (.object n)
  | some .null => decode μ.2.1 pc = .ok (.areturn, 1) ∧ ∃ n, μ.2.2.2.1 = some (.object n)
  | _ => False
/-- from here the method comes to its return with an answer and a heap in Q, with at most mc cells of ms slots more -/
def kV (μ : kM) (d mc ms pc : Nat) (ls : List (Option Value)) (st : List Value) (σ : kS) (Q : Option Value → kS → Prop) : Prop :=
  ∀ (θ : kT) (p : Program) (l : Launch) (e : Env) (R : Room) (s : State) (m : MethodId) (args : Array Value) (below : List Frame) (meth : Method) (c : Code) (FQ : State → Prop) (H : Heap) (locs : List Loc) (cells slots : Nat) (lr : Array Slot),
    kC θ μ d p R s m args meth c → kH θ σ s H locs → lv_has lr μ.2.2.1 (kLv θ ls) ∧ ls.length = μ.2.2.1 → cells + mc ≤ R.cells ∧ slots + ms ≤ R.slots →
    (∀ (pc' : Nat) (lr' : Array Slot) (H' : Heap) (locs' : List Loc) (r : Option Value) (σ' : kS), Q r σ' → kH θ σ' s H' locs' → kRt μ pc' r → W p l e R s m args below meth c H' locs' (cells + mc) (slots + ms) FQ (F0 m pc' lr' ((r.map (kr θ)).toList))) →
    W p l e R s m args below meth c H locs cells slots FQ (F0 m pc lr (st.map (kr θ)))
/-- a method's contract at these arguments and this heap -/
def kP (θ : kT) (σ : kS) (U : State) : Prop := U.heap.size = θ.1 + zN σ ∧ va_P θ.2.2.2.2.2 kl_cl (kW θ σ) U.heap ∧ kSt θ U ∧ kStr θ U U.heap
def kQ (θ : kT) (Q : Option Value → kS → Prop) : Array Value → State → Outcome → State → Prop := fun _ st oc t =>
  (∃ (r : Option Value) (σ' : kS), oc = .returned (r.map (kr θ)) ∧ Q r σ' ∧ t.heap.size = θ.1 + zN σ' ∧ va_P θ.2.2.2.2.2 kl_cl (kW θ σ') t.heap) ∧ va_F (kAr θ) st t
def kRm (d mc ms : Nat) : Room := { frames := d, cells := mc, slots := ms, locals := 40 * d }
def kCt (y : MethodName) (μ : kM) (d mc ms : Nat) (av : List Value) (σ : kS) (Q : Option Value → kS → Prop) : Prop :=
  ∀ (θ : kT) (l : Launch), Met l y (Cond.code y μ.2.1 μ.2.2.1 μ.2.2.2.1 :: kl_ws) (kRm d mc ms) (va_Pc (av.map (kr θ)) (kP θ σ)) (kQ θ Q) mc ms (kAr θ)
end
section
/-! THE MINI MACHINE: contracts, calls; generated by wip/gen/part04.py -/
theorem kr_cat {θ : kT} (v : Value) : (kr θ v).category = v.category := by
  cases v with
  | float u => simp only [kr]; split <;> first | rfl | (split <;> rfl)
  | _ => rfl
def kEl : List Value → List (Option Value)
  | [] => []
  | .long x :: vs => some (.long x) :: none :: kEl vs
  | .double x :: vs => some (.double x) :: none :: kEl vs
  | v :: vs => some v :: kEl vs
theorem kEl_2 {v : Value} {vs : List Value} (h : v.category = 2) : kEl (v :: vs) = some v :: none :: kEl vs := by cases v <;> simp [Value.category] at h <;> rfl
theorem kEl_1 {v : Value} {vs : List Value} (h : ¬ v.category = 2) : kEl (v :: vs) = some v :: kEl vs := by cases v <;> simp [Value.category] at h <;> rfl
theorem kEl_sl {θ : kT} : ∀ av : List Value, (lg_sl (av.map (kr θ))).length = (kEl av).length := by
  intro av
  induction av with
  | nil => rfl
  | cons v vs ih =>
    have e : lg_sl (List.map (kr θ) (v :: vs)) = (if (kr θ v).category = 2 then [Slot.val (kr θ v), .second] else [.val (kr θ v)]) ++ lg_sl (List.map (kr θ) vs) := rfl
    rw [e, List.length_append, ih, kr_cat]
    by_cases h : v.category = 2
    · rw [if_pos h, kEl_2 h]; simp; omega
    · rw [if_neg h, kEl_1 h]; simp; omega
theorem kEl_at {θ : kT} : ∀ (av : List Value) (i k : Nat) (v : Value), (kEl av)[k]? = some (some v) → (i + k, kr θ v) ∈ lv_args i (av.map (kr θ)) := by
  intro av
  induction av with
  | nil => intro i k v h; simp [kEl] at h
  | cons w vs ih =>
    intro i k v h
    have e : lv_args i (List.map (kr θ) (w :: vs)) = (i, kr θ w) :: lv_args (if (kr θ w).category = 2 then i + 2 else i + 1) (List.map (kr θ) vs) := rfl
    rw [e, kr_cat]
    by_cases h2 : w.category = 2
    · rw [kEl_2 h2] at h
      rw [if_pos h2]
      match k, h with
      | 0, h => cases h; exact List.mem_cons_self
      | 1, h => cases h
      | k + 2, h => exact List.mem_cons_of_mem _ (by have := ih (i + 2) k v h; rwa [show i + 2 + k = i + (k + 2) by omega] at this)
    · rw [kEl_1 h2] at h
      rw [if_neg h2]
      match k, h with
      | 0, h => cases h; exact List.mem_cons_self
      | k + 1, h => exact List.mem_cons_of_mem _ (by have := ih (i + 1) k v h; rwa [show i + 1 + k = i + (k + 1) by omega] at this)
theorem kl_good {w : Cond} (h : w ∈ kl_ws) : (w.onTables && w.keeps) = true ∨ ∃ ty, w = .arrayClass ty := good_of_word (kl_sub h).2
theorem kl_GI {w : Cond} (h : w ∈ kl_ws) : GoodIn kl_ws (w :: kl_ws) := fun x hx => by
  rcases List.mem_cons.mp hx with rfl | hx
  · exact ⟨h, kl_good h⟩
  · exact ⟨hx, kl_good hx⟩
/-- a contract out of a walk of the body -/
theorem kCt_of {y : MethodName} {μ : kM} {n d mc ms : Nat} {av : List Value} {ls : List (Option Value)} {σ : kS} {Q : Option Value → kS → Prop} (hy : kYb y μ n) (hls : kEl av ++ List.replicate (μ.2.2.1 - (kEl av).length) none = ls) (hlen : ls.length = μ.2.2.1)
    (h : kV μ d mc ms 0 ls [] σ Q) : kCt y μ d mc ms av σ Q := by
  intro θ l
  obtain ⟨hcode, hini, hd3, hmax, hplain, hcls, hnm⟩ := hy
  refine Met.ofW (cc := μ.2.1) (maxL := μ.2.2.1) (ret := μ.2.2.2.1) hplain rfl ?_
  intro p e s m args below meth c s₁ B hml hv
  obtain ⟨rfl, hsz, hP, hK, hZ⟩ := hv
  have hts := atoms_spec (ws := Cond.code y μ.2.1 μ.2.2.1 μ.2.2.2.1 :: kl_ws) B.pre
  have hl0 : (kEl av).length ≤ μ.2.2.1 := by
    rw [← hls, List.length_append, List.length_replicate] at hlen
    omega
  have hl := lv_entry (av.map (kr θ)) (n := μ.2.2.1) (by rw [kEl_sl]; exact hl0)
  have hown : s.vm.findClass μ.1 = some m.cls := by rw [← hcls]; exact findClass_of_methodNamed B.named
  have hname : meth.name = μ.2.2.2.2 := by rw [← hnm]; exact (name_of_methodNamed B.named B.method).1
  rw [lg_entry_eq]
  refine h θ p l e (kRm d mc ms) s m _ below meth c _ s.heap [] 0 0 _ ⟨B.exec, B.bytes, hml, hown, fun w hw => hts w (List.mem_cons_of_mem _ hw), hK, hZ, by omega, ⟨Nat.le_refl _, Nat.le_refl _⟩, hname⟩ ⟨hP, va_S.rf, hsz⟩ ⟨⟨hl.1, hl.2.1, fun q hq => ?_⟩, hlen⟩ ⟨by simp [kRm], by simp [kRm]⟩ ?_
  · obtain ⟨v, h1, h2⟩ := kLv_mem.mp hq
    rw [← hls] at h1
    have hq1 : q.1 < (kEl av).length := by
      rcases Nat.lt_or_ge q.1 (kEl av).length with z | z
      · exact z
      · rw [List.getElem?_append_right z] at h1
        have h4 := List.mem_of_getElem? h1
        have h5 := (List.mem_replicate.mp h4).2
        cases h5
    rw [List.getElem?_append_left hq1] at h1
    have h3 := kEl_at (θ := θ) av 0 q.1 v h1
    rw [Nat.zero_add, ← h2] at h3
    exact hl.2.2 q h3
  · intro pc' lr' H' locs' r σ' hQ hH hR
    rw [Nat.zero_add, Nat.zero_add]
    have hq : ∀ t : State, t.heap = H' → s.WarmedH t.vm → kQ θ Q (List.map (kr θ) av).toArray s (.returned (r.map (kr θ))) t := fun t ht hW => ⟨⟨r, σ', rfl, hQ, by rw [ht]; exact hH.2.2, by rw [ht]; exact hH.1⟩, hH.2.1.F ht⟩
    have hf : ∀ q ∈ locs', kAr θ q.base := hH.2.1.2.2
    have hr := B.returns
    have hlocks := B.notSynchronized
    match r, hR, hq with
    | none, hR, hq => exact W.vret B.exec B.bytes (by rw [hr]; exact hR.2) hq hf hR.1 (hlocks := hlocks)
    | some (.int v), hR, hq =>
      obtain ⟨h1, ty, h2, h3⟩ := hR
      exact W.zret (v := v) B.exec B.bytes (by rw [hr]; exact h2) h3 hq hf h1 (hlocks := hlocks)
    | some (.long v), hR, hq => exact W.lret (v := v) B.exec B.bytes (by rw [hr]; exact hR.2) hq hf hR.1 (hlocks := hlocks)
    | some (.ref a), hR, hq =>
      obtain ⟨h1, nn, h2⟩ := hR
      exact W.aret (v := .ref (θ.1 + a)) B.exec B.bytes (by rw [hr]; exact h2) (Or.inl ⟨nn, rfl⟩) (Or.inr ⟨_, rfl⟩) hq hf h1 (hlocks := hlocks)
    | some .null, hR, hq =>
      obtain ⟨h1, nn, h2⟩ := hR
      exact W.aret (v := .null) B.exec B.bytes (by rw [hr]; exact h2) (Or.inl ⟨nn, rfl⟩) (Or.inl rfl) hq hf h1 (hlocks := hlocks)
theorem kP_blind {θ : kT} {σ : kS} {av : List Value} : FrameBlind (va_Pc av (kP θ σ)) := by
  intro a U g mk h
  obtain ⟨h1, h2, h3, h4, h5⟩ := h
  exact ⟨h1, h2, h3, kSt.warm (s := U) (U := U.calling g mk a) (State.WarmedH.refl U) h4, kStr.warm (s := U) (U := U.calling g mk a) (H := U.heap) (locs := []) (State.WarmedH.refl U) va_S.rf rfl h5⟩
section KCALL
variable {θ : kT} {p : Program} {l : Launch} {e : Env} {R : Room} {s : State} {m : MethodId} {args : Array Value} {below : List Frame} {meth : Method} {c : Code} {H : Heap} {locs : List Loc} {cells slots : Nat} {FQ : State → Prop}
theorem kP_pre {σ : kS} {av : List Value} {μ : kM} {d : Nat} (hC : kC θ μ d p R s m args meth c) (hH : kH θ σ s H locs) : ∀ U : State, U.heap = H → s.WarmedH U.vm → va_Pc (av.map (kr θ)) (kP θ σ) (av.map (kr θ)).toArray U := fun U hU hW =>
  ⟨rfl, by rw [hU]; exact hH.2.2, by rw [hU]; exact hH.1, kSt.warm hW hC.2.2.2.2.2.1, kStr.warm hW hH.2.1 hU hC.2.2.2.2.2.2.1⟩
/-- behind a call -/
theorem kv_back {μ : kM} {d mc ms mc1 ms1 pc : Nat} {ls : List (Option Value)} {st stk : List Value} {σ : kS} {Q : Option Value → kS → Prop} {lr : Array Slot} {a : Array Value}
    (hC : kC θ μ (d + 1) p R s m args meth c) (hH : kH θ σ s H locs) (hl : lv_has lr μ.2.2.1 (kLv θ ls) ∧ ls.length = μ.2.2.1) (hr : cells + mc ≤ R.cells ∧ slots + ms ≤ R.slots) (hm : mc1 ≤ mc ∧ ms1 ≤ ms)
    (hF : ∀ (pc' : Nat) (lr' : Array Slot) (H' : Heap) (locs' : List Loc) (r : Option Value) (σ' : kS), Q r σ' → kH θ σ' s H' locs' → kRt μ pc' r → W p l e R s m args below meth c H' locs' (cells + mc) (slots + ms) FQ (F0 m pc' lr' ((r.map (kr θ)).toList)))
    (run : va_Run p l e R s m args below meth c H locs cells slots mc1 ms1 (F0 m pc lr stk) (st.map (kr θ)) (kQ θ (fun r σ' => kV μ (d + 1) (mc - mc1) (ms - ms1) (pc + 3) ls (r.toList ++ st) σ' Q) a) (kAr θ)) :
    W p l e R s m args below meth c H locs cells slots FQ (F0 m pc lr stk) := by
  intro T hT X
  obtain ⟨v, st0, t, T', L, h0, X', hL, e1, e2, ⟨⟨r, σ', hv, hQ, hz, hP⟩, hF1, hF2⟩, stp⟩ := run T hT X
  have hv2 : v = r.map (kr θ) := by cases hv; rfl
  subst hv2
  rw [h0] at hF1 hF2
  have hS := hH.2.1
  have hS2 : va_S (kAr θ) s.heap T'.heap (locs ++ L) := ⟨Nat.le_trans hS.1 (by rw [e1]; exact hF1), fun q h1 h2 => by rw [e1, hF2 q (Nat.lt_of_lt_of_le h1 hS.1) h2]; exact hS.2.1 q h1 h2, fun q hq => by
      rcases List.mem_append.mp hq with h | h
      · exact hS.2.2 q h
      · exact hL q h⟩
  have c1 : cells + mc1 + (mc - mc1) = cells + mc := by omega
  have c2 : slots + ms1 + (ms - ms1) = slots + ms := by omega
  obtain ⟨t2, a1, b1⟩ := hQ θ p l e R s m args below meth c FQ T'.heap (locs ++ L) (cells + mc1) (slots + ms1) lr hC ⟨by rw [e1]; exact hP, hS2, by rw [e1]; exact hz⟩ hl ⟨by rw [c1]; exact hr.1, by rw [c2]; exact hr.2⟩ (by rw [c1, c2]; exact hF) T' rfl X'
  refine ⟨t2, stp t2 ?_, b1⟩
  have ef : ({ F0 m pc lr stk with pc := (F0 m pc lr stk).pc + 3, stack := (r.map (kr θ)).toList ++ st.map (kr θ) } : JFrame) = F0 m (pc + 3) lr ((r.toList ++ st).map (kr θ)) := by cases r <;> rfl
  rw [ef]
  exact a1
end KCALL
theorem kcat {θ : kT} {st : List Value} : ((st.map (kr θ)).map fun v => v.category).sum = (st.map Value.category).sum := by
  rw [List.map_map]
  congr 1
  exact List.map_congr_left (fun v _ => kr_cat v)
/-- the words of a call -/
theorem kcw {θ : kT} {μ μ1 : kM} {d mc ms n : Nat} {p : Program} {R : Room} {s : State} {m : MethodId} {args : Array Value} {meth : Method} {c : Code} {y : MethodName} (hC : kC θ μ (d + 1) p R s m args meth c) (hy : kYb y μ1 n) :
    ((kRm d mc ms).cells = mc ∧ (kRm d mc ms).slots = ms ∧ (kRm d mc ms).frames + 1 ≤ R.frames ∧ 8 + (μ1.2.2.1 + 11) + (kRm d mc ms).locals ≤ R.locals ∧ (∀ w ∈ (Cond.code y μ1.2.1 μ1.2.2.1 μ1.2.2.2.1 :: kl_ws), ∀ (a' : Array Value) (U : State), s.WarmedH U.vm → w.before a' U = true) ∧ Cond.code y μ1.2.1 μ1.2.2.1 μ1.2.2.2.1 ∈ (Cond.code y μ1.2.1 μ1.2.2.1 μ1.2.2.2.1 :: kl_ws)) ∧
    (Cond.code y μ1.2.1 μ1.2.2.1 μ1.2.2.2.1).before args s = true ∧ (Cond.initialized y.cls).before args s = true ∧ (y.cls ≠ "java/lang/invoke/MethodHandle" ∧ y.cls ≠ "java/lang/invoke/VarHandle") ∧ (∀ sig, parseMethodDescriptor y.desc = some sig → n = sig.parameters.length) := by
  obtain ⟨hcode, hini, hd3, hmax, hplain, hcls, hnm⟩ := hy
  have hts := hC.2.2.2.2.1
  have hR := hC.2.2.2.2.2.2.2.2.1
  refine ⟨⟨rfl, rfl, hR.1, ?_, pay_in hts (kl_GI hcode), List.mem_cons_self⟩, hts _ hcode, hts _ hini, ⟨hd3.1, hd3.2.1⟩, fun sig h => ?_⟩
  · show 8 + (μ1.2.2.1 + 11) + 40 * d ≤ R.locals
    have := hR.2
    omega
  · have h2 := hd3.2.2
    rw [h] at h2
    exact (Option.some.inj h2).symm
theorem kE_obj {θ : kT} {σ : kS} {a ci : Nat} (hs : kSh a = .inr ci) : kE θ σ a = .inr (ci, kF θ σ ci a) := by simp only [kE, hs]
theorem kE_arr {θ : kT} {σ : kS} {a n : Nat} {ty : FieldType} (hs : kSh a = .inl (ty, n)) : kE θ σ a = .inl (θ.2.2.2.2.1 ty, n, kA θ σ ty a) := by simp only [kE, hs]
theorem kmr {θ : kT} {As st : List Value} {a : Nat} : (As.reverse ++ .ref a :: st).map (kr θ) = (As.map (kr θ)).reverse ++ .ref (θ.1 + a) :: st.map (kr θ) := by simp [kr]
theorem kv_callV' {μ μ1 : kM} {y : MethodName} {d mc ms mc1 ms1 pc idx a ci : Nat} {ls : List (Option Value)} {As st : List Value} {σ : kS} {Q : Option Value → kS → Prop}
    (hd : decode μ.2.1 pc = .ok (.invokevirtual idx, 3)) (hk : kMl μ.1 idx y) (hy : kYv y μ1 As.length) (ha : a < zN σ) (hs : kSh a = .inr ci) (hci : ci < 8) (hcn : kCn ci = y.cls) (hr8 : (st.map Value.category).sum ≤ 8) (hm : mc1 ≤ mc ∧ ms1 ≤ ms)
    (hc : kCt y μ1 d mc1 ms1 (.ref a :: As) σ (fun r σ' => kV μ (d + 1) (mc - mc1) (ms - ms1) (pc + 3) ls (r.toList ++ st) σ' Q)) : kV μ (d + 1) mc ms pc ls (As.reverse ++ .ref a :: st) σ Q := by
  intro θ p l e R s m args below meth c FQ H locs cells slots lr hC hH hl hr hF
  rw [kmr]
  have hb := kcw (mc := mc1) (ms := ms1) hC hy.1
  have hts := hC.2.2.2.2.1
  have hfit : cells + mc1 ≤ R.cells ∧ slots + ms1 ≤ R.slots := by omega
  have hfix : CallFix p m c μ.2.1 μ.2.2.1 s args kl_ws μ.1 := ⟨hC.1, hC.2.1, hC.2.2.1, hC.2.2.2.1, hts⟩
  have hrecv : ∃ cellB : Cell, H[θ.1 + a]? = some cellB ∧ cellB.vm.isStatics = false ∧ s.vm.findClass y.cls = some cellB.cls := by
    rw [← hcn]
    exact va_recv hC.2.2.2.2.2.1.1 hH.1 (kcl_at ci hci) (show (kW θ σ)[a]? = some (θ.1 + a, .inr (ci, kF θ σ ci a)) by rw [kW_at ha, kE_obj hs])
  have hp : PreV s H y.cls (θ.1 + a) (va_Pc ((.ref a :: As).map (kr θ)) (kP θ σ)) (As.map (kr θ)) := ⟨kP_blind, hrecv, kP_pre (av := .ref a :: As) hC hH⟩
  have h8 : 2 * (F0 m pc lr ((As.map (kr θ)).reverse ++ .ref (θ.1 + a) :: st.map (kr θ))).monitorRoom + ((st.map (kr θ)).map fun v => v.category).sum ≤ 8 := by
    rw [kcat]; exact lv_room hr8
  refine kv_back (st := st) (a := (Value.ref (θ.1 + a) :: As.map (kr θ)).toArray) hC hH hl hr hm hF ?_
  rcases hk with hk | hk
  · exact va_runV (As := As.map (kr θ)) hfix (hc θ l) ⟨⟨hb.1.1, hb.1.2.1, hb.1.2.2.1, hb.1.2.2.2.1, hb.1.2.2.2.2.1, hb.1.2.2.2.2.2, hb.2.1, hb.2.2.1, hb.2.2.2.1, hb.2.2.2.2, hts _ hk⟩, hts _ hy.2.1, hts _ hy.2.2⟩ hp rfl (by simp) hl.1.1 rfl h8 hd hfit
  · exact va_runVN (As := As.map (kr θ)) hfix (hc θ l) ⟨⟨hb.1, hb.2.1, hb.2.2.1, hb.2.2.2.1, hb.2.2.2.2, va_Nw.use rfl (hC.2.2.2.2.2.1.2.1 _ hk)⟩, hts _ hy.2.1, hts _ hy.2.2⟩ hp rfl (by simp) hl.1.1 rfl h8 hd hfit
theorem kv_callS' {μ μ1 : kM} {y : MethodName} {d mc ms mc1 ms1 pc idx : Nat} {ls : List (Option Value)} {As st : List Value} {σ : kS} {Q : Option Value → kS → Prop}
    (hd : decode μ.2.1 pc = .ok (.invokestatic idx, 3)) (hk : kMl μ.1 idx y) (hy : kYs y μ1 As.length) (hr8 : (st.map Value.category).sum ≤ 8) (hm : mc1 ≤ mc ∧ ms1 ≤ ms)
    (hc : kCt y μ1 d mc1 ms1 As σ (fun r σ' => kV μ (d + 1) (mc - mc1) (ms - ms1) (pc + 3) ls (r.toList ++ st) σ' Q)) : kV μ (d + 1) mc ms pc ls (As.reverse ++ st) σ Q := by
  intro θ p l e R s m args below meth c FQ H locs cells slots lr hC hH hl hr hF
  rw [List.map_append, List.map_reverse]
  have hb := kcw (mc := mc1) (ms := ms1) hC hy.1
  have hts := hC.2.2.2.2.1
  have hfit : cells + mc1 ≤ R.cells ∧ slots + ms1 ≤ R.slots := by omega
  have hfix : CallFix p m c μ.2.1 μ.2.2.1 s args kl_ws μ.1 := ⟨hC.1, hC.2.1, hC.2.2.1, hC.2.2.2.1, hts⟩
  have hp : PreS s H (va_Pc (As.map (kr θ)) (kP θ σ)) (As.map (kr θ)) := ⟨kP_blind, kP_pre (av := As) hC hH⟩
  have h8 : 2 * (F0 m pc lr ((As.map (kr θ)).reverse ++ st.map (kr θ))).monitorRoom + ((st.map (kr θ)).map fun v => v.category).sum ≤ 8 := by
    rw [kcat]; exact lv_room hr8
  refine kv_back (st := st) (a := (As.map (kr θ)).toArray) hC hH hl hr hm hF ?_
  rcases hk with hk | hk
  · exact va_runS (As := As.map (kr θ)) hfix (hc θ l) ⟨⟨hb.1.1, hb.1.2.1, hb.1.2.2.1, hb.1.2.2.2.1, hb.1.2.2.2.2.1, hb.1.2.2.2.2.2, hb.2.1, hb.2.2.1, hb.2.2.2.1, hb.2.2.2.2, hts _ hk⟩, hts _ hy.2⟩ hp rfl (by simp) hl.1.1 rfl h8 hd hfit
  · exact va_runSN (As := As.map (kr θ)) hfix (hc θ l) ⟨⟨hb.1, hb.2.1, hb.2.2.1, hb.2.2.2.1, hb.2.2.2.2, va_Nw.use rfl (hC.2.2.2.2.2.1.2.1 _ hk)⟩, hts _ hy.2, trivial⟩ hp rfl (by simp) hl.1.1 rfl h8 hd hfit
theorem kv_callI' {μ μ1 : kM} {y : MethodName} {d mc ms mc1 ms1 pc idx a : Nat} {ls : List (Option Value)} {As st : List Value} {σ : kS} {Q : Option Value → kS → Prop}
    (hd : decode μ.2.1 pc = .ok (.invokespecial idx, 3)) (hk : kMl μ.1 idx y) (hy : kYi y μ1 As.length) (hrt : μ1.2.2.2.1 = none) (hr8 : (st.map Value.category).sum ≤ 8) (hm : mc1 ≤ mc ∧ ms1 ≤ ms)
    (hc : kCt y μ1 d mc1 ms1 (.ref a :: As) σ (fun r σ' => kV μ (d + 1) (mc - mc1) (ms - ms1) (pc + 3) ls (r.toList ++ st) σ' Q)) : kV μ (d + 1) mc ms pc ls (As.reverse ++ .ref a :: st) σ Q := by
  intro θ p l e R s m args below meth c FQ H locs cells slots lr hC hH hl hr hF
  rw [kmr]
  have hb := kcw (mc := mc1) (ms := ms1) hC hy.1
  have hM := hc θ l
  rw [hrt] at hb hM
  have hts := hC.2.2.2.2.1
  have hfit : cells + mc1 ≤ R.cells ∧ slots + ms1 ≤ R.slots := by omega
  have hfix : CallFix p m c μ.2.1 μ.2.2.1 s args kl_ws μ.1 := ⟨hC.1, hC.2.1, hC.2.2.1, hC.2.2.2.1, hts⟩
  have hp : PreS s H (va_Pc ((.ref a :: As).map (kr θ)) (kP θ σ)) (.ref (θ.1 + a) :: As.map (kr θ)) := ⟨kP_blind, kP_pre (av := .ref a :: As) hC hH⟩
  have h8 : 2 * (F0 m pc lr ((As.map (kr θ)).reverse ++ .ref (θ.1 + a) :: st.map (kr θ))).monitorRoom + ((st.map (kr θ)).map fun v => v.category).sum ≤ 8 := by
    rw [kcat]; exact lv_room hr8
  refine kv_back (st := st) (a := (Value.ref (θ.1 + a) :: As.map (kr θ)).toArray) hC hH hl hr hm hF ?_
  rcases hk with hk | hk
  · exact va_runI (As := As.map (kr θ)) hfix hM ⟨⟨hb.1.1, hb.1.2.1, hb.1.2.2.1, hb.1.2.2.2.1, hb.1.2.2.2.2.1, hb.1.2.2.2.2.2, hb.2.1, hb.2.2.1, hb.2.2.2.1, hb.2.2.2.2, hts _ hk⟩, hy.2.2, hts _ hy.2.1⟩ hp rfl (by simp) hl.1.1 rfl h8 hd hfit
  · exact va_runIN (As := As.map (kr θ)) hfix hM ⟨⟨hb.1, hb.2.1, hb.2.2.1, hb.2.2.2.1, hb.2.2.2.2, va_Nw.use rfl (hC.2.2.2.2.2.1.2.1 _ hk)⟩, hy.2.2, hts _ hy.2.1⟩ hp rfl (by simp) hl.1.1 rfl h8 hd hfit
/-- Object's constructor -/
theorem kv_obj {μ : kM} {d mc ms pc idx a : Nat} {ls : List (Option Value)} {st : List Value} {σ : kS} {Q : Option Value → kS → Prop} (hd : decode μ.2.1 pc = .ok (.invokespecial idx, 3)) (hk : Cond.methodLink μ.1 idx objectInit ∈ kl_ws) (hr8 : (st.map Value.category).sum ≤ 8)
    (h : kV μ (d + 1) mc ms (pc + 3) ls st σ Q) : kV μ (d + 1) mc ms pc ls (.ref a :: st) σ Q := by
  intro θ p l e R s m args below meth c FQ H locs cells slots lr hC hH hl hr hF
  have hts := hC.2.2.2.2.1
  have hR := hC.2.2.2.2.2.2.2.2.1
  refine W.objInit hC.1 hC.2.1 hC.2.2.2.1 (hts _ hk) (hts _ kj_obj) (hts _ kj_cod) rfl (by rw [hC.2.2.1]; exact hl.1.1) (a := θ.1 + a) (rest := st.map (kr θ)) rfl hd (by omega) ?_ (h θ p l e R s m args below meth c FQ H locs cells slots lr hC hH hl hr hF)
  have h8 : 2 * (F0 m pc lr (.ref (θ.1 + a) :: st.map (kr θ))).monitorRoom + ((st.map (kr θ)).map fun v => v.category).sum ≤ 8 := by
    rw [kcat]; exact lv_room hr8
  exact Nat.le_trans (Nat.add_le_add_right h8 12) (by omega)
end
section
/-! THE MINI MACHINE: a row an instruction; generated by wip/gen/part05.py -/
theorem kv_iconst {μ : kM} {d mc ms pc : Nat} {ls : List (Option Value)} {st : List Value} {σ : kS} {Q : Option Value → kS → Prop} {n : Int} {v : Int32} (hd : decode μ.2.1 pc = .ok (.iconst n, 1)) (hv : Int32.ofInt n = v) (h : kV μ d mc ms (pc + 1) ls (.int v :: st) σ Q) : kV μ d mc ms pc ls (st) σ Q := by
  intro θ p l e R s m args below meth c FQ H locs cells slots lr hC hH hl hr hF
  exact lv_iconst hC.1 hC.2.1 hd hv (h θ p l e R s m args below meth c FQ H locs cells slots lr hC hH hl hr hF)
theorem kv_bipush {μ : kM} {d mc ms pc : Nat} {ls : List (Option Value)} {st : List Value} {σ : kS} {Q : Option Value → kS → Prop} {n : Int} {v : Int32} (hd : decode μ.2.1 pc = .ok (.bipush n, 2)) (hv : (Int8.ofInt n).toInt32 = v) (h : kV μ d mc ms (pc + 2) ls (.int v :: st) σ Q) : kV μ d mc ms pc ls (st) σ Q := by
  intro θ p l e R s m args below meth c FQ H locs cells slots lr hC hH hl hr hF
  exact lv_bipush hC.1 hC.2.1 hd hv (h θ p l e R s m args below meth c FQ H locs cells slots lr hC hH hl hr hF)
theorem kv_sipush {μ : kM} {d mc ms pc : Nat} {ls : List (Option Value)} {st : List Value} {σ : kS} {Q : Option Value → kS → Prop} {n : Int} {v : Int32} (hd : decode μ.2.1 pc = .ok (.sipush n, 3)) (hv : (Int16.ofInt n).toInt32 = v) (h : kV μ d mc ms (pc + 3) ls (.int v :: st) σ Q) : kV μ d mc ms pc ls (st) σ Q := by
  intro θ p l e R s m args below meth c FQ H locs cells slots lr hC hH hl hr hF
  exact lv_sipush hC.1 hC.2.1 hd hv (h θ p l e R s m args below meth c FQ H locs cells slots lr hC hH hl hr hF)
theorem kv_lconst {μ : kM} {d mc ms pc : Nat} {ls : List (Option Value)} {st : List Value} {σ : kS} {Q : Option Value → kS → Prop} {n : Fin 2} {v : Int64} (hd : decode μ.2.1 pc = .ok (.lconst n, 1)) (hv : Int64.ofNat (n : Nat) = v) (h : kV μ d mc ms (pc + 1) ls (.long v :: st) σ Q) : kV μ d mc ms pc ls (st) σ Q := by
  intro θ p l e R s m args below meth c FQ H locs cells slots lr hC hH hl hr hF
  exact lv_lconst hC.1 hC.2.1 hd hv (h θ p l e R s m args below meth c FQ H locs cells slots lr hC hH hl hr hF)
theorem kv_null {μ : kM} {d mc ms pc : Nat} {ls : List (Option Value)} {st : List Value} {σ : kS} {Q : Option Value → kS → Prop}  (hd : decode μ.2.1 pc = .ok (.aconst_null, 1))  (h : kV μ d mc ms (pc + 1) ls (.null :: st) σ Q) : kV μ d mc ms pc ls (st) σ Q := by
  intro θ p l e R s m args below meth c FQ H locs cells slots lr hC hH hl hr hF
  exact lv_null hC.1 hC.2.1 hd  (h θ p l e R s m args below meth c FQ H locs cells slots lr hC hH hl hr hF)
theorem kv_iadd {μ : kM} {d mc ms pc : Nat} {ls : List (Option Value)} {st : List Value} {σ : kS} {Q : Option Value → kS → Prop} {x y : Int32} (hd : decode μ.2.1 pc = .ok (.iadd, 1))  (h : kV μ d mc ms (pc + 1) ls (.int (x + y) :: st) σ Q) : kV μ d mc ms pc ls (.int y :: .int x :: st) σ Q := by
  intro θ p l e R s m args below meth c FQ H locs cells slots lr hC hH hl hr hF
  exact lv_iadd hC.1 hC.2.1 hd  (h θ p l e R s m args below meth c FQ H locs cells slots lr hC hH hl hr hF)
theorem kv_isub {μ : kM} {d mc ms pc : Nat} {ls : List (Option Value)} {st : List Value} {σ : kS} {Q : Option Value → kS → Prop} {x y : Int32} (hd : decode μ.2.1 pc = .ok (.isub, 1))  (h : kV μ d mc ms (pc + 1) ls (.int (x - y) :: st) σ Q) : kV μ d mc ms pc ls (.int y :: .int x :: st) σ Q := by
  intro θ p l e R s m args below meth c FQ H locs cells slots lr hC hH hl hr hF
  exact lv_isub hC.1 hC.2.1 hd  (h θ p l e R s m args below meth c FQ H locs cells slots lr hC hH hl hr hF)
theorem kv_imul {μ : kM} {d mc ms pc : Nat} {ls : List (Option Value)} {st : List Value} {σ : kS} {Q : Option Value → kS → Prop} {x y : Int32} (hd : decode μ.2.1 pc = .ok (.imul, 1))  (h : kV μ d mc ms (pc + 1) ls (.int (x * y) :: st) σ Q) : kV μ d mc ms pc ls (.int y :: .int x :: st) σ Q := by
  intro θ p l e R s m args below meth c FQ H locs cells slots lr hC hH hl hr hF
  exact lv_imul hC.1 hC.2.1 hd  (h θ p l e R s m args below meth c FQ H locs cells slots lr hC hH hl hr hF)
theorem kv_iand {μ : kM} {d mc ms pc : Nat} {ls : List (Option Value)} {st : List Value} {σ : kS} {Q : Option Value → kS → Prop} {x y : Int32} (hd : decode μ.2.1 pc = .ok (.iand, 1))  (h : kV μ d mc ms (pc + 1) ls (.int (x &&& y) :: st) σ Q) : kV μ d mc ms pc ls (.int y :: .int x :: st) σ Q := by
  intro θ p l e R s m args below meth c FQ H locs cells slots lr hC hH hl hr hF
  exact lv_iand hC.1 hC.2.1 hd  (h θ p l e R s m args below meth c FQ H locs cells slots lr hC hH hl hr hF)
theorem kv_ior {μ : kM} {d mc ms pc : Nat} {ls : List (Option Value)} {st : List Value} {σ : kS} {Q : Option Value → kS → Prop} {x y : Int32} (hd : decode μ.2.1 pc = .ok (.ior, 1))  (h : kV μ d mc ms (pc + 1) ls (.int (x ||| y) :: st) σ Q) : kV μ d mc ms pc ls (.int y :: .int x :: st) σ Q := by
  intro θ p l e R s m args below meth c FQ H locs cells slots lr hC hH hl hr hF
  exact lv_ior hC.1 hC.2.1 hd  (h θ p l e R s m args below meth c FQ H locs cells slots lr hC hH hl hr hF)
theorem kv_ixor {μ : kM} {d mc ms pc : Nat} {ls : List (Option Value)} {st : List Value} {σ : kS} {Q : Option Value → kS → Prop} {x y : Int32} (hd : decode μ.2.1 pc = .ok (.ixor, 1))  (h : kV μ d mc ms (pc + 1) ls (.int (x ^^^ y) :: st) σ Q) : kV μ d mc ms pc ls (.int y :: .int x :: st) σ Q := by
  intro θ p l e R s m args below meth c FQ H locs cells slots lr hC hH hl hr hF
  exact lv_ixor hC.1 hC.2.1 hd  (h θ p l e R s m args below meth c FQ H locs cells slots lr hC hH hl hr hF)
theorem kv_ishl {μ : kM} {d mc ms pc : Nat} {ls : List (Option Value)} {st : List Value} {σ : kS} {Q : Option Value → kS → Prop} {x y : Int32} (hd : decode μ.2.1 pc = .ok (.ishl, 1))  (h : kV μ d mc ms (pc + 1) ls (.int (x <<< (y &&& 31)) :: st) σ Q) : kV μ d mc ms pc ls (.int y :: .int x :: st) σ Q := by
  intro θ p l e R s m args below meth c FQ H locs cells slots lr hC hH hl hr hF
  exact lv_ishl hC.1 hC.2.1 hd  (h θ p l e R s m args below meth c FQ H locs cells slots lr hC hH hl hr hF)
theorem kv_ishr {μ : kM} {d mc ms pc : Nat} {ls : List (Option Value)} {st : List Value} {σ : kS} {Q : Option Value → kS → Prop} {x y : Int32} (hd : decode μ.2.1 pc = .ok (.ishr, 1))  (h : kV μ d mc ms (pc + 1) ls (.int (x >>> (y &&& 31)) :: st) σ Q) : kV μ d mc ms pc ls (.int y :: .int x :: st) σ Q := by
  intro θ p l e R s m args below meth c FQ H locs cells slots lr hC hH hl hr hF
  exact lv_ishr hC.1 hC.2.1 hd  (h θ p l e R s m args below meth c FQ H locs cells slots lr hC hH hl hr hF)
theorem kv_idiv {μ : kM} {d mc ms pc : Nat} {ls : List (Option Value)} {st : List Value} {σ : kS} {Q : Option Value → kS → Prop} {x y : Int32} (hd : decode μ.2.1 pc = .ok (.idiv, 1)) (hne : ¬ y = 0) (h : kV μ d mc ms (pc + 1) ls (.int (x / y) :: st) σ Q) : kV μ d mc ms pc ls (.int y :: .int x :: st) σ Q := by
  intro θ p l e R s m args below meth c FQ H locs cells slots lr hC hH hl hr hF
  exact lv_idiv hC.1 hC.2.1 hd hne (h θ p l e R s m args below meth c FQ H locs cells slots lr hC hH hl hr hF)
theorem kv_irem {μ : kM} {d mc ms pc : Nat} {ls : List (Option Value)} {st : List Value} {σ : kS} {Q : Option Value → kS → Prop} {x y : Int32} (hd : decode μ.2.1 pc = .ok (.irem, 1)) (hne : ¬ y = 0) (h : kV μ d mc ms (pc + 1) ls (.int (x - x / y * y) :: st) σ Q) : kV μ d mc ms pc ls (.int y :: .int x :: st) σ Q := by
  intro θ p l e R s m args below meth c FQ H locs cells slots lr hC hH hl hr hF
  exact lv_irem hC.1 hC.2.1 hd hne (h θ p l e R s m args below meth c FQ H locs cells slots lr hC hH hl hr hF)
theorem kv_ladd {μ : kM} {d mc ms pc : Nat} {ls : List (Option Value)} {st : List Value} {σ : kS} {Q : Option Value → kS → Prop} {x y : Int64} (hd : decode μ.2.1 pc = .ok (.ladd, 1))  (h : kV μ d mc ms (pc + 1) ls (.long (x + y) :: st) σ Q) : kV μ d mc ms pc ls (.long y :: .long x :: st) σ Q := by
  intro θ p l e R s m args below meth c FQ H locs cells slots lr hC hH hl hr hF
  exact lv_ladd hC.1 hC.2.1 hd  (h θ p l e R s m args below meth c FQ H locs cells slots lr hC hH hl hr hF)
theorem kv_lsub {μ : kM} {d mc ms pc : Nat} {ls : List (Option Value)} {st : List Value} {σ : kS} {Q : Option Value → kS → Prop} {x y : Int64} (hd : decode μ.2.1 pc = .ok (.lsub, 1))  (h : kV μ d mc ms (pc + 1) ls (.long (x - y) :: st) σ Q) : kV μ d mc ms pc ls (.long y :: .long x :: st) σ Q := by
  intro θ p l e R s m args below meth c FQ H locs cells slots lr hC hH hl hr hF
  exact lv_lsub hC.1 hC.2.1 hd  (h θ p l e R s m args below meth c FQ H locs cells slots lr hC hH hl hr hF)
theorem kv_lor {μ : kM} {d mc ms pc : Nat} {ls : List (Option Value)} {st : List Value} {σ : kS} {Q : Option Value → kS → Prop} {x y : Int64} (hd : decode μ.2.1 pc = .ok (.lor, 1))  (h : kV μ d mc ms (pc + 1) ls (.long (x ||| y) :: st) σ Q) : kV μ d mc ms pc ls (.long y :: .long x :: st) σ Q := by
  intro θ p l e R s m args below meth c FQ H locs cells slots lr hC hH hl hr hF
  exact lv_lor hC.1 hC.2.1 hd  (h θ p l e R s m args below meth c FQ H locs cells slots lr hC hH hl hr hF)
theorem kv_lshl {μ : kM} {d mc ms pc : Nat} {ls : List (Option Value)} {st : List Value} {σ : kS} {Q : Option Value → kS → Prop} {x : Int64} {y : Int32} (hd : decode μ.2.1 pc = .ok (.lshl, 1))  (h : kV μ d mc ms (pc + 1) ls (.long (x <<< (y.toInt64 &&& 63)) :: st) σ Q) : kV μ d mc ms pc ls (.int y :: .long x :: st) σ Q := by
  intro θ p l e R s m args below meth c FQ H locs cells slots lr hC hH hl hr hF
  exact lv_lshl hC.1 hC.2.1 hd rfl (h θ p l e R s m args below meth c FQ H locs cells slots lr hC hH hl hr hF)
theorem kv_lcmp {μ : kM} {d mc ms pc : Nat} {ls : List (Option Value)} {st : List Value} {σ : kS} {Q : Option Value → kS → Prop} {x y : Int64} (hd : decode μ.2.1 pc = .ok (.lcmp, 1))  (h : kV μ d mc ms (pc + 1) ls (.int (lg_cmp x y) :: st) σ Q) : kV μ d mc ms pc ls (.long y :: .long x :: st) σ Q := by
  intro θ p l e R s m args below meth c FQ H locs cells slots lr hC hH hl hr hF
  exact W.lcmp hC.1 hC.2.1 hd  (h θ p l e R s m args below meth c FQ H locs cells slots lr hC hH hl hr hF)
theorem kv_i2l {μ : kM} {d mc ms pc : Nat} {ls : List (Option Value)} {st : List Value} {σ : kS} {Q : Option Value → kS → Prop} {x : Int32} (hd : decode μ.2.1 pc = .ok (.i2l, 1))  (h : kV μ d mc ms (pc + 1) ls (.long x.toInt64 :: st) σ Q) : kV μ d mc ms pc ls (.int x :: st) σ Q := by
  intro θ p l e R s m args below meth c FQ H locs cells slots lr hC hH hl hr hF
  exact lv_i2l hC.1 hC.2.1 hd rfl (h θ p l e R s m args below meth c FQ H locs cells slots lr hC hH hl hr hF)
theorem kv_l2i {μ : kM} {d mc ms pc : Nat} {ls : List (Option Value)} {st : List Value} {σ : kS} {Q : Option Value → kS → Prop} {x : Int64} (hd : decode μ.2.1 pc = .ok (.l2i, 1))  (h : kV μ d mc ms (pc + 1) ls (.int x.toInt32 :: st) σ Q) : kV μ d mc ms pc ls (.long x :: st) σ Q := by
  intro θ p l e R s m args below meth c FQ H locs cells slots lr hC hH hl hr hF
  exact lv_l2i hC.1 hC.2.1 hd rfl (h θ p l e R s m args below meth c FQ H locs cells slots lr hC hH hl hr hF)
theorem kv_i2b {μ : kM} {d mc ms pc : Nat} {ls : List (Option Value)} {st : List Value} {σ : kS} {Q : Option Value → kS → Prop} {x : Int32} (hd : decode μ.2.1 pc = .ok (.i2b, 1))  (h : kV μ d mc ms (pc + 1) ls (.int x.toInt8.toInt32 :: st) σ Q) : kV μ d mc ms pc ls (.int x :: st) σ Q := by
  intro θ p l e R s m args below meth c FQ H locs cells slots lr hC hH hl hr hF
  exact lv_i2b hC.1 hC.2.1 hd rfl (h θ p l e R s m args below meth c FQ H locs cells slots lr hC hH hl hr hF)
theorem kv_dup {μ : kM} {d mc ms pc : Nat} {ls : List (Option Value)} {st : List Value} {σ : kS} {Q : Option Value → kS → Prop} {v : Value} (hd : decode μ.2.1 pc = .ok (.dup, 1)) (hv : v.category = 1) (h : kV μ d mc ms (pc + 1) ls (v :: v :: st) σ Q) : kV μ d mc ms pc ls (v :: st) σ Q := by
  intro θ p l e R s m args below meth c FQ H locs cells slots lr hC hH hl hr hF
  exact lv_dup hC.1 hC.2.1 hd (by rw [kr_cat]; exact hv) (h θ p l e R s m args below meth c FQ H locs cells slots lr hC hH hl hr hF)
theorem kv_pop {μ : kM} {d mc ms pc : Nat} {ls : List (Option Value)} {st : List Value} {σ : kS} {Q : Option Value → kS → Prop} {v : Value} (hd : decode μ.2.1 pc = .ok (.pop, 1)) (hv : v.category = 1) (h : kV μ d mc ms (pc + 1) ls (st) σ Q) : kV μ d mc ms pc ls (v :: st) σ Q := by
  intro θ p l e R s m args below meth c FQ H locs cells slots lr hC hH hl hr hF
  exact lv_pop hC.1 hC.2.1 hd (va := kr θ v) (by rw [kr_cat]; exact hv) (h θ p l e R s m args below meth c FQ H locs cells slots lr hC hH hl hr hF)
theorem kv_dup2 {μ : kM} {d mc ms pc : Nat} {ls : List (Option Value)} {st : List Value} {σ : kS} {Q : Option Value → kS → Prop} {v w : Value} (hd : decode μ.2.1 pc = .ok (.dup2, 1)) (hv : v.category = 1) (hw : w.category = 1) (h : kV μ d mc ms (pc + 1) ls (v :: w :: v :: w :: st) σ Q) : kV μ d mc ms pc ls (v :: w :: st) σ Q := by
  intro θ p l e R s m args below meth c FQ H locs cells slots lr hC hH hl hr hF
  exact lv_dup2_11 hC.1 hC.2.1 hd (by rw [kr_cat]; exact hv) (by rw [kr_cat]; exact hw) (h θ p l e R s m args below meth c FQ H locs cells slots lr hC hH hl hr hF)
theorem kv_if_eq {μ : kM} {d mc ms pc : Nat} {ls : List (Option Value)} {st : List Value} {σ : kS} {Q : Option Value → kS → Prop} {x : Int32} {off : Int} {tgt : Nat} (hd : decode μ.2.1 pc = .ok (.ifCond .eq off, 3)) (ht : (pc : Int) + off = (tgt : Int)) (h1 : x = 0 → kV μ d mc ms tgt ls st σ Q) (h2 : ¬ x = 0 → kV μ d mc ms (pc + 3) ls st σ Q) : kV μ d mc ms pc ls (.int x :: st) σ Q := by
  intro θ p l e R s m args below meth c FQ H locs cells slots lr hC hH hl hr hF
  exact lv_if_eq hC.1 hC.2.1 hd ht (fun q => h1 q θ p l e R s m args below meth c FQ H locs cells slots lr hC hH hl hr hF) (fun q => h2 q θ p l e R s m args below meth c FQ H locs cells slots lr hC hH hl hr hF)
theorem kv_if_ne {μ : kM} {d mc ms pc : Nat} {ls : List (Option Value)} {st : List Value} {σ : kS} {Q : Option Value → kS → Prop} {x : Int32} {off : Int} {tgt : Nat} (hd : decode μ.2.1 pc = .ok (.ifCond .ne off, 3)) (ht : (pc : Int) + off = (tgt : Int)) (h1 : ¬ x = 0 → kV μ d mc ms tgt ls st σ Q) (h2 : x = 0 → kV μ d mc ms (pc + 3) ls st σ Q) : kV μ d mc ms pc ls (.int x :: st) σ Q := by
  intro θ p l e R s m args below meth c FQ H locs cells slots lr hC hH hl hr hF
  exact lv_if_ne hC.1 hC.2.1 hd ht (fun q => h1 q θ p l e R s m args below meth c FQ H locs cells slots lr hC hH hl hr hF) (fun q => h2 q θ p l e R s m args below meth c FQ H locs cells slots lr hC hH hl hr hF)
theorem kv_if_lt {μ : kM} {d mc ms pc : Nat} {ls : List (Option Value)} {st : List Value} {σ : kS} {Q : Option Value → kS → Prop} {x : Int32} {off : Int} {tgt : Nat} (hd : decode μ.2.1 pc = .ok (.ifCond .lt off, 3)) (ht : (pc : Int) + off = (tgt : Int)) (h1 : x < 0 → kV μ d mc ms tgt ls st σ Q) (h2 : ¬ x < 0 → kV μ d mc ms (pc + 3) ls st σ Q) : kV μ d mc ms pc ls (.int x :: st) σ Q := by
  intro θ p l e R s m args below meth c FQ H locs cells slots lr hC hH hl hr hF
  exact lv_if_lt hC.1 hC.2.1 hd ht (fun q => h1 q θ p l e R s m args below meth c FQ H locs cells slots lr hC hH hl hr hF) (fun q => h2 q θ p l e R s m args below meth c FQ H locs cells slots lr hC hH hl hr hF)
theorem kv_if_ge {μ : kM} {d mc ms pc : Nat} {ls : List (Option Value)} {st : List Value} {σ : kS} {Q : Option Value → kS → Prop} {x : Int32} {off : Int} {tgt : Nat} (hd : decode μ.2.1 pc = .ok (.ifCond .ge off, 3)) (ht : (pc : Int) + off = (tgt : Int)) (h1 : 0 ≤ x → kV μ d mc ms tgt ls st σ Q) (h2 : ¬ 0 ≤ x → kV μ d mc ms (pc + 3) ls st σ Q) : kV μ d mc ms pc ls (.int x :: st) σ Q := by
  intro θ p l e R s m args below meth c FQ H locs cells slots lr hC hH hl hr hF
  exact lv_if_ge hC.1 hC.2.1 hd ht (fun q => h1 q θ p l e R s m args below meth c FQ H locs cells slots lr hC hH hl hr hF) (fun q => h2 q θ p l e R s m args below meth c FQ H locs cells slots lr hC hH hl hr hF)
theorem kv_if_gt {μ : kM} {d mc ms pc : Nat} {ls : List (Option Value)} {st : List Value} {σ : kS} {Q : Option Value → kS → Prop} {x : Int32} {off : Int} {tgt : Nat} (hd : decode μ.2.1 pc = .ok (.ifCond .gt off, 3)) (ht : (pc : Int) + off = (tgt : Int)) (h1 : 0 < x → kV μ d mc ms tgt ls st σ Q) (h2 : ¬ 0 < x → kV μ d mc ms (pc + 3) ls st σ Q) : kV μ d mc ms pc ls (.int x :: st) σ Q := by
  intro θ p l e R s m args below meth c FQ H locs cells slots lr hC hH hl hr hF
  exact lv_if_gt hC.1 hC.2.1 hd ht (fun q => h1 q θ p l e R s m args below meth c FQ H locs cells slots lr hC hH hl hr hF) (fun q => h2 q θ p l e R s m args below meth c FQ H locs cells slots lr hC hH hl hr hF)
theorem kv_if_le {μ : kM} {d mc ms pc : Nat} {ls : List (Option Value)} {st : List Value} {σ : kS} {Q : Option Value → kS → Prop} {x : Int32} {off : Int} {tgt : Nat} (hd : decode μ.2.1 pc = .ok (.ifCond .le off, 3)) (ht : (pc : Int) + off = (tgt : Int)) (h1 : x ≤ 0 → kV μ d mc ms tgt ls st σ Q) (h2 : ¬ x ≤ 0 → kV μ d mc ms (pc + 3) ls st σ Q) : kV μ d mc ms pc ls (.int x :: st) σ Q := by
  intro θ p l e R s m args below meth c FQ H locs cells slots lr hC hH hl hr hF
  exact lv_if_le hC.1 hC.2.1 hd ht (fun q => h1 q θ p l e R s m args below meth c FQ H locs cells slots lr hC hH hl hr hF) (fun q => h2 q θ p l e R s m args below meth c FQ H locs cells slots lr hC hH hl hr hF)
theorem kv_icmp_eq {μ : kM} {d mc ms pc : Nat} {ls : List (Option Value)} {st : List Value} {σ : kS} {Q : Option Value → kS → Prop} {x y : Int32} {off : Int} {tgt : Nat} (hd : decode μ.2.1 pc = .ok (.if_icmp .eq off, 3)) (ht : (pc : Int) + off = (tgt : Int)) (h1 : x = y → kV μ d mc ms tgt ls st σ Q) (h2 : ¬ x = y → kV μ d mc ms (pc + 3) ls st σ Q) : kV μ d mc ms pc ls (.int y :: .int x :: st) σ Q := by
  intro θ p l e R s m args below meth c FQ H locs cells slots lr hC hH hl hr hF
  exact lv_icmp_eq hC.1 hC.2.1 hd ht (fun q => h1 q θ p l e R s m args below meth c FQ H locs cells slots lr hC hH hl hr hF) (fun q => h2 q θ p l e R s m args below meth c FQ H locs cells slots lr hC hH hl hr hF)
theorem kv_icmp_ne {μ : kM} {d mc ms pc : Nat} {ls : List (Option Value)} {st : List Value} {σ : kS} {Q : Option Value → kS → Prop} {x y : Int32} {off : Int} {tgt : Nat} (hd : decode μ.2.1 pc = .ok (.if_icmp .ne off, 3)) (ht : (pc : Int) + off = (tgt : Int)) (h1 : ¬ x = y → kV μ d mc ms tgt ls st σ Q) (h2 : x = y → kV μ d mc ms (pc + 3) ls st σ Q) : kV μ d mc ms pc ls (.int y :: .int x :: st) σ Q := by
  intro θ p l e R s m args below meth c FQ H locs cells slots lr hC hH hl hr hF
  exact lv_icmp_ne hC.1 hC.2.1 hd ht (fun q => h1 q θ p l e R s m args below meth c FQ H locs cells slots lr hC hH hl hr hF) (fun q => h2 q θ p l e R s m args below meth c FQ H locs cells slots lr hC hH hl hr hF)
theorem kv_icmp_lt {μ : kM} {d mc ms pc : Nat} {ls : List (Option Value)} {st : List Value} {σ : kS} {Q : Option Value → kS → Prop} {x y : Int32} {off : Int} {tgt : Nat} (hd : decode μ.2.1 pc = .ok (.if_icmp .lt off, 3)) (ht : (pc : Int) + off = (tgt : Int)) (h1 : x < y → kV μ d mc ms tgt ls st σ Q) (h2 : ¬ x < y → kV μ d mc ms (pc + 3) ls st σ Q) : kV μ d mc ms pc ls (.int y :: .int x :: st) σ Q := by
  intro θ p l e R s m args below meth c FQ H locs cells slots lr hC hH hl hr hF
  exact lv_icmp_lt hC.1 hC.2.1 hd ht (fun q => h1 q θ p l e R s m args below meth c FQ H locs cells slots lr hC hH hl hr hF) (fun q => h2 q θ p l e R s m args below meth c FQ H locs cells slots lr hC hH hl hr hF)
theorem kv_icmp_ge {μ : kM} {d mc ms pc : Nat} {ls : List (Option Value)} {st : List Value} {σ : kS} {Q : Option Value → kS → Prop} {x y : Int32} {off : Int} {tgt : Nat} (hd : decode μ.2.1 pc = .ok (.if_icmp .ge off, 3)) (ht : (pc : Int) + off = (tgt : Int)) (h1 : y ≤ x → kV μ d mc ms tgt ls st σ Q) (h2 : ¬ y ≤ x → kV μ d mc ms (pc + 3) ls st σ Q) : kV μ d mc ms pc ls (.int y :: .int x :: st) σ Q := by
  intro θ p l e R s m args below meth c FQ H locs cells slots lr hC hH hl hr hF
  exact lv_icmp_ge hC.1 hC.2.1 hd ht (fun q => h1 q θ p l e R s m args below meth c FQ H locs cells slots lr hC hH hl hr hF) (fun q => h2 q θ p l e R s m args below meth c FQ H locs cells slots lr hC hH hl hr hF)
theorem kv_icmp_gt {μ : kM} {d mc ms pc : Nat} {ls : List (Option Value)} {st : List Value} {σ : kS} {Q : Option Value → kS → Prop} {x y : Int32} {off : Int} {tgt : Nat} (hd : decode μ.2.1 pc = .ok (.if_icmp .gt off, 3)) (ht : (pc : Int) + off = (tgt : Int)) (h1 : y < x → kV μ d mc ms tgt ls st σ Q) (h2 : ¬ y < x → kV μ d mc ms (pc + 3) ls st σ Q) : kV μ d mc ms pc ls (.int y :: .int x :: st) σ Q := by
  intro θ p l e R s m args below meth c FQ H locs cells slots lr hC hH hl hr hF
  exact lv_icmp_gt hC.1 hC.2.1 hd ht (fun q => h1 q θ p l e R s m args below meth c FQ H locs cells slots lr hC hH hl hr hF) (fun q => h2 q θ p l e R s m args below meth c FQ H locs cells slots lr hC hH hl hr hF)
theorem kv_icmp_le {μ : kM} {d mc ms pc : Nat} {ls : List (Option Value)} {st : List Value} {σ : kS} {Q : Option Value → kS → Prop} {x y : Int32} {off : Int} {tgt : Nat} (hd : decode μ.2.1 pc = .ok (.if_icmp .le off, 3)) (ht : (pc : Int) + off = (tgt : Int)) (h1 : x ≤ y → kV μ d mc ms tgt ls st σ Q) (h2 : ¬ x ≤ y → kV μ d mc ms (pc + 3) ls st σ Q) : kV μ d mc ms pc ls (.int y :: .int x :: st) σ Q := by
  intro θ p l e R s m args below meth c FQ H locs cells slots lr hC hH hl hr hF
  exact lv_icmp_le hC.1 hC.2.1 hd ht (fun q => h1 q θ p l e R s m args below meth c FQ H locs cells slots lr hC hH hl hr hF) (fun q => h2 q θ p l e R s m args below meth c FQ H locs cells slots lr hC hH hl hr hF)
theorem kv_goto {μ : kM} {d mc ms pc : Nat} {ls : List (Option Value)} {st : List Value} {σ : kS} {Q : Option Value → kS → Prop} {off : Int} {tgt : Nat} (hd : decode μ.2.1 pc = .ok (.goto off, 3)) (ht : (pc : Int) + off = (tgt : Int)) (h : kV μ d mc ms tgt ls st σ Q) : kV μ d mc ms pc ls st σ Q := by
  intro θ p l e R s m args below meth c FQ H locs cells slots lr hC hH hl hr hF
  exact lv_goto hC.1 hC.2.1 hd ht (h θ p l e R s m args below meth c FQ H locs cells slots lr hC hH hl hr hF)
theorem kv_ifnull {μ : kM} {d mc ms pc : Nat} {ls : List (Option Value)} {st : List Value} {σ : kS} {Q : Option Value → kS → Prop} {x : Nat} {off : Int} (hd : decode μ.2.1 pc = .ok (.ifnull off, 3)) (h : kV μ d mc ms (pc + 3) ls st σ Q) : kV μ d mc ms pc ls (.ref x :: st) σ Q := by
  intro θ p l e R s m args below meth c FQ H locs cells slots lr hC hH hl hr hF
  exact lv_ifnull hC.1 hC.2.1 hd (h θ p l e R s m args below meth c FQ H locs cells slots lr hC hH hl hr hF)
theorem kv_ifnullN {μ : kM} {d mc ms pc : Nat} {ls : List (Option Value)} {st : List Value} {σ : kS} {Q : Option Value → kS → Prop}  {off : Int} {tgt : Nat} (hd : decode μ.2.1 pc = .ok (.ifnull off, 3)) (ht : (pc : Int) + off = (tgt : Int)) (h : kV μ d mc ms tgt ls st σ Q) : kV μ d mc ms pc ls (.null :: st) σ Q := by
  intro θ p l e R s m args below meth c FQ H locs cells slots lr hC hH hl hr hF
  exact lv_ifnullN hC.1 hC.2.1 hd ht (h θ p l e R s m args below meth c FQ H locs cells slots lr hC hH hl hr hF)
theorem kv_ifnonnull {μ : kM} {d mc ms pc : Nat} {ls : List (Option Value)} {st : List Value} {σ : kS} {Q : Option Value → kS → Prop} {x : Nat} {off : Int} {tgt : Nat} (hd : decode μ.2.1 pc = .ok (.ifnonnull off, 3)) (ht : (pc : Int) + off = (tgt : Int)) (h : kV μ d mc ms tgt ls st σ Q) : kV μ d mc ms pc ls (.ref x :: st) σ Q := by
  intro θ p l e R s m args below meth c FQ H locs cells slots lr hC hH hl hr hF
  exact lv_ifnonnull hC.1 hC.2.1 hd ht (h θ p l e R s m args below meth c FQ H locs cells slots lr hC hH hl hr hF)
theorem kv_ifnonnullN {μ : kM} {d mc ms pc : Nat} {ls : List (Option Value)} {st : List Value} {σ : kS} {Q : Option Value → kS → Prop}  {off : Int} (hd : decode μ.2.1 pc = .ok (.ifnonnull off, 3)) (h : kV μ d mc ms (pc + 3) ls st σ Q) : kV μ d mc ms pc ls (.null :: st) σ Q := by
  intro θ p l e R s m args below meth c FQ H locs cells slots lr hC hH hl hr hF
  exact lv_ifnonnullN hC.1 hC.2.1 hd (h θ p l e R s m args below meth c FQ H locs cells slots lr hC hH hl hr hF)
theorem kv_tabOut {μ : kM} {d mc ms pc : Nat} {ls : List (Option Value)} {st : List Value} {σ : kS} {Q : Option Value → kS → Prop} {dflt lo hi : Int} {offs : Array Int} {len : Nat} {x : Int32} {tgt : Nat} (hd : decode μ.2.1 pc = .ok (.tableswitch dflt lo hi offs, len)) (hx : x.toInt < lo ∨ hi < x.toInt) (ht : (pc : Int) + dflt = (tgt : Int)) (h : kV μ d mc ms tgt ls st σ Q) : kV μ d mc ms pc ls (.int x :: st) σ Q := by
  intro θ p l e R s m args below meth c FQ H locs cells slots lr hC hH hl hr hF
  exact lv_tableOut hC.1 hC.2.1 hd hx ht (h θ p l e R s m args below meth c FQ H locs cells slots lr hC hH hl hr hF)
theorem kv_tabIn {μ : kM} {d mc ms pc : Nat} {ls : List (Option Value)} {st : List Value} {σ : kS} {Q : Option Value → kS → Prop} {dflt lo hi : Int} {offs : Array Int} {len : Nat} {x : Int32} {off : Int} {tgt : Nat} (hd : decode μ.2.1 pc = .ok (.tableswitch dflt lo hi offs, len)) (h1 : ¬ x.toInt < lo) (h2 : ¬ hi < x.toInt) (ho : offs[(x.toInt - lo).toNat]? = some off) (ht : (pc : Int) + off = (tgt : Int)) (h : kV μ d mc ms tgt ls st σ Q) : kV μ d mc ms pc ls (.int x :: st) σ Q := by
  intro θ p l e R s m args below meth c FQ H locs cells slots lr hC hH hl hr hF
  exact lv_tableIn hC.1 hC.2.1 hd h1 h2 ho ht (h θ p l e R s m args below meth c FQ H locs cells slots lr hC hH hl hr hF)
theorem kv_look {μ : kM} {d mc ms pc : Nat} {ls : List (Option Value)} {st : List Value} {σ : kS} {Q : Option Value → kS → Prop} {dflt : Int} {ps : Array (Int × Int)} {len : Nat} {x : Int32} {off : Int} {tgt : Nat} (hd : decode μ.2.1 pc = .ok (.lookupswitch dflt ps, len)) (hp : (ps.toList.zip (ps.toList.drop 1)).all (fun (a, next) => a.1 < next.1) = true) (ho : Op.lookupswitch.offset ps.toList dflt x.toInt = off) (ht : (pc : Int) + off = (tgt : Int)) (h : kV μ d mc ms tgt ls st σ Q) : kV μ d mc ms pc ls (.int x :: st) σ Q := by
  intro θ p l e R s m args below meth c FQ H locs cells slots lr hC hH hl hr hF
  exact lv_lookup hC.1 hC.2.1 hd hp ho ht (h θ p l e R s m args below meth c FQ H locs cells slots lr hC hH hl hr hF)
theorem kv_ldc {μ : kM} {d mc ms pc : Nat} {ls : List (Option Value)} {st : List Value} {σ : kS} {Q : Option Value → kS → Prop} {idx : Nat} {v : Int32} (hd : decode μ.2.1 pc = .ok (.ldc idx, 2)) (hc : Cond.constant μ.1 idx v ∈ kl_ws) (h : kV μ d mc ms (pc + 2) ls (.int v :: st) σ Q) : kV μ d mc ms pc ls st σ Q := by
  intro θ p l e R s m args below meth c FQ H locs cells slots lr hC hH hl hr hF
  exact lv_ldc hC.1 hC.2.1 hC.2.2.2.1 (hC.2.2.2.2.1 _ hc) hd (h θ p l e R s m args below meth c FQ H locs cells slots lr hC hH hl hr hF)
theorem kv_ldc2 {μ : kM} {d mc ms pc : Nat} {ls : List (Option Value)} {st : List Value} {σ : kS} {Q : Option Value → kS → Prop} {idx : Nat} {v : Int64} (hd : decode μ.2.1 pc = .ok (.ldc2_w idx, 3)) (hc : Cond.constantLong μ.1 idx v ∈ kl_ws) (h : kV μ d mc ms (pc + 3) ls (.long v :: st) σ Q) : kV μ d mc ms pc ls st σ Q := by
  intro θ p l e R s m args below meth c FQ H locs cells slots lr hC hH hl hr hF
  exact lv_ldc2 hC.1 hC.2.1 hC.2.2.2.1 (hC.2.2.2.2.1 _ hc) hd (h θ p l e R s m args below meth c FQ H locs cells slots lr hC hH hl hr hF)
theorem kLv_at {θ : kT} {ls : List (Option Value)} {lr : Array Slot} {nL k : Nat} {v : Value} (h : lv_has lr nL (kLv θ ls)) (hk : ls[k]? = some (some v)) : lr[k]? = some (.val (kr θ v)) := h.2.2 (k, kr θ v) (kLv_mem.mpr ⟨v, hk, rfl⟩)
theorem kLv_s1 {θ : kT} {ls : List (Option Value)} {lr : Array Slot} {nL k : Nat} {v : Value} (hp : ∀ j, j + 1 = k → ∀ w, ls[j]? = some (some w) → ¬ w.category = 2) (h : lv_has lr nL ((k, kr θ v) :: (kLv θ ls).filter (fun q => !(q.1 == k) && !(q.1 + 1 == k && q.2.category == 2)))) : lv_has lr nL (kLv θ (ls.set k (some v))) := by
  refine ⟨h.1, h.2.1, fun q hq => h.2.2 q ?_⟩
  obtain ⟨w, h1, h2⟩ := kLv_mem.mp hq
  rw [List.getElem?_set] at h1
  by_cases e : k = q.1
  · rw [if_pos e] at h1
    split at h1
    · cases h1
      exact List.mem_cons.mpr (Or.inl (Prod.ext e.symm h2))
    · cases h1
  · rw [if_neg e] at h1
    refine List.mem_cons_of_mem _ (List.mem_filter.mpr ⟨kLv_mem.mpr ⟨w, h1, h2⟩, ?_⟩)
    have e2 : ¬ q.1 = k := fun z => e z.symm
    simp only [Bool.and_eq_true, Bool.not_eq_true', beq_eq_false_iff_ne, ne_eq, Bool.and_eq_false_iff, e2, not_false_eq_true, true_and]
    by_cases z : q.1 + 1 = k
    · refine Or.inr ?_
      rw [h2, kr_cat]
      exact hp q.1 z w h1
    · exact Or.inl z
theorem kLv_s2 {θ : kT} {ls : List (Option Value)} {lr : Array Slot} {nL k : Nat} {v : Value} (hp : ∀ j, j + 1 = k → ∀ w, ls[j]? = some (some w) → ¬ w.category = 2) (h : lv_has lr nL ((k, kr θ v) :: (kLv θ ls).filter (fun q => !(q.1 == k) && (!(q.1 == k + 1) && !(q.1 + 1 == k && q.2.category == 2))))) : lv_has lr nL (kLv θ ((ls.set k (some v)).set (k + 1) none)) := by
  refine ⟨h.1, h.2.1, fun q hq => h.2.2 q ?_⟩
  obtain ⟨w, h1, h2⟩ := kLv_mem.mp hq
  rw [List.getElem?_set] at h1
  by_cases e1 : k + 1 = q.1
  · rw [if_pos e1] at h1
    split at h1 <;> cases h1
  · rw [if_neg e1, List.getElem?_set] at h1
    by_cases e : k = q.1
    · rw [if_pos e] at h1
      split at h1
      · cases h1
        exact List.mem_cons.mpr (Or.inl (Prod.ext e.symm h2))
      · cases h1
    · rw [if_neg e] at h1
      refine List.mem_cons_of_mem _ (List.mem_filter.mpr ⟨kLv_mem.mpr ⟨w, h1, h2⟩, ?_⟩)
      have e2 : ¬ q.1 = k := fun z => e z.symm
      have e3 : ¬ q.1 = k + 1 := fun z => e1 z.symm
      simp only [Bool.and_eq_true, Bool.not_eq_true', beq_eq_false_iff_ne, ne_eq, Bool.and_eq_false_iff, e2, e3, not_false_eq_true, true_and]
      by_cases z : q.1 + 1 = k
      · refine Or.inr ?_
        rw [h2, kr_cat]
        exact hp q.1 z w h1
      · exact Or.inl z
/-- no long ends there -/
def knl (o : Option Value) : Bool := match o with
  | some (.long _) => false
  | some (.double _) => false
  | _ => true
theorem knl_cat {o : Option Value} (h : knl o = true) : ∀ w, o = some w → ¬ w.category = 2 := by
  rintro w rfl
  cases w <;> simp [knl] at h <;> simp [Value.category]
theorem kv_iload0 {μ : kM} {d mc ms pc : Nat} {r : List (Option Value)} {st : List Value} {σ : kS} {Q : Option Value → kS → Prop} {v : Int32} (hd : decode μ.2.1 pc = .ok (.iload_n 0, 1)) (h : kV μ d mc ms (pc + 1) (some (.int v) :: r) (.int v :: st) σ Q) : kV μ d mc ms pc (some (.int v) :: r) st σ Q := by
  intro θ p l e R s m args below meth c FQ H locs cells slots lr hC hH hl hr hF
  exact lv_iload_n (i := 0) hC.1 hC.2.1 hd rfl (kLv_at (k := 0) hl.1 rfl) (h θ p l e R s m args below meth c FQ H locs cells slots lr hC hH hl hr hF)
theorem kv_lload0 {μ : kM} {d mc ms pc : Nat} {r : List (Option Value)} {st : List Value} {σ : kS} {Q : Option Value → kS → Prop} {v : Int64} (hd : decode μ.2.1 pc = .ok (.lload_n 0, 1)) (h : kV μ d mc ms (pc + 1) (some (.long v) :: r) (.long v :: st) σ Q) : kV μ d mc ms pc (some (.long v) :: r) st σ Q := by
  intro θ p l e R s m args below meth c FQ H locs cells slots lr hC hH hl hr hF
  exact lv_lload_n (i := 0) hC.1 hC.2.1 hd rfl (kLv_at (k := 0) hl.1 rfl) (h θ p l e R s m args below meth c FQ H locs cells slots lr hC hH hl hr hF)
theorem kv_aload0 {μ : kM} {d mc ms pc : Nat} {r : List (Option Value)} {st : List Value} {σ : kS} {Q : Option Value → kS → Prop} {v : Nat} (hd : decode μ.2.1 pc = .ok (.aload_n 0, 1)) (h : kV μ d mc ms (pc + 1) (some (.ref v) :: r) (.ref v :: st) σ Q) : kV μ d mc ms pc (some (.ref v) :: r) st σ Q := by
  intro θ p l e R s m args below meth c FQ H locs cells slots lr hC hH hl hr hF
  exact lv_aload_n (i := 0) hC.1 hC.2.1 hd rfl (kLv_at (k := 0) hl.1 rfl) (h θ p l e R s m args below meth c FQ H locs cells slots lr hC hH hl hr hF)
theorem kv_aloadN0 {μ : kM} {d mc ms pc : Nat} {r : List (Option Value)} {st : List Value} {σ : kS} {Q : Option Value → kS → Prop}  (hd : decode μ.2.1 pc = .ok (.aload_n 0, 1)) (h : kV μ d mc ms (pc + 1) (some (.null) :: r) (.null :: st) σ Q) : kV μ d mc ms pc (some (.null) :: r) st σ Q := by
  intro θ p l e R s m args below meth c FQ H locs cells slots lr hC hH hl hr hF
  exact lv_aload_nN (i := 0) hC.1 hC.2.1 hd rfl (kLv_at (k := 0) hl.1 rfl) (h θ p l e R s m args below meth c FQ H locs cells slots lr hC hH hl hr hF)
theorem kv_istore0 {μ : kM} {d mc ms pc : Nat} {r : List (Option Value)} {st : List Value} {σ : kS} {Q : Option Value → kS → Prop} {b : Option Value} {v : Int32} (hd : decode μ.2.1 pc = .ok (.istore_n 0, 1))  (h : kV μ d mc ms (pc + 1) (some (.int v) :: r) st σ Q) : kV μ d mc ms pc (b :: r) (.int v :: st) σ Q := by
  intro θ p l e R s m args below meth c FQ H locs cells slots lr hC hH hl hr hF
  have hk : 0 < μ.2.2.1 := by rw [← hl.2]; simp
  refine lv_istore_n (i := 0) hC.1 hC.2.1 hd rfl hl.1 hk rfl (fun lr2 h2 => ?_)
  have h3 := kLv_s1 (v := .int v) (k := 0) (fun j hj => absurd hj (Nat.succ_ne_zero j)) h2
  exact h θ p l e R s m args below meth c FQ H locs cells slots lr2 hC hH ⟨h3, by rw [← hl.2]; simp⟩ hr hF
theorem kv_astore0 {μ : kM} {d mc ms pc : Nat} {r : List (Option Value)} {st : List Value} {σ : kS} {Q : Option Value → kS → Prop} {b : Option Value} {v : Nat} (hd : decode μ.2.1 pc = .ok (.astore_n 0, 1))  (h : kV μ d mc ms (pc + 1) (some (.ref v) :: r) st σ Q) : kV μ d mc ms pc (b :: r) (.ref v :: st) σ Q := by
  intro θ p l e R s m args below meth c FQ H locs cells slots lr hC hH hl hr hF
  have hk : 0 < μ.2.2.1 := by rw [← hl.2]; simp
  refine lv_astore_n (i := 0) hC.1 hC.2.1 hd rfl hl.1 hk rfl (fun lr2 h2 => ?_)
  have h3 := kLv_s1 (v := .ref v) (k := 0) (fun j hj => absurd hj (Nat.succ_ne_zero j)) h2
  exact h θ p l e R s m args below meth c FQ H locs cells slots lr2 hC hH ⟨h3, by rw [← hl.2]; simp⟩ hr hF
theorem kv_astoreN0 {μ : kM} {d mc ms pc : Nat} {r : List (Option Value)} {st : List Value} {σ : kS} {Q : Option Value → kS → Prop} {b : Option Value}  (hd : decode μ.2.1 pc = .ok (.astore_n 0, 1))  (h : kV μ d mc ms (pc + 1) (some (.null) :: r) st σ Q) : kV μ d mc ms pc (b :: r) (.null :: st) σ Q := by
  intro θ p l e R s m args below meth c FQ H locs cells slots lr hC hH hl hr hF
  have hk : 0 < μ.2.2.1 := by rw [← hl.2]; simp
  refine lv_astore_nN (i := 0) hC.1 hC.2.1 hd rfl hl.1 hk rfl (fun lr2 h2 => ?_)
  have h3 := kLv_s1 (v := .null) (k := 0) (fun j hj => absurd hj (Nat.succ_ne_zero j)) h2
  exact h θ p l e R s m args below meth c FQ H locs cells slots lr2 hC hH ⟨h3, by rw [← hl.2]; simp⟩ hr hF
theorem kv_lstore0 {μ : kM} {d mc ms pc : Nat} {r : List (Option Value)} {st : List Value} {σ : kS} {Q : Option Value → kS → Prop} {b b2 : Option Value} {v : Int64} (hd : decode μ.2.1 pc = .ok (.lstore_n 0, 1))  (h : kV μ d mc ms (pc + 1) (some (.long v) :: none :: r) st σ Q) : kV μ d mc ms pc (b :: b2 :: r) (.long v :: st) σ Q := by
  intro θ p l e R s m args below meth c FQ H locs cells slots lr hC hH hl hr hF
  have hk : 0 + 1 < μ.2.2.1 := by rw [← hl.2]; simp
  refine lv_lstore_n (i := 0) hC.1 hC.2.1 hd rfl hl.1 hk rfl (fun lr2 h2 => ?_)
  have h3 := kLv_s2 (v := .long v) (k := 0) (fun j hj => absurd hj (Nat.succ_ne_zero j)) h2
  exact h θ p l e R s m args below meth c FQ H locs cells slots lr2 hC hH ⟨h3, by rw [← hl.2]; simp⟩ hr hF
theorem kv_iinc0 {μ : kM} {d mc ms pc : Nat} {r : List (Option Value)} {st : List Value} {σ : kS} {Q : Option Value → kS → Prop} {v w : Int32} {n : Int} (hd : decode μ.2.1 pc = .ok (.iinc 0 n, 3)) (hw : Int32.ofInt n = w)  (h : kV μ d mc ms (pc + 3) (some (.int (v + w)) :: r) st σ Q) : kV μ d mc ms pc (some (.int v) :: r) st σ Q := by
  intro θ p l e R s m args below meth c FQ H locs cells slots lr hC hH hl hr hF
  have hk : 0 < μ.2.2.1 := by rw [← hl.2]; simp
  obtain ⟨z, hz⟩ := List.getElem?_of_mem (kLv_mem (θ := θ) (ls := some (.int v) :: r) (q := (0, .int v)) |>.mpr ⟨.int v, rfl, rfl⟩)
  refine lv_iinc (i := 0) (k := z) (x := v) (v := v + w) hC.1 hC.2.1 hd hl.1 hz (by rw [hw]) hk rfl (fun lr2 h2 => ?_)
  have h3 := kLv_s1 (v := .int (v + w)) (k := 0) (fun j hj => absurd hj (Nat.succ_ne_zero j)) h2
  exact h θ p l e R s m args below meth c FQ H locs cells slots lr2 hC hH ⟨h3, by rw [← hl.2]; simp⟩ hr hF
theorem kv_iload1 {μ : kM} {d mc ms pc : Nat} {a0 : Option Value} {r : List (Option Value)} {st : List Value} {σ : kS} {Q : Option Value → kS → Prop} {v : Int32} (hd : decode μ.2.1 pc = .ok (.iload_n 1, 1)) (h : kV μ d mc ms (pc + 1) (a0 :: some (.int v) :: r) (.int v :: st) σ Q) : kV μ d mc ms pc (a0 :: some (.int v) :: r) st σ Q := by
  intro θ p l e R s m args below meth c FQ H locs cells slots lr hC hH hl hr hF
  exact lv_iload_n (i := 1) hC.1 hC.2.1 hd rfl (kLv_at (k := 1) hl.1 rfl) (h θ p l e R s m args below meth c FQ H locs cells slots lr hC hH hl hr hF)
theorem kv_lload1 {μ : kM} {d mc ms pc : Nat} {a0 : Option Value} {r : List (Option Value)} {st : List Value} {σ : kS} {Q : Option Value → kS → Prop} {v : Int64} (hd : decode μ.2.1 pc = .ok (.lload_n 1, 1)) (h : kV μ d mc ms (pc + 1) (a0 :: some (.long v) :: r) (.long v :: st) σ Q) : kV μ d mc ms pc (a0 :: some (.long v) :: r) st σ Q := by
  intro θ p l e R s m args below meth c FQ H locs cells slots lr hC hH hl hr hF
  exact lv_lload_n (i := 1) hC.1 hC.2.1 hd rfl (kLv_at (k := 1) hl.1 rfl) (h θ p l e R s m args below meth c FQ H locs cells slots lr hC hH hl hr hF)
theorem kv_aload1 {μ : kM} {d mc ms pc : Nat} {a0 : Option Value} {r : List (Option Value)} {st : List Value} {σ : kS} {Q : Option Value → kS → Prop} {v : Nat} (hd : decode μ.2.1 pc = .ok (.aload_n 1, 1)) (h : kV μ d mc ms (pc + 1) (a0 :: some (.ref v) :: r) (.ref v :: st) σ Q) : kV μ d mc ms pc (a0 :: some (.ref v) :: r) st σ Q := by
  intro θ p l e R s m args below meth c FQ H locs cells slots lr hC hH hl hr hF
  exact lv_aload_n (i := 1) hC.1 hC.2.1 hd rfl (kLv_at (k := 1) hl.1 rfl) (h θ p l e R s m args below meth c FQ H locs cells slots lr hC hH hl hr hF)
theorem kv_aloadN1 {μ : kM} {d mc ms pc : Nat} {a0 : Option Value} {r : List (Option Value)} {st : List Value} {σ : kS} {Q : Option Value → kS → Prop}  (hd : decode μ.2.1 pc = .ok (.aload_n 1, 1)) (h : kV μ d mc ms (pc + 1) (a0 :: some (.null) :: r) (.null :: st) σ Q) : kV μ d mc ms pc (a0 :: some (.null) :: r) st σ Q := by
  intro θ p l e R s m args below meth c FQ H locs cells slots lr hC hH hl hr hF
  exact lv_aload_nN (i := 1) hC.1 hC.2.1 hd rfl (kLv_at (k := 1) hl.1 rfl) (h θ p l e R s m args below meth c FQ H locs cells slots lr hC hH hl hr hF)
theorem kv_istore1 {μ : kM} {d mc ms pc : Nat} {a0 : Option Value} {r : List (Option Value)} {st : List Value} {σ : kS} {Q : Option Value → kS → Prop} {b : Option Value} {v : Int32} (hd : decode μ.2.1 pc = .ok (.istore_n 1, 1)) (hs : knl a0 = true) (h : kV μ d mc ms (pc + 1) (a0 :: some (.int v) :: r) st σ Q) : kV μ d mc ms pc (a0 :: b :: r) (.int v :: st) σ Q := by
  intro θ p l e R s m args below meth c FQ H locs cells slots lr hC hH hl hr hF
  have hk : 1 < μ.2.2.1 := by rw [← hl.2]; simp
  refine lv_istore_n (i := 1) hC.1 hC.2.1 hd rfl hl.1 hk rfl (fun lr2 h2 => ?_)
  have h3 := kLv_s1 (v := .int v) (k := 1) (fun j hj w hw => knl_cat hs w (by obtain rfl : j = 0 := (by omega); exact Option.some.inj hw)) h2
  exact h θ p l e R s m args below meth c FQ H locs cells slots lr2 hC hH ⟨h3, by rw [← hl.2]; simp⟩ hr hF
theorem kv_astore1 {μ : kM} {d mc ms pc : Nat} {a0 : Option Value} {r : List (Option Value)} {st : List Value} {σ : kS} {Q : Option Value → kS → Prop} {b : Option Value} {v : Nat} (hd : decode μ.2.1 pc = .ok (.astore_n 1, 1)) (hs : knl a0 = true) (h : kV μ d mc ms (pc + 1) (a0 :: some (.ref v) :: r) st σ Q) : kV μ d mc ms pc (a0 :: b :: r) (.ref v :: st) σ Q := by
  intro θ p l e R s m args below meth c FQ H locs cells slots lr hC hH hl hr hF
  have hk : 1 < μ.2.2.1 := by rw [← hl.2]; simp
  refine lv_astore_n (i := 1) hC.1 hC.2.1 hd rfl hl.1 hk rfl (fun lr2 h2 => ?_)
  have h3 := kLv_s1 (v := .ref v) (k := 1) (fun j hj w hw => knl_cat hs w (by obtain rfl : j = 0 := (by omega); exact Option.some.inj hw)) h2
  exact h θ p l e R s m args below meth c FQ H locs cells slots lr2 hC hH ⟨h3, by rw [← hl.2]; simp⟩ hr hF
theorem kv_astoreN1 {μ : kM} {d mc ms pc : Nat} {a0 : Option Value} {r : List (Option Value)} {st : List Value} {σ : kS} {Q : Option Value → kS → Prop} {b : Option Value}  (hd : decode μ.2.1 pc = .ok (.astore_n 1, 1)) (hs : knl a0 = true) (h : kV μ d mc ms (pc + 1) (a0 :: some (.null) :: r) st σ Q) : kV μ d mc ms pc (a0 :: b :: r) (.null :: st) σ Q := by
  intro θ p l e R s m args below meth c FQ H locs cells slots lr hC hH hl hr hF
  have hk : 1 < μ.2.2.1 := by rw [← hl.2]; simp
  refine lv_astore_nN (i := 1) hC.1 hC.2.1 hd rfl hl.1 hk rfl (fun lr2 h2 => ?_)
  have h3 := kLv_s1 (v := .null) (k := 1) (fun j hj w hw => knl_cat hs w (by obtain rfl : j = 0 := (by omega); exact Option.some.inj hw)) h2
  exact h θ p l e R s m args below meth c FQ H locs cells slots lr2 hC hH ⟨h3, by rw [← hl.2]; simp⟩ hr hF
theorem kv_lstore1 {μ : kM} {d mc ms pc : Nat} {a0 : Option Value} {r : List (Option Value)} {st : List Value} {σ : kS} {Q : Option Value → kS → Prop} {b b2 : Option Value} {v : Int64} (hd : decode μ.2.1 pc = .ok (.lstore_n 1, 1)) (hs : knl a0 = true) (h : kV μ d mc ms (pc + 1) (a0 :: some (.long v) :: none :: r) st σ Q) : kV μ d mc ms pc (a0 :: b :: b2 :: r) (.long v :: st) σ Q := by
  intro θ p l e R s m args below meth c FQ H locs cells slots lr hC hH hl hr hF
  have hk : 1 + 1 < μ.2.2.1 := by rw [← hl.2]; simp
  refine lv_lstore_n (i := 1) hC.1 hC.2.1 hd rfl hl.1 hk rfl (fun lr2 h2 => ?_)
  have h3 := kLv_s2 (v := .long v) (k := 1) (fun j hj w hw => knl_cat hs w (by obtain rfl : j = 0 := (by omega); exact Option.some.inj hw)) h2
  exact h θ p l e R s m args below meth c FQ H locs cells slots lr2 hC hH ⟨h3, by rw [← hl.2]; simp⟩ hr hF
theorem kv_iinc1 {μ : kM} {d mc ms pc : Nat} {a0 : Option Value} {r : List (Option Value)} {st : List Value} {σ : kS} {Q : Option Value → kS → Prop} {v w : Int32} {n : Int} (hd : decode μ.2.1 pc = .ok (.iinc 1 n, 3)) (hw : Int32.ofInt n = w) (hs : knl a0 = true) (h : kV μ d mc ms (pc + 3) (a0 :: some (.int (v + w)) :: r) st σ Q) : kV μ d mc ms pc (a0 :: some (.int v) :: r) st σ Q := by
  intro θ p l e R s m args below meth c FQ H locs cells slots lr hC hH hl hr hF
  have hk : 1 < μ.2.2.1 := by rw [← hl.2]; simp
  obtain ⟨z, hz⟩ := List.getElem?_of_mem (kLv_mem (θ := θ) (ls := a0 :: some (.int v) :: r) (q := (1, .int v)) |>.mpr ⟨.int v, rfl, rfl⟩)
  refine lv_iinc (i := 1) (k := z) (x := v) (v := v + w) hC.1 hC.2.1 hd hl.1 hz (by rw [hw]) hk rfl (fun lr2 h2 => ?_)
  have h3 := kLv_s1 (v := .int (v + w)) (k := 1) (fun j hj w hw => knl_cat hs w (by obtain rfl : j = 0 := (by omega); exact Option.some.inj hw)) h2
  exact h θ p l e R s m args below meth c FQ H locs cells slots lr2 hC hH ⟨h3, by rw [← hl.2]; simp⟩ hr hF
theorem kv_iload2 {μ : kM} {d mc ms pc : Nat} {a0 a1 : Option Value} {r : List (Option Value)} {st : List Value} {σ : kS} {Q : Option Value → kS → Prop} {v : Int32} (hd : decode μ.2.1 pc = .ok (.iload_n 2, 1)) (h : kV μ d mc ms (pc + 1) (a0 :: a1 :: some (.int v) :: r) (.int v :: st) σ Q) : kV μ d mc ms pc (a0 :: a1 :: some (.int v) :: r) st σ Q := by
  intro θ p l e R s m args below meth c FQ H locs cells slots lr hC hH hl hr hF
  exact lv_iload_n (i := 2) hC.1 hC.2.1 hd rfl (kLv_at (k := 2) hl.1 rfl) (h θ p l e R s m args below meth c FQ H locs cells slots lr hC hH hl hr hF)
theorem kv_lload2 {μ : kM} {d mc ms pc : Nat} {a0 a1 : Option Value} {r : List (Option Value)} {st : List Value} {σ : kS} {Q : Option Value → kS → Prop} {v : Int64} (hd : decode μ.2.1 pc = .ok (.lload_n 2, 1)) (h : kV μ d mc ms (pc + 1) (a0 :: a1 :: some (.long v) :: r) (.long v :: st) σ Q) : kV μ d mc ms pc (a0 :: a1 :: some (.long v) :: r) st σ Q := by
  intro θ p l e R s m args below meth c FQ H locs cells slots lr hC hH hl hr hF
  exact lv_lload_n (i := 2) hC.1 hC.2.1 hd rfl (kLv_at (k := 2) hl.1 rfl) (h θ p l e R s m args below meth c FQ H locs cells slots lr hC hH hl hr hF)
theorem kv_aload2 {μ : kM} {d mc ms pc : Nat} {a0 a1 : Option Value} {r : List (Option Value)} {st : List Value} {σ : kS} {Q : Option Value → kS → Prop} {v : Nat} (hd : decode μ.2.1 pc = .ok (.aload_n 2, 1)) (h : kV μ d mc ms (pc + 1) (a0 :: a1 :: some (.ref v) :: r) (.ref v :: st) σ Q) : kV μ d mc ms pc (a0 :: a1 :: some (.ref v) :: r) st σ Q := by
  intro θ p l e R s m args below meth c FQ H locs cells slots lr hC hH hl hr hF
  exact lv_aload_n (i := 2) hC.1 hC.2.1 hd rfl (kLv_at (k := 2) hl.1 rfl) (h θ p l e R s m args below meth c FQ H locs cells slots lr hC hH hl hr hF)
theorem kv_aloadN2 {μ : kM} {d mc ms pc : Nat} {a0 a1 : Option Value} {r : List (Option Value)} {st : List Value} {σ : kS} {Q : Option Value → kS → Prop}  (hd : decode μ.2.1 pc = .ok (.aload_n 2, 1)) (h : kV μ d mc ms (pc + 1) (a0 :: a1 :: some (.null) :: r) (.null :: st) σ Q) : kV μ d mc ms pc (a0 :: a1 :: some (.null) :: r) st σ Q := by
  intro θ p l e R s m args below meth c FQ H locs cells slots lr hC hH hl hr hF
  exact lv_aload_nN (i := 2) hC.1 hC.2.1 hd rfl (kLv_at (k := 2) hl.1 rfl) (h θ p l e R s m args below meth c FQ H locs cells slots lr hC hH hl hr hF)
theorem kv_istore2 {μ : kM} {d mc ms pc : Nat} {a0 a1 : Option Value} {r : List (Option Value)} {st : List Value} {σ : kS} {Q : Option Value → kS → Prop} {b : Option Value} {v : Int32} (hd : decode μ.2.1 pc = .ok (.istore_n 2, 1)) (hs : knl a1 = true) (h : kV μ d mc ms (pc + 1) (a0 :: a1 :: some (.int v) :: r) st σ Q) : kV μ d mc ms pc (a0 :: a1 :: b :: r) (.int v :: st) σ Q := by
  intro θ p l e R s m args below meth c FQ H locs cells slots lr hC hH hl hr hF
  have hk : 2 < μ.2.2.1 := by rw [← hl.2]; simp
  refine lv_istore_n (i := 2) hC.1 hC.2.1 hd rfl hl.1 hk rfl (fun lr2 h2 => ?_)
  have h3 := kLv_s1 (v := .int v) (k := 2) (fun j hj w hw => knl_cat hs w (by obtain rfl : j = 1 := (by omega); exact Option.some.inj hw)) h2
  exact h θ p l e R s m args below meth c FQ H locs cells slots lr2 hC hH ⟨h3, by rw [← hl.2]; simp⟩ hr hF
theorem kv_astore2 {μ : kM} {d mc ms pc : Nat} {a0 a1 : Option Value} {r : List (Option Value)} {st : List Value} {σ : kS} {Q : Option Value → kS → Prop} {b : Option Value} {v : Nat} (hd : decode μ.2.1 pc = .ok (.astore_n 2, 1)) (hs : knl a1 = true) (h : kV μ d mc ms (pc + 1) (a0 :: a1 :: some (.ref v) :: r) st σ Q) : kV μ d mc ms pc (a0 :: a1 :: b :: r) (.ref v :: st) σ Q := by
  intro θ p l e R s m args below meth c FQ H locs cells slots lr hC hH hl hr hF
  have hk : 2 < μ.2.2.1 := by rw [← hl.2]; simp
  refine lv_astore_n (i := 2) hC.1 hC.2.1 hd rfl hl.1 hk rfl (fun lr2 h2 => ?_)
  have h3 := kLv_s1 (v := .ref v) (k := 2) (fun j hj w hw => knl_cat hs w (by obtain rfl : j = 1 := (by omega); exact Option.some.inj hw)) h2
  exact h θ p l e R s m args below meth c FQ H locs cells slots lr2 hC hH ⟨h3, by rw [← hl.2]; simp⟩ hr hF
theorem kv_astoreN2 {μ : kM} {d mc ms pc : Nat} {a0 a1 : Option Value} {r : List (Option Value)} {st : List Value} {σ : kS} {Q : Option Value → kS → Prop} {b : Option Value}  (hd : decode μ.2.1 pc = .ok (.astore_n 2, 1)) (hs : knl a1 = true) (h : kV μ d mc ms (pc + 1) (a0 :: a1 :: some (.null) :: r) st σ Q) : kV μ d mc ms pc (a0 :: a1 :: b :: r) (.null :: st) σ Q := by
  intro θ p l e R s m args below meth c FQ H locs cells slots lr hC hH hl hr hF
  have hk : 2 < μ.2.2.1 := by rw [← hl.2]; simp
  refine lv_astore_nN (i := 2) hC.1 hC.2.1 hd rfl hl.1 hk rfl (fun lr2 h2 => ?_)
  have h3 := kLv_s1 (v := .null) (k := 2) (fun j hj w hw => knl_cat hs w (by obtain rfl : j = 1 := (by omega); exact Option.some.inj hw)) h2
  exact h θ p l e R s m args below meth c FQ H locs cells slots lr2 hC hH ⟨h3, by rw [← hl.2]; simp⟩ hr hF
theorem kv_lstore2 {μ : kM} {d mc ms pc : Nat} {a0 a1 : Option Value} {r : List (Option Value)} {st : List Value} {σ : kS} {Q : Option Value → kS → Prop} {b b2 : Option Value} {v : Int64} (hd : decode μ.2.1 pc = .ok (.lstore_n 2, 1)) (hs : knl a1 = true) (h : kV μ d mc ms (pc + 1) (a0 :: a1 :: some (.long v) :: none :: r) st σ Q) : kV μ d mc ms pc (a0 :: a1 :: b :: b2 :: r) (.long v :: st) σ Q := by
  intro θ p l e R s m args below meth c FQ H locs cells slots lr hC hH hl hr hF
  have hk : 2 + 1 < μ.2.2.1 := by rw [← hl.2]; simp
  refine lv_lstore_n (i := 2) hC.1 hC.2.1 hd rfl hl.1 hk rfl (fun lr2 h2 => ?_)
  have h3 := kLv_s2 (v := .long v) (k := 2) (fun j hj w hw => knl_cat hs w (by obtain rfl : j = 1 := (by omega); exact Option.some.inj hw)) h2
  exact h θ p l e R s m args below meth c FQ H locs cells slots lr2 hC hH ⟨h3, by rw [← hl.2]; simp⟩ hr hF
theorem kv_iinc2 {μ : kM} {d mc ms pc : Nat} {a0 a1 : Option Value} {r : List (Option Value)} {st : List Value} {σ : kS} {Q : Option Value → kS → Prop} {v w : Int32} {n : Int} (hd : decode μ.2.1 pc = .ok (.iinc 2 n, 3)) (hw : Int32.ofInt n = w) (hs : knl a1 = true) (h : kV μ d mc ms (pc + 3) (a0 :: a1 :: some (.int (v + w)) :: r) st σ Q) : kV μ d mc ms pc (a0 :: a1 :: some (.int v) :: r) st σ Q := by
  intro θ p l e R s m args below meth c FQ H locs cells slots lr hC hH hl hr hF
  have hk : 2 < μ.2.2.1 := by rw [← hl.2]; simp
  obtain ⟨z, hz⟩ := List.getElem?_of_mem (kLv_mem (θ := θ) (ls := a0 :: a1 :: some (.int v) :: r) (q := (2, .int v)) |>.mpr ⟨.int v, rfl, rfl⟩)
  refine lv_iinc (i := 2) (k := z) (x := v) (v := v + w) hC.1 hC.2.1 hd hl.1 hz (by rw [hw]) hk rfl (fun lr2 h2 => ?_)
  have h3 := kLv_s1 (v := .int (v + w)) (k := 2) (fun j hj w hw => knl_cat hs w (by obtain rfl : j = 1 := (by omega); exact Option.some.inj hw)) h2
  exact h θ p l e R s m args below meth c FQ H locs cells slots lr2 hC hH ⟨h3, by rw [← hl.2]; simp⟩ hr hF
theorem kv_iload3 {μ : kM} {d mc ms pc : Nat} {a0 a1 a2 : Option Value} {r : List (Option Value)} {st : List Value} {σ : kS} {Q : Option Value → kS → Prop} {v : Int32} (hd : decode μ.2.1 pc = .ok (.iload_n 3, 1)) (h : kV μ d mc ms (pc + 1) (a0 :: a1 :: a2 :: some (.int v) :: r) (.int v :: st) σ Q) : kV μ d mc ms pc (a0 :: a1 :: a2 :: some (.int v) :: r) st σ Q := by
  intro θ p l e R s m args below meth c FQ H locs cells slots lr hC hH hl hr hF
  exact lv_iload_n (i := 3) hC.1 hC.2.1 hd rfl (kLv_at (k := 3) hl.1 rfl) (h θ p l e R s m args below meth c FQ H locs cells slots lr hC hH hl hr hF)
theorem kv_lload3 {μ : kM} {d mc ms pc : Nat} {a0 a1 a2 : Option Value} {r : List (Option Value)} {st : List Value} {σ : kS} {Q : Option Value → kS → Prop} {v : Int64} (hd : decode μ.2.1 pc = .ok (.lload_n 3, 1)) (h : kV μ d mc ms (pc + 1) (a0 :: a1 :: a2 :: some (.long v) :: r) (.long v :: st) σ Q) : kV μ d mc ms pc (a0 :: a1 :: a2 :: some (.long v) :: r) st σ Q := by
  intro θ p l e R s m args below meth c FQ H locs cells slots lr hC hH hl hr hF
  exact lv_lload_n (i := 3) hC.1 hC.2.1 hd rfl (kLv_at (k := 3) hl.1 rfl) (h θ p l e R s m args below meth c FQ H locs cells slots lr hC hH hl hr hF)
theorem kv_aload3 {μ : kM} {d mc ms pc : Nat} {a0 a1 a2 : Option Value} {r : List (Option Value)} {st : List Value} {σ : kS} {Q : Option Value → kS → Prop} {v : Nat} (hd : decode μ.2.1 pc = .ok (.aload_n 3, 1)) (h : kV μ d mc ms (pc + 1) (a0 :: a1 :: a2 :: some (.ref v) :: r) (.ref v :: st) σ Q) : kV μ d mc ms pc (a0 :: a1 :: a2 :: some (.ref v) :: r) st σ Q := by
  intro θ p l e R s m args below meth c FQ H locs cells slots lr hC hH hl hr hF
  exact lv_aload_n (i := 3) hC.1 hC.2.1 hd rfl (kLv_at (k := 3) hl.1 rfl) (h θ p l e R s m args below meth c FQ H locs cells slots lr hC hH hl hr hF)
theorem kv_aloadN3 {μ : kM} {d mc ms pc : Nat} {a0 a1 a2 : Option Value} {r : List (Option Value)} {st : List Value} {σ : kS} {Q : Option Value → kS → Prop}  (hd : decode μ.2.1 pc = .ok (.aload_n 3, 1)) (h : kV μ d mc ms (pc + 1) (a0 :: a1 :: a2 :: some (.null) :: r) (.null :: st) σ Q) : kV μ d mc ms pc (a0 :: a1 :: a2 :: some (.null) :: r) st σ Q := by
  intro θ p l e R s m args below meth c FQ H locs cells slots lr hC hH hl hr hF
  exact lv_aload_nN (i := 3) hC.1 hC.2.1 hd rfl (kLv_at (k := 3) hl.1 rfl) (h θ p l e R s m args below meth c FQ H locs cells slots lr hC hH hl hr hF)
theorem kv_istore3 {μ : kM} {d mc ms pc : Nat} {a0 a1 a2 : Option Value} {r : List (Option Value)} {st : List Value} {σ : kS} {Q : Option Value → kS → Prop} {b : Option Value} {v : Int32} (hd : decode μ.2.1 pc = .ok (.istore_n 3, 1)) (hs : knl a2 = true) (h : kV μ d mc ms (pc + 1) (a0 :: a1 :: a2 :: some (.int v) :: r) st σ Q) : kV μ d mc ms pc (a0 :: a1 :: a2 :: b :: r) (.int v :: st) σ Q := by
  intro θ p l e R s m args below meth c FQ H locs cells slots lr hC hH hl hr hF
  have hk : 3 < μ.2.2.1 := by rw [← hl.2]; simp
  refine lv_istore_n (i := 3) hC.1 hC.2.1 hd rfl hl.1 hk rfl (fun lr2 h2 => ?_)
  have h3 := kLv_s1 (v := .int v) (k := 3) (fun j hj w hw => knl_cat hs w (by obtain rfl : j = 2 := (by omega); exact Option.some.inj hw)) h2
  exact h θ p l e R s m args below meth c FQ H locs cells slots lr2 hC hH ⟨h3, by rw [← hl.2]; simp⟩ hr hF
theorem kv_astore3 {μ : kM} {d mc ms pc : Nat} {a0 a1 a2 : Option Value} {r : List (Option Value)} {st : List Value} {σ : kS} {Q : Option Value → kS → Prop} {b : Option Value} {v : Nat} (hd : decode μ.2.1 pc = .ok (.astore_n 3, 1)) (hs : knl a2 = true) (h : kV μ d mc ms (pc + 1) (a0 :: a1 :: a2 :: some (.ref v) :: r) st σ Q) : kV μ d mc ms pc (a0 :: a1 :: a2 :: b :: r) (.ref v :: st) σ Q := by
  intro θ p l e R s m args below meth c FQ H locs cells slots lr hC hH hl hr hF
  have hk : 3 < μ.2.2.1 := by rw [← hl.2]; simp
  refine lv_astore_n (i := 3) hC.1 hC.2.1 hd rfl hl.1 hk rfl (fun lr2 h2 => ?_)
  have h3 := kLv_s1 (v := .ref v) (k := 3) (fun j hj w hw => knl_cat hs w (by obtain rfl : j = 2 := (by omega); exact Option.some.inj hw)) h2
  exact h θ p l e R s m args below meth c FQ H locs cells slots lr2 hC hH ⟨h3, by rw [← hl.2]; simp⟩ hr hF
theorem kv_astoreN3 {μ : kM} {d mc ms pc : Nat} {a0 a1 a2 : Option Value} {r : List (Option Value)} {st : List Value} {σ : kS} {Q : Option Value → kS → Prop} {b : Option Value}  (hd : decode μ.2.1 pc = .ok (.astore_n 3, 1)) (hs : knl a2 = true) (h : kV μ d mc ms (pc + 1) (a0 :: a1 :: a2 :: some (.null) :: r) st σ Q) : kV μ d mc ms pc (a0 :: a1 :: a2 :: b :: r) (.null :: st) σ Q := by
  intro θ p l e R s m args below meth c FQ H locs cells slots lr hC hH hl hr hF
  have hk : 3 < μ.2.2.1 := by rw [← hl.2]; simp
  refine lv_astore_nN (i := 3) hC.1 hC.2.1 hd rfl hl.1 hk rfl (fun lr2 h2 => ?_)
  have h3 := kLv_s1 (v := .null) (k := 3) (fun j hj w hw => knl_cat hs w (by obtain rfl : j = 2 := (by omega); exact Option.some.inj hw)) h2
  exact h θ p l e R s m args below meth c FQ H locs cells slots lr2 hC hH ⟨h3, by rw [← hl.2]; simp⟩ hr hF
theorem kv_lstore3 {μ : kM} {d mc ms pc : Nat} {a0 a1 a2 : Option Value} {r : List (Option Value)} {st : List Value} {σ : kS} {Q : Option Value → kS → Prop} {b b2 : Option Value} {v : Int64} (hd : decode μ.2.1 pc = .ok (.lstore_n 3, 1)) (hs : knl a2 = true) (h : kV μ d mc ms (pc + 1) (a0 :: a1 :: a2 :: some (.long v) :: none :: r) st σ Q) : kV μ d mc ms pc (a0 :: a1 :: a2 :: b :: b2 :: r) (.long v :: st) σ Q := by
  intro θ p l e R s m args below meth c FQ H locs cells slots lr hC hH hl hr hF
  have hk : 3 + 1 < μ.2.2.1 := by rw [← hl.2]; simp
  refine lv_lstore_n (i := 3) hC.1 hC.2.1 hd rfl hl.1 hk rfl (fun lr2 h2 => ?_)
  have h3 := kLv_s2 (v := .long v) (k := 3) (fun j hj w hw => knl_cat hs w (by obtain rfl : j = 2 := (by omega); exact Option.some.inj hw)) h2
  exact h θ p l e R s m args below meth c FQ H locs cells slots lr2 hC hH ⟨h3, by rw [← hl.2]; simp⟩ hr hF
theorem kv_iinc3 {μ : kM} {d mc ms pc : Nat} {a0 a1 a2 : Option Value} {r : List (Option Value)} {st : List Value} {σ : kS} {Q : Option Value → kS → Prop} {v w : Int32} {n : Int} (hd : decode μ.2.1 pc = .ok (.iinc 3 n, 3)) (hw : Int32.ofInt n = w) (hs : knl a2 = true) (h : kV μ d mc ms (pc + 3) (a0 :: a1 :: a2 :: some (.int (v + w)) :: r) st σ Q) : kV μ d mc ms pc (a0 :: a1 :: a2 :: some (.int v) :: r) st σ Q := by
  intro θ p l e R s m args below meth c FQ H locs cells slots lr hC hH hl hr hF
  have hk : 3 < μ.2.2.1 := by rw [← hl.2]; simp
  obtain ⟨z, hz⟩ := List.getElem?_of_mem (kLv_mem (θ := θ) (ls := a0 :: a1 :: a2 :: some (.int v) :: r) (q := (3, .int v)) |>.mpr ⟨.int v, rfl, rfl⟩)
  refine lv_iinc (i := 3) (k := z) (x := v) (v := v + w) hC.1 hC.2.1 hd hl.1 hz (by rw [hw]) hk rfl (fun lr2 h2 => ?_)
  have h3 := kLv_s1 (v := .int (v + w)) (k := 3) (fun j hj w hw => knl_cat hs w (by obtain rfl : j = 2 := (by omega); exact Option.some.inj hw)) h2
  exact h θ p l e R s m args below meth c FQ H locs cells slots lr2 hC hH ⟨h3, by rw [← hl.2]; simp⟩ hr hF
theorem kv_iload4 {μ : kM} {d mc ms pc : Nat} {a0 a1 a2 a3 : Option Value} {r : List (Option Value)} {st : List Value} {σ : kS} {Q : Option Value → kS → Prop} {v : Int32} (hd : decode μ.2.1 pc = .ok (.iload 4, 2)) (h : kV μ d mc ms (pc + 2) (a0 :: a1 :: a2 :: a3 :: some (.int v) :: r) (.int v :: st) σ Q) : kV μ d mc ms pc (a0 :: a1 :: a2 :: a3 :: some (.int v) :: r) st σ Q := by
  intro θ p l e R s m args below meth c FQ H locs cells slots lr hC hH hl hr hF
  exact lv_iload hC.1 hC.2.1 hd (kLv_at (k := 4) hl.1 rfl) (h θ p l e R s m args below meth c FQ H locs cells slots lr hC hH hl hr hF)
theorem kv_lload4 {μ : kM} {d mc ms pc : Nat} {a0 a1 a2 a3 : Option Value} {r : List (Option Value)} {st : List Value} {σ : kS} {Q : Option Value → kS → Prop} {v : Int64} (hd : decode μ.2.1 pc = .ok (.lload 4, 2)) (h : kV μ d mc ms (pc + 2) (a0 :: a1 :: a2 :: a3 :: some (.long v) :: r) (.long v :: st) σ Q) : kV μ d mc ms pc (a0 :: a1 :: a2 :: a3 :: some (.long v) :: r) st σ Q := by
  intro θ p l e R s m args below meth c FQ H locs cells slots lr hC hH hl hr hF
  exact lv_lload hC.1 hC.2.1 hd (kLv_at (k := 4) hl.1 rfl) (h θ p l e R s m args below meth c FQ H locs cells slots lr hC hH hl hr hF)
theorem kv_aload4 {μ : kM} {d mc ms pc : Nat} {a0 a1 a2 a3 : Option Value} {r : List (Option Value)} {st : List Value} {σ : kS} {Q : Option Value → kS → Prop} {v : Nat} (hd : decode μ.2.1 pc = .ok (.aload 4, 2)) (h : kV μ d mc ms (pc + 2) (a0 :: a1 :: a2 :: a3 :: some (.ref v) :: r) (.ref v :: st) σ Q) : kV μ d mc ms pc (a0 :: a1 :: a2 :: a3 :: some (.ref v) :: r) st σ Q := by
  intro θ p l e R s m args below meth c FQ H locs cells slots lr hC hH hl hr hF
  exact lv_aload hC.1 hC.2.1 hd (kLv_at (k := 4) hl.1 rfl) (h θ p l e R s m args below meth c FQ H locs cells slots lr hC hH hl hr hF)
theorem kv_aloadN4 {μ : kM} {d mc ms pc : Nat} {a0 a1 a2 a3 : Option Value} {r : List (Option Value)} {st : List Value} {σ : kS} {Q : Option Value → kS → Prop}  (hd : decode μ.2.1 pc = .ok (.aload 4, 2)) (h : kV μ d mc ms (pc + 2) (a0 :: a1 :: a2 :: a3 :: some (.null) :: r) (.null :: st) σ Q) : kV μ d mc ms pc (a0 :: a1 :: a2 :: a3 :: some (.null) :: r) st σ Q := by
  intro θ p l e R s m args below meth c FQ H locs cells slots lr hC hH hl hr hF
  exact lv_aloadN hC.1 hC.2.1 hd (kLv_at (k := 4) hl.1 rfl) (h θ p l e R s m args below meth c FQ H locs cells slots lr hC hH hl hr hF)
theorem kv_istore4 {μ : kM} {d mc ms pc : Nat} {a0 a1 a2 a3 : Option Value} {r : List (Option Value)} {st : List Value} {σ : kS} {Q : Option Value → kS → Prop} {b : Option Value} {v : Int32} (hd : decode μ.2.1 pc = .ok (.istore 4, 2)) (hs : knl a3 = true) (h : kV μ d mc ms (pc + 2) (a0 :: a1 :: a2 :: a3 :: some (.int v) :: r) st σ Q) : kV μ d mc ms pc (a0 :: a1 :: a2 :: a3 :: b :: r) (.int v :: st) σ Q := by
  intro θ p l e R s m args below meth c FQ H locs cells slots lr hC hH hl hr hF
  have hk : 4 < μ.2.2.1 := by rw [← hl.2]; simp
  refine lv_istore (i := 4) hC.1 hC.2.1 hd  hl.1 hk rfl (fun lr2 h2 => ?_)
  have h3 := kLv_s1 (v := .int v) (k := 4) (fun j hj w hw => knl_cat hs w (by obtain rfl : j = 3 := (by omega); exact Option.some.inj hw)) h2
  exact h θ p l e R s m args below meth c FQ H locs cells slots lr2 hC hH ⟨h3, by rw [← hl.2]; simp⟩ hr hF
theorem kv_astore4 {μ : kM} {d mc ms pc : Nat} {a0 a1 a2 a3 : Option Value} {r : List (Option Value)} {st : List Value} {σ : kS} {Q : Option Value → kS → Prop} {b : Option Value} {v : Nat} (hd : decode μ.2.1 pc = .ok (.astore 4, 2)) (hs : knl a3 = true) (h : kV μ d mc ms (pc + 2) (a0 :: a1 :: a2 :: a3 :: some (.ref v) :: r) st σ Q) : kV μ d mc ms pc (a0 :: a1 :: a2 :: a3 :: b :: r) (.ref v :: st) σ Q := by
  intro θ p l e R s m args below meth c FQ H locs cells slots lr hC hH hl hr hF
  have hk : 4 < μ.2.2.1 := by rw [← hl.2]; simp
  refine lv_astore (i := 4) hC.1 hC.2.1 hd  hl.1 hk rfl (fun lr2 h2 => ?_)
  have h3 := kLv_s1 (v := .ref v) (k := 4) (fun j hj w hw => knl_cat hs w (by obtain rfl : j = 3 := (by omega); exact Option.some.inj hw)) h2
  exact h θ p l e R s m args below meth c FQ H locs cells slots lr2 hC hH ⟨h3, by rw [← hl.2]; simp⟩ hr hF
theorem kv_astoreN4 {μ : kM} {d mc ms pc : Nat} {a0 a1 a2 a3 : Option Value} {r : List (Option Value)} {st : List Value} {σ : kS} {Q : Option Value → kS → Prop} {b : Option Value}  (hd : decode μ.2.1 pc = .ok (.astore 4, 2)) (hs : knl a3 = true) (h : kV μ d mc ms (pc + 2) (a0 :: a1 :: a2 :: a3 :: some (.null) :: r) st σ Q) : kV μ d mc ms pc (a0 :: a1 :: a2 :: a3 :: b :: r) (.null :: st) σ Q := by
  intro θ p l e R s m args below meth c FQ H locs cells slots lr hC hH hl hr hF
  have hk : 4 < μ.2.2.1 := by rw [← hl.2]; simp
  refine lv_astoreN (i := 4) hC.1 hC.2.1 hd  hl.1 hk rfl (fun lr2 h2 => ?_)
  have h3 := kLv_s1 (v := .null) (k := 4) (fun j hj w hw => knl_cat hs w (by obtain rfl : j = 3 := (by omega); exact Option.some.inj hw)) h2
  exact h θ p l e R s m args below meth c FQ H locs cells slots lr2 hC hH ⟨h3, by rw [← hl.2]; simp⟩ hr hF
theorem kv_lstore4 {μ : kM} {d mc ms pc : Nat} {a0 a1 a2 a3 : Option Value} {r : List (Option Value)} {st : List Value} {σ : kS} {Q : Option Value → kS → Prop} {b b2 : Option Value} {v : Int64} (hd : decode μ.2.1 pc = .ok (.lstore 4, 2)) (hs : knl a3 = true) (h : kV μ d mc ms (pc + 2) (a0 :: a1 :: a2 :: a3 :: some (.long v) :: none :: r) st σ Q) : kV μ d mc ms pc (a0 :: a1 :: a2 :: a3 :: b :: b2 :: r) (.long v :: st) σ Q := by
  intro θ p l e R s m args below meth c FQ H locs cells slots lr hC hH hl hr hF
  have hk : 4 + 1 < μ.2.2.1 := by rw [← hl.2]; simp
  refine lv_lstore (i := 4) hC.1 hC.2.1 hd  hl.1 hk rfl (fun lr2 h2 => ?_)
  have h3 := kLv_s2 (v := .long v) (k := 4) (fun j hj w hw => knl_cat hs w (by obtain rfl : j = 3 := (by omega); exact Option.some.inj hw)) h2
  exact h θ p l e R s m args below meth c FQ H locs cells slots lr2 hC hH ⟨h3, by rw [← hl.2]; simp⟩ hr hF
theorem kv_iinc4 {μ : kM} {d mc ms pc : Nat} {a0 a1 a2 a3 : Option Value} {r : List (Option Value)} {st : List Value} {σ : kS} {Q : Option Value → kS → Prop} {v w : Int32} {n : Int} (hd : decode μ.2.1 pc = .ok (.iinc 4 n, 3)) (hw : Int32.ofInt n = w) (hs : knl a3 = true) (h : kV μ d mc ms (pc + 3) (a0 :: a1 :: a2 :: a3 :: some (.int (v + w)) :: r) st σ Q) : kV μ d mc ms pc (a0 :: a1 :: a2 :: a3 :: some (.int v) :: r) st σ Q := by
  intro θ p l e R s m args below meth c FQ H locs cells slots lr hC hH hl hr hF
  have hk : 4 < μ.2.2.1 := by rw [← hl.2]; simp
  obtain ⟨z, hz⟩ := List.getElem?_of_mem (kLv_mem (θ := θ) (ls := a0 :: a1 :: a2 :: a3 :: some (.int v) :: r) (q := (4, .int v)) |>.mpr ⟨.int v, rfl, rfl⟩)
  refine lv_iinc (i := 4) (k := z) (x := v) (v := v + w) hC.1 hC.2.1 hd hl.1 hz (by rw [hw]) hk rfl (fun lr2 h2 => ?_)
  have h3 := kLv_s1 (v := .int (v + w)) (k := 4) (fun j hj w hw => knl_cat hs w (by obtain rfl : j = 3 := (by omega); exact Option.some.inj hw)) h2
  exact h θ p l e R s m args below meth c FQ H locs cells slots lr2 hC hH ⟨h3, by rw [← hl.2]; simp⟩ hr hF
theorem kv_iload5 {μ : kM} {d mc ms pc : Nat} {a0 a1 a2 a3 a4 : Option Value} {r : List (Option Value)} {st : List Value} {σ : kS} {Q : Option Value → kS → Prop} {v : Int32} (hd : decode μ.2.1 pc = .ok (.iload 5, 2)) (h : kV μ d mc ms (pc + 2) (a0 :: a1 :: a2 :: a3 :: a4 :: some (.int v) :: r) (.int v :: st) σ Q) : kV μ d mc ms pc (a0 :: a1 :: a2 :: a3 :: a4 :: some (.int v) :: r) st σ Q := by
  intro θ p l e R s m args below meth c FQ H locs cells slots lr hC hH hl hr hF
  exact lv_iload hC.1 hC.2.1 hd (kLv_at (k := 5) hl.1 rfl) (h θ p l e R s m args below meth c FQ H locs cells slots lr hC hH hl hr hF)
theorem kv_lload5 {μ : kM} {d mc ms pc : Nat} {a0 a1 a2 a3 a4 : Option Value} {r : List (Option Value)} {st : List Value} {σ : kS} {Q : Option Value → kS → Prop} {v : Int64} (hd : decode μ.2.1 pc = .ok (.lload 5, 2)) (h : kV μ d mc ms (pc + 2) (a0 :: a1 :: a2 :: a3 :: a4 :: some (.long v) :: r) (.long v :: st) σ Q) : kV μ d mc ms pc (a0 :: a1 :: a2 :: a3 :: a4 :: some (.long v) :: r) st σ Q := by
  intro θ p l e R s m args below meth c FQ H locs cells slots lr hC hH hl hr hF
  exact lv_lload hC.1 hC.2.1 hd (kLv_at (k := 5) hl.1 rfl) (h θ p l e R s m args below meth c FQ H locs cells slots lr hC hH hl hr hF)
theorem kv_aload5 {μ : kM} {d mc ms pc : Nat} {a0 a1 a2 a3 a4 : Option Value} {r : List (Option Value)} {st : List Value} {σ : kS} {Q : Option Value → kS → Prop} {v : Nat} (hd : decode μ.2.1 pc = .ok (.aload 5, 2)) (h : kV μ d mc ms (pc + 2) (a0 :: a1 :: a2 :: a3 :: a4 :: some (.ref v) :: r) (.ref v :: st) σ Q) : kV μ d mc ms pc (a0 :: a1 :: a2 :: a3 :: a4 :: some (.ref v) :: r) st σ Q := by
  intro θ p l e R s m args below meth c FQ H locs cells slots lr hC hH hl hr hF
  exact lv_aload hC.1 hC.2.1 hd (kLv_at (k := 5) hl.1 rfl) (h θ p l e R s m args below meth c FQ H locs cells slots lr hC hH hl hr hF)
theorem kv_aloadN5 {μ : kM} {d mc ms pc : Nat} {a0 a1 a2 a3 a4 : Option Value} {r : List (Option Value)} {st : List Value} {σ : kS} {Q : Option Value → kS → Prop}  (hd : decode μ.2.1 pc = .ok (.aload 5, 2)) (h : kV μ d mc ms (pc + 2) (a0 :: a1 :: a2 :: a3 :: a4 :: some (.null) :: r) (.null :: st) σ Q) : kV μ d mc ms pc (a0 :: a1 :: a2 :: a3 :: a4 :: some (.null) :: r) st σ Q := by
  intro θ p l e R s m args below meth c FQ H locs cells slots lr hC hH hl hr hF
  exact lv_aloadN hC.1 hC.2.1 hd (kLv_at (k := 5) hl.1 rfl) (h θ p l e R s m args below meth c FQ H locs cells slots lr hC hH hl hr hF)
theorem kv_istore5 {μ : kM} {d mc ms pc : Nat} {a0 a1 a2 a3 a4 : Option Value} {r : List (Option Value)} {st : List Value} {σ : kS} {Q : Option Value → kS → Prop} {b : Option Value} {v : Int32} (hd : decode μ.2.1 pc = .ok (.istore 5, 2)) (hs : knl a4 = true) (h : kV μ d mc ms (pc + 2) (a0 :: a1 :: a2 :: a3 :: a4 :: some (.int v) :: r) st σ Q) : kV μ d mc ms pc (a0 :: a1 :: a2 :: a3 :: a4 :: b :: r) (.int v :: st) σ Q := by
  intro θ p l e R s m args below meth c FQ H locs cells slots lr hC hH hl hr hF
  have hk : 5 < μ.2.2.1 := by rw [← hl.2]; simp
  refine lv_istore (i := 5) hC.1 hC.2.1 hd  hl.1 hk rfl (fun lr2 h2 => ?_)
  have h3 := kLv_s1 (v := .int v) (k := 5) (fun j hj w hw => knl_cat hs w (by obtain rfl : j = 4 := (by omega); exact Option.some.inj hw)) h2
  exact h θ p l e R s m args below meth c FQ H locs cells slots lr2 hC hH ⟨h3, by rw [← hl.2]; simp⟩ hr hF
theorem kv_astore5 {μ : kM} {d mc ms pc : Nat} {a0 a1 a2 a3 a4 : Option Value} {r : List (Option Value)} {st : List Value} {σ : kS} {Q : Option Value → kS → Prop} {b : Option Value} {v : Nat} (hd : decode μ.2.1 pc = .ok (.astore 5, 2)) (hs : knl a4 = true) (h : kV μ d mc ms (pc + 2) (a0 :: a1 :: a2 :: a3 :: a4 :: some (.ref v) :: r) st σ Q) : kV μ d mc ms pc (a0 :: a1 :: a2 :: a3 :: a4 :: b :: r) (.ref v :: st) σ Q := by
  intro θ p l e R s m args below meth c FQ H locs cells slots lr hC hH hl hr hF
  have hk : 5 < μ.2.2.1 := by rw [← hl.2]; simp
  refine lv_astore (i := 5) hC.1 hC.2.1 hd  hl.1 hk rfl (fun lr2 h2 => ?_)
  have h3 := kLv_s1 (v := .ref v) (k := 5) (fun j hj w hw => knl_cat hs w (by obtain rfl : j = 4 := (by omega); exact Option.some.inj hw)) h2
  exact h θ p l e R s m args below meth c FQ H locs cells slots lr2 hC hH ⟨h3, by rw [← hl.2]; simp⟩ hr hF
theorem kv_astoreN5 {μ : kM} {d mc ms pc : Nat} {a0 a1 a2 a3 a4 : Option Value} {r : List (Option Value)} {st : List Value} {σ : kS} {Q : Option Value → kS → Prop} {b : Option Value}  (hd : decode μ.2.1 pc = .ok (.astore 5, 2)) (hs : knl a4 = true) (h : kV μ d mc ms (pc + 2) (a0 :: a1 :: a2 :: a3 :: a4 :: some (.null) :: r) st σ Q) : kV μ d mc ms pc (a0 :: a1 :: a2 :: a3 :: a4 :: b :: r) (.null :: st) σ Q := by
  intro θ p l e R s m args below meth c FQ H locs cells slots lr hC hH hl hr hF
  have hk : 5 < μ.2.2.1 := by rw [← hl.2]; simp
  refine lv_astoreN (i := 5) hC.1 hC.2.1 hd  hl.1 hk rfl (fun lr2 h2 => ?_)
  have h3 := kLv_s1 (v := .null) (k := 5) (fun j hj w hw => knl_cat hs w (by obtain rfl : j = 4 := (by omega); exact Option.some.inj hw)) h2
  exact h θ p l e R s m args below meth c FQ H locs cells slots lr2 hC hH ⟨h3, by rw [← hl.2]; simp⟩ hr hF
theorem kv_lstore5 {μ : kM} {d mc ms pc : Nat} {a0 a1 a2 a3 a4 : Option Value} {r : List (Option Value)} {st : List Value} {σ : kS} {Q : Option Value → kS → Prop} {b b2 : Option Value} {v : Int64} (hd : decode μ.2.1 pc = .ok (.lstore 5, 2)) (hs : knl a4 = true) (h : kV μ d mc ms (pc + 2) (a0 :: a1 :: a2 :: a3 :: a4 :: some (.long v) :: none :: r) st σ Q) : kV μ d mc ms pc (a0 :: a1 :: a2 :: a3 :: a4 :: b :: b2 :: r) (.long v :: st) σ Q := by
  intro θ p l e R s m args below meth c FQ H locs cells slots lr hC hH hl hr hF
  have hk : 5 + 1 < μ.2.2.1 := by rw [← hl.2]; simp
  refine lv_lstore (i := 5) hC.1 hC.2.1 hd  hl.1 hk rfl (fun lr2 h2 => ?_)
  have h3 := kLv_s2 (v := .long v) (k := 5) (fun j hj w hw => knl_cat hs w (by obtain rfl : j = 4 := (by omega); exact Option.some.inj hw)) h2
  exact h θ p l e R s m args below meth c FQ H locs cells slots lr2 hC hH ⟨h3, by rw [← hl.2]; simp⟩ hr hF
theorem kv_iinc5 {μ : kM} {d mc ms pc : Nat} {a0 a1 a2 a3 a4 : Option Value} {r : List (Option Value)} {st : List Value} {σ : kS} {Q : Option Value → kS → Prop} {v w : Int32} {n : Int} (hd : decode μ.2.1 pc = .ok (.iinc 5 n, 3)) (hw : Int32.ofInt n = w) (hs : knl a4 = true) (h : kV μ d mc ms (pc + 3) (a0 :: a1 :: a2 :: a3 :: a4 :: some (.int (v + w)) :: r) st σ Q) : kV μ d mc ms pc (a0 :: a1 :: a2 :: a3 :: a4 :: some (.int v) :: r) st σ Q := by
  intro θ p l e R s m args below meth c FQ H locs cells slots lr hC hH hl hr hF
  have hk : 5 < μ.2.2.1 := by rw [← hl.2]; simp
  obtain ⟨z, hz⟩ := List.getElem?_of_mem (kLv_mem (θ := θ) (ls := a0 :: a1 :: a2 :: a3 :: a4 :: some (.int v) :: r) (q := (5, .int v)) |>.mpr ⟨.int v, rfl, rfl⟩)
  refine lv_iinc (i := 5) (k := z) (x := v) (v := v + w) hC.1 hC.2.1 hd hl.1 hz (by rw [hw]) hk rfl (fun lr2 h2 => ?_)
  have h3 := kLv_s1 (v := .int (v + w)) (k := 5) (fun j hj w hw => knl_cat hs w (by obtain rfl : j = 4 := (by omega); exact Option.some.inj hw)) h2
  exact h θ p l e R s m args below meth c FQ H locs cells slots lr2 hC hH ⟨h3, by rw [← hl.2]; simp⟩ hr hF
theorem kv_iload6 {μ : kM} {d mc ms pc : Nat} {a0 a1 a2 a3 a4 a5 : Option Value} {r : List (Option Value)} {st : List Value} {σ : kS} {Q : Option Value → kS → Prop} {v : Int32} (hd : decode μ.2.1 pc = .ok (.iload 6, 2)) (h : kV μ d mc ms (pc + 2) (a0 :: a1 :: a2 :: a3 :: a4 :: a5 :: some (.int v) :: r) (.int v :: st) σ Q) : kV μ d mc ms pc (a0 :: a1 :: a2 :: a3 :: a4 :: a5 :: some (.int v) :: r) st σ Q := by
  intro θ p l e R s m args below meth c FQ H locs cells slots lr hC hH hl hr hF
  exact lv_iload hC.1 hC.2.1 hd (kLv_at (k := 6) hl.1 rfl) (h θ p l e R s m args below meth c FQ H locs cells slots lr hC hH hl hr hF)
theorem kv_lload6 {μ : kM} {d mc ms pc : Nat} {a0 a1 a2 a3 a4 a5 : Option Value} {r : List (Option Value)} {st : List Value} {σ : kS} {Q : Option Value → kS → Prop} {v : Int64} (hd : decode μ.2.1 pc = .ok (.lload 6, 2)) (h : kV μ d mc ms (pc + 2) (a0 :: a1 :: a2 :: a3 :: a4 :: a5 :: some (.long v) :: r) (.long v :: st) σ Q) : kV μ d mc ms pc (a0 :: a1 :: a2 :: a3 :: a4 :: a5 :: some (.long v) :: r) st σ Q := by
  intro θ p l e R s m args below meth c FQ H locs cells slots lr hC hH hl hr hF
  exact lv_lload hC.1 hC.2.1 hd (kLv_at (k := 6) hl.1 rfl) (h θ p l e R s m args below meth c FQ H locs cells slots lr hC hH hl hr hF)
theorem kv_aload6 {μ : kM} {d mc ms pc : Nat} {a0 a1 a2 a3 a4 a5 : Option Value} {r : List (Option Value)} {st : List Value} {σ : kS} {Q : Option Value → kS → Prop} {v : Nat} (hd : decode μ.2.1 pc = .ok (.aload 6, 2)) (h : kV μ d mc ms (pc + 2) (a0 :: a1 :: a2 :: a3 :: a4 :: a5 :: some (.ref v) :: r) (.ref v :: st) σ Q) : kV μ d mc ms pc (a0 :: a1 :: a2 :: a3 :: a4 :: a5 :: some (.ref v) :: r) st σ Q := by
  intro θ p l e R s m args below meth c FQ H locs cells slots lr hC hH hl hr hF
  exact lv_aload hC.1 hC.2.1 hd (kLv_at (k := 6) hl.1 rfl) (h θ p l e R s m args below meth c FQ H locs cells slots lr hC hH hl hr hF)
theorem kv_aloadN6 {μ : kM} {d mc ms pc : Nat} {a0 a1 a2 a3 a4 a5 : Option Value} {r : List (Option Value)} {st : List Value} {σ : kS} {Q : Option Value → kS → Prop}  (hd : decode μ.2.1 pc = .ok (.aload 6, 2)) (h : kV μ d mc ms (pc + 2) (a0 :: a1 :: a2 :: a3 :: a4 :: a5 :: some (.null) :: r) (.null :: st) σ Q) : kV μ d mc ms pc (a0 :: a1 :: a2 :: a3 :: a4 :: a5 :: some (.null) :: r) st σ Q := by
  intro θ p l e R s m args below meth c FQ H locs cells slots lr hC hH hl hr hF
  exact lv_aloadN hC.1 hC.2.1 hd (kLv_at (k := 6) hl.1 rfl) (h θ p l e R s m args below meth c FQ H locs cells slots lr hC hH hl hr hF)
theorem kv_istore6 {μ : kM} {d mc ms pc : Nat} {a0 a1 a2 a3 a4 a5 : Option Value} {r : List (Option Value)} {st : List Value} {σ : kS} {Q : Option Value → kS → Prop} {b : Option Value} {v : Int32} (hd : decode μ.2.1 pc = .ok (.istore 6, 2)) (hs : knl a5 = true) (h : kV μ d mc ms (pc + 2) (a0 :: a1 :: a2 :: a3 :: a4 :: a5 :: some (.int v) :: r) st σ Q) : kV μ d mc ms pc (a0 :: a1 :: a2 :: a3 :: a4 :: a5 :: b :: r) (.int v :: st) σ Q := by
  intro θ p l e R s m args below meth c FQ H locs cells slots lr hC hH hl hr hF
  have hk : 6 < μ.2.2.1 := by rw [← hl.2]; simp
  refine lv_istore (i := 6) hC.1 hC.2.1 hd  hl.1 hk rfl (fun lr2 h2 => ?_)
  have h3 := kLv_s1 (v := .int v) (k := 6) (fun j hj w hw => knl_cat hs w (by obtain rfl : j = 5 := (by omega); exact Option.some.inj hw)) h2
  exact h θ p l e R s m args below meth c FQ H locs cells slots lr2 hC hH ⟨h3, by rw [← hl.2]; simp⟩ hr hF
theorem kv_astore6 {μ : kM} {d mc ms pc : Nat} {a0 a1 a2 a3 a4 a5 : Option Value} {r : List (Option Value)} {st : List Value} {σ : kS} {Q : Option Value → kS → Prop} {b : Option Value} {v : Nat} (hd : decode μ.2.1 pc = .ok (.astore 6, 2)) (hs : knl a5 = true) (h : kV μ d mc ms (pc + 2) (a0 :: a1 :: a2 :: a3 :: a4 :: a5 :: some (.ref v) :: r) st σ Q) : kV μ d mc ms pc (a0 :: a1 :: a2 :: a3 :: a4 :: a5 :: b :: r) (.ref v :: st) σ Q := by
  intro θ p l e R s m args below meth c FQ H locs cells slots lr hC hH hl hr hF
  have hk : 6 < μ.2.2.1 := by rw [← hl.2]; simp
  refine lv_astore (i := 6) hC.1 hC.2.1 hd  hl.1 hk rfl (fun lr2 h2 => ?_)
  have h3 := kLv_s1 (v := .ref v) (k := 6) (fun j hj w hw => knl_cat hs w (by obtain rfl : j = 5 := (by omega); exact Option.some.inj hw)) h2
  exact h θ p l e R s m args below meth c FQ H locs cells slots lr2 hC hH ⟨h3, by rw [← hl.2]; simp⟩ hr hF
theorem kv_astoreN6 {μ : kM} {d mc ms pc : Nat} {a0 a1 a2 a3 a4 a5 : Option Value} {r : List (Option Value)} {st : List Value} {σ : kS} {Q : Option Value → kS → Prop} {b : Option Value}  (hd : decode μ.2.1 pc = .ok (.astore 6, 2)) (hs : knl a5 = true) (h : kV μ d mc ms (pc + 2) (a0 :: a1 :: a2 :: a3 :: a4 :: a5 :: some (.null) :: r) st σ Q) : kV μ d mc ms pc (a0 :: a1 :: a2 :: a3 :: a4 :: a5 :: b :: r) (.null :: st) σ Q := by
  intro θ p l e R s m args below meth c FQ H locs cells slots lr hC hH hl hr hF
  have hk : 6 < μ.2.2.1 := by rw [← hl.2]; simp
  refine lv_astoreN (i := 6) hC.1 hC.2.1 hd  hl.1 hk rfl (fun lr2 h2 => ?_)
  have h3 := kLv_s1 (v := .null) (k := 6) (fun j hj w hw => knl_cat hs w (by obtain rfl : j = 5 := (by omega); exact Option.some.inj hw)) h2
  exact h θ p l e R s m args below meth c FQ H locs cells slots lr2 hC hH ⟨h3, by rw [← hl.2]; simp⟩ hr hF
theorem kv_lstore6 {μ : kM} {d mc ms pc : Nat} {a0 a1 a2 a3 a4 a5 : Option Value} {r : List (Option Value)} {st : List Value} {σ : kS} {Q : Option Value → kS → Prop} {b b2 : Option Value} {v : Int64} (hd : decode μ.2.1 pc = .ok (.lstore 6, 2)) (hs : knl a5 = true) (h : kV μ d mc ms (pc + 2) (a0 :: a1 :: a2 :: a3 :: a4 :: a5 :: some (.long v) :: none :: r) st σ Q) : kV μ d mc ms pc (a0 :: a1 :: a2 :: a3 :: a4 :: a5 :: b :: b2 :: r) (.long v :: st) σ Q := by
  intro θ p l e R s m args below meth c FQ H locs cells slots lr hC hH hl hr hF
  have hk : 6 + 1 < μ.2.2.1 := by rw [← hl.2]; simp
  refine lv_lstore (i := 6) hC.1 hC.2.1 hd  hl.1 hk rfl (fun lr2 h2 => ?_)
  have h3 := kLv_s2 (v := .long v) (k := 6) (fun j hj w hw => knl_cat hs w (by obtain rfl : j = 5 := (by omega); exact Option.some.inj hw)) h2
  exact h θ p l e R s m args below meth c FQ H locs cells slots lr2 hC hH ⟨h3, by rw [← hl.2]; simp⟩ hr hF
theorem kv_iinc6 {μ : kM} {d mc ms pc : Nat} {a0 a1 a2 a3 a4 a5 : Option Value} {r : List (Option Value)} {st : List Value} {σ : kS} {Q : Option Value → kS → Prop} {v w : Int32} {n : Int} (hd : decode μ.2.1 pc = .ok (.iinc 6 n, 3)) (hw : Int32.ofInt n = w) (hs : knl a5 = true) (h : kV μ d mc ms (pc + 3) (a0 :: a1 :: a2 :: a3 :: a4 :: a5 :: some (.int (v + w)) :: r) st σ Q) : kV μ d mc ms pc (a0 :: a1 :: a2 :: a3 :: a4 :: a5 :: some (.int v) :: r) st σ Q := by
  intro θ p l e R s m args below meth c FQ H locs cells slots lr hC hH hl hr hF
  have hk : 6 < μ.2.2.1 := by rw [← hl.2]; simp
  obtain ⟨z, hz⟩ := List.getElem?_of_mem (kLv_mem (θ := θ) (ls := a0 :: a1 :: a2 :: a3 :: a4 :: a5 :: some (.int v) :: r) (q := (6, .int v)) |>.mpr ⟨.int v, rfl, rfl⟩)
  refine lv_iinc (i := 6) (k := z) (x := v) (v := v + w) hC.1 hC.2.1 hd hl.1 hz (by rw [hw]) hk rfl (fun lr2 h2 => ?_)
  have h3 := kLv_s1 (v := .int (v + w)) (k := 6) (fun j hj w hw => knl_cat hs w (by obtain rfl : j = 5 := (by omega); exact Option.some.inj hw)) h2
  exact h θ p l e R s m args below meth c FQ H locs cells slots lr2 hC hH ⟨h3, by rw [← hl.2]; simp⟩ hr hF
theorem kv_iload7 {μ : kM} {d mc ms pc : Nat} {a0 a1 a2 a3 a4 a5 a6 : Option Value} {r : List (Option Value)} {st : List Value} {σ : kS} {Q : Option Value → kS → Prop} {v : Int32} (hd : decode μ.2.1 pc = .ok (.iload 7, 2)) (h : kV μ d mc ms (pc + 2) (a0 :: a1 :: a2 :: a3 :: a4 :: a5 :: a6 :: some (.int v) :: r) (.int v :: st) σ Q) : kV μ d mc ms pc (a0 :: a1 :: a2 :: a3 :: a4 :: a5 :: a6 :: some (.int v) :: r) st σ Q := by
  intro θ p l e R s m args below meth c FQ H locs cells slots lr hC hH hl hr hF
  exact lv_iload hC.1 hC.2.1 hd (kLv_at (k := 7) hl.1 rfl) (h θ p l e R s m args below meth c FQ H locs cells slots lr hC hH hl hr hF)
theorem kv_lload7 {μ : kM} {d mc ms pc : Nat} {a0 a1 a2 a3 a4 a5 a6 : Option Value} {r : List (Option Value)} {st : List Value} {σ : kS} {Q : Option Value → kS → Prop} {v : Int64} (hd : decode μ.2.1 pc = .ok (.lload 7, 2)) (h : kV μ d mc ms (pc + 2) (a0 :: a1 :: a2 :: a3 :: a4 :: a5 :: a6 :: some (.long v) :: r) (.long v :: st) σ Q) : kV μ d mc ms pc (a0 :: a1 :: a2 :: a3 :: a4 :: a5 :: a6 :: some (.long v) :: r) st σ Q := by
  intro θ p l e R s m args below meth c FQ H locs cells slots lr hC hH hl hr hF
  exact lv_lload hC.1 hC.2.1 hd (kLv_at (k := 7) hl.1 rfl) (h θ p l e R s m args below meth c FQ H locs cells slots lr hC hH hl hr hF)
theorem kv_aload7 {μ : kM} {d mc ms pc : Nat} {a0 a1 a2 a3 a4 a5 a6 : Option Value} {r : List (Option Value)} {st : List Value} {σ : kS} {Q : Option Value → kS → Prop} {v : Nat} (hd : decode μ.2.1 pc = .ok (.aload 7, 2)) (h : kV μ d mc ms (pc + 2) (a0 :: a1 :: a2 :: a3 :: a4 :: a5 :: a6 :: some (.ref v) :: r) (.ref v :: st) σ Q) : kV μ d mc ms pc (a0 :: a1 :: a2 :: a3 :: a4 :: a5 :: a6 :: some (.ref v) :: r) st σ Q := by
  intro θ p l e R s m args below meth c FQ H locs cells slots lr hC hH hl hr hF
  exact lv_aload hC.1 hC.2.1 hd (kLv_at (k := 7) hl.1 rfl) (h θ p l e R s m args below meth c FQ H locs cells slots lr hC hH hl hr hF)
theorem kv_aloadN7 {μ : kM} {d mc ms pc : Nat} {a0 a1 a2 a3 a4 a5 a6 : Option Value} {r : List (Option Value)} {st : List Value} {σ : kS} {Q : Option Value → kS → Prop}  (hd : decode μ.2.1 pc = .ok (.aload 7, 2)) (h : kV μ d mc ms (pc + 2) (a0 :: a1 :: a2 :: a3 :: a4 :: a5 :: a6 :: some (.null) :: r) (.null :: st) σ Q) : kV μ d mc ms pc (a0 :: a1 :: a2 :: a3 :: a4 :: a5 :: a6 :: some (.null) :: r) st σ Q := by
  intro θ p l e R s m args below meth c FQ H locs cells slots lr hC hH hl hr hF
  exact lv_aloadN hC.1 hC.2.1 hd (kLv_at (k := 7) hl.1 rfl) (h θ p l e R s m args below meth c FQ H locs cells slots lr hC hH hl hr hF)
theorem kv_istore7 {μ : kM} {d mc ms pc : Nat} {a0 a1 a2 a3 a4 a5 a6 : Option Value} {r : List (Option Value)} {st : List Value} {σ : kS} {Q : Option Value → kS → Prop} {b : Option Value} {v : Int32} (hd : decode μ.2.1 pc = .ok (.istore 7, 2)) (hs : knl a6 = true) (h : kV μ d mc ms (pc + 2) (a0 :: a1 :: a2 :: a3 :: a4 :: a5 :: a6 :: some (.int v) :: r) st σ Q) : kV μ d mc ms pc (a0 :: a1 :: a2 :: a3 :: a4 :: a5 :: a6 :: b :: r) (.int v :: st) σ Q := by
  intro θ p l e R s m args below meth c FQ H locs cells slots lr hC hH hl hr hF
  have hk : 7 < μ.2.2.1 := by rw [← hl.2]; simp
  refine lv_istore (i := 7) hC.1 hC.2.1 hd  hl.1 hk rfl (fun lr2 h2 => ?_)
  have h3 := kLv_s1 (v := .int v) (k := 7) (fun j hj w hw => knl_cat hs w (by obtain rfl : j = 6 := (by omega); exact Option.some.inj hw)) h2
  exact h θ p l e R s m args below meth c FQ H locs cells slots lr2 hC hH ⟨h3, by rw [← hl.2]; simp⟩ hr hF
theorem kv_astore7 {μ : kM} {d mc ms pc : Nat} {a0 a1 a2 a3 a4 a5 a6 : Option Value} {r : List (Option Value)} {st : List Value} {σ : kS} {Q : Option Value → kS → Prop} {b : Option Value} {v : Nat} (hd : decode μ.2.1 pc = .ok (.astore 7, 2)) (hs : knl a6 = true) (h : kV μ d mc ms (pc + 2) (a0 :: a1 :: a2 :: a3 :: a4 :: a5 :: a6 :: some (.ref v) :: r) st σ Q) : kV μ d mc ms pc (a0 :: a1 :: a2 :: a3 :: a4 :: a5 :: a6 :: b :: r) (.ref v :: st) σ Q := by
  intro θ p l e R s m args below meth c FQ H locs cells slots lr hC hH hl hr hF
  have hk : 7 < μ.2.2.1 := by rw [← hl.2]; simp
  refine lv_astore (i := 7) hC.1 hC.2.1 hd  hl.1 hk rfl (fun lr2 h2 => ?_)
  have h3 := kLv_s1 (v := .ref v) (k := 7) (fun j hj w hw => knl_cat hs w (by obtain rfl : j = 6 := (by omega); exact Option.some.inj hw)) h2
  exact h θ p l e R s m args below meth c FQ H locs cells slots lr2 hC hH ⟨h3, by rw [← hl.2]; simp⟩ hr hF
theorem kv_astoreN7 {μ : kM} {d mc ms pc : Nat} {a0 a1 a2 a3 a4 a5 a6 : Option Value} {r : List (Option Value)} {st : List Value} {σ : kS} {Q : Option Value → kS → Prop} {b : Option Value}  (hd : decode μ.2.1 pc = .ok (.astore 7, 2)) (hs : knl a6 = true) (h : kV μ d mc ms (pc + 2) (a0 :: a1 :: a2 :: a3 :: a4 :: a5 :: a6 :: some (.null) :: r) st σ Q) : kV μ d mc ms pc (a0 :: a1 :: a2 :: a3 :: a4 :: a5 :: a6 :: b :: r) (.null :: st) σ Q := by
  intro θ p l e R s m args below meth c FQ H locs cells slots lr hC hH hl hr hF
  have hk : 7 < μ.2.2.1 := by rw [← hl.2]; simp
  refine lv_astoreN (i := 7) hC.1 hC.2.1 hd  hl.1 hk rfl (fun lr2 h2 => ?_)
  have h3 := kLv_s1 (v := .null) (k := 7) (fun j hj w hw => knl_cat hs w (by obtain rfl : j = 6 := (by omega); exact Option.some.inj hw)) h2
  exact h θ p l e R s m args below meth c FQ H locs cells slots lr2 hC hH ⟨h3, by rw [← hl.2]; simp⟩ hr hF
theorem kv_lstore7 {μ : kM} {d mc ms pc : Nat} {a0 a1 a2 a3 a4 a5 a6 : Option Value} {r : List (Option Value)} {st : List Value} {σ : kS} {Q : Option Value → kS → Prop} {b b2 : Option Value} {v : Int64} (hd : decode μ.2.1 pc = .ok (.lstore 7, 2)) (hs : knl a6 = true) (h : kV μ d mc ms (pc + 2) (a0 :: a1 :: a2 :: a3 :: a4 :: a5 :: a6 :: some (.long v) :: none :: r) st σ Q) : kV μ d mc ms pc (a0 :: a1 :: a2 :: a3 :: a4 :: a5 :: a6 :: b :: b2 :: r) (.long v :: st) σ Q := by
  intro θ p l e R s m args below meth c FQ H locs cells slots lr hC hH hl hr hF
  have hk : 7 + 1 < μ.2.2.1 := by rw [← hl.2]; simp
  refine lv_lstore (i := 7) hC.1 hC.2.1 hd  hl.1 hk rfl (fun lr2 h2 => ?_)
  have h3 := kLv_s2 (v := .long v) (k := 7) (fun j hj w hw => knl_cat hs w (by obtain rfl : j = 6 := (by omega); exact Option.some.inj hw)) h2
  exact h θ p l e R s m args below meth c FQ H locs cells slots lr2 hC hH ⟨h3, by rw [← hl.2]; simp⟩ hr hF
theorem kv_iinc7 {μ : kM} {d mc ms pc : Nat} {a0 a1 a2 a3 a4 a5 a6 : Option Value} {r : List (Option Value)} {st : List Value} {σ : kS} {Q : Option Value → kS → Prop} {v w : Int32} {n : Int} (hd : decode μ.2.1 pc = .ok (.iinc 7 n, 3)) (hw : Int32.ofInt n = w) (hs : knl a6 = true) (h : kV μ d mc ms (pc + 3) (a0 :: a1 :: a2 :: a3 :: a4 :: a5 :: a6 :: some (.int (v + w)) :: r) st σ Q) : kV μ d mc ms pc (a0 :: a1 :: a2 :: a3 :: a4 :: a5 :: a6 :: some (.int v) :: r) st σ Q := by
  intro θ p l e R s m args below meth c FQ H locs cells slots lr hC hH hl hr hF
  have hk : 7 < μ.2.2.1 := by rw [← hl.2]; simp
  obtain ⟨z, hz⟩ := List.getElem?_of_mem (kLv_mem (θ := θ) (ls := a0 :: a1 :: a2 :: a3 :: a4 :: a5 :: a6 :: some (.int v) :: r) (q := (7, .int v)) |>.mpr ⟨.int v, rfl, rfl⟩)
  refine lv_iinc (i := 7) (k := z) (x := v) (v := v + w) hC.1 hC.2.1 hd hl.1 hz (by rw [hw]) hk rfl (fun lr2 h2 => ?_)
  have h3 := kLv_s1 (v := .int (v + w)) (k := 7) (fun j hj w hw => knl_cat hs w (by obtain rfl : j = 6 := (by omega); exact Option.some.inj hw)) h2
  exact h θ p l e R s m args below meth c FQ H locs cells slots lr2 hC hH ⟨h3, by rw [← hl.2]; simp⟩ hr hF
theorem kv_iload8 {μ : kM} {d mc ms pc : Nat} {a0 a1 a2 a3 a4 a5 a6 a7 : Option Value} {r : List (Option Value)} {st : List Value} {σ : kS} {Q : Option Value → kS → Prop} {v : Int32} (hd : decode μ.2.1 pc = .ok (.iload 8, 2)) (h : kV μ d mc ms (pc + 2) (a0 :: a1 :: a2 :: a3 :: a4 :: a5 :: a6 :: a7 :: some (.int v) :: r) (.int v :: st) σ Q) : kV μ d mc ms pc (a0 :: a1 :: a2 :: a3 :: a4 :: a5 :: a6 :: a7 :: some (.int v) :: r) st σ Q := by
  intro θ p l e R s m args below meth c FQ H locs cells slots lr hC hH hl hr hF
  exact lv_iload hC.1 hC.2.1 hd (kLv_at (k := 8) hl.1 rfl) (h θ p l e R s m args below meth c FQ H locs cells slots lr hC hH hl hr hF)
theorem kv_lload8 {μ : kM} {d mc ms pc : Nat} {a0 a1 a2 a3 a4 a5 a6 a7 : Option Value} {r : List (Option Value)} {st : List Value} {σ : kS} {Q : Option Value → kS → Prop} {v : Int64} (hd : decode μ.2.1 pc = .ok (.lload 8, 2)) (h : kV μ d mc ms (pc + 2) (a0 :: a1 :: a2 :: a3 :: a4 :: a5 :: a6 :: a7 :: some (.long v) :: r) (.long v :: st) σ Q) : kV μ d mc ms pc (a0 :: a1 :: a2 :: a3 :: a4 :: a5 :: a6 :: a7 :: some (.long v) :: r) st σ Q := by
  intro θ p l e R s m args below meth c FQ H locs cells slots lr hC hH hl hr hF
  exact lv_lload hC.1 hC.2.1 hd (kLv_at (k := 8) hl.1 rfl) (h θ p l e R s m args below meth c FQ H locs cells slots lr hC hH hl hr hF)
theorem kv_aload8 {μ : kM} {d mc ms pc : Nat} {a0 a1 a2 a3 a4 a5 a6 a7 : Option Value} {r : List (Option Value)} {st : List Value} {σ : kS} {Q : Option Value → kS → Prop} {v : Nat} (hd : decode μ.2.1 pc = .ok (.aload 8, 2)) (h : kV μ d mc ms (pc + 2) (a0 :: a1 :: a2 :: a3 :: a4 :: a5 :: a6 :: a7 :: some (.ref v) :: r) (.ref v :: st) σ Q) : kV μ d mc ms pc (a0 :: a1 :: a2 :: a3 :: a4 :: a5 :: a6 :: a7 :: some (.ref v) :: r) st σ Q := by
  intro θ p l e R s m args below meth c FQ H locs cells slots lr hC hH hl hr hF
  exact lv_aload hC.1 hC.2.1 hd (kLv_at (k := 8) hl.1 rfl) (h θ p l e R s m args below meth c FQ H locs cells slots lr hC hH hl hr hF)
theorem kv_aloadN8 {μ : kM} {d mc ms pc : Nat} {a0 a1 a2 a3 a4 a5 a6 a7 : Option Value} {r : List (Option Value)} {st : List Value} {σ : kS} {Q : Option Value → kS → Prop}  (hd : decode μ.2.1 pc = .ok (.aload 8, 2)) (h : kV μ d mc ms (pc + 2) (a0 :: a1 :: a2 :: a3 :: a4 :: a5 :: a6 :: a7 :: some (.null) :: r) (.null :: st) σ Q) : kV μ d mc ms pc (a0 :: a1 :: a2 :: a3 :: a4 :: a5 :: a6 :: a7 :: some (.null) :: r) st σ Q := by
  intro θ p l e R s m args below meth c FQ H locs cells slots lr hC hH hl hr hF
  exact lv_aloadN hC.1 hC.2.1 hd (kLv_at (k := 8) hl.1 rfl) (h θ p l e R s m args below meth c FQ H locs cells slots lr hC hH hl hr hF)
theorem kv_istore8 {μ : kM} {d mc ms pc : Nat} {a0 a1 a2 a3 a4 a5 a6 a7 : Option Value} {r : List (Option Value)} {st : List Value} {σ : kS} {Q : Option Value → kS → Prop} {b : Option Value} {v : Int32} (hd : decode μ.2.1 pc = .ok (.istore 8, 2)) (hs : knl a7 = true) (h : kV μ d mc ms (pc + 2) (a0 :: a1 :: a2 :: a3 :: a4 :: a5 :: a6 :: a7 :: some (.int v) :: r) st σ Q) : kV μ d mc ms pc (a0 :: a1 :: a2 :: a3 :: a4 :: a5 :: a6 :: a7 :: b :: r) (.int v :: st) σ Q := by
  intro θ p l e R s m args below meth c FQ H locs cells slots lr hC hH hl hr hF
  have hk : 8 < μ.2.2.1 := by rw [← hl.2]; simp
  refine lv_istore (i := 8) hC.1 hC.2.1 hd  hl.1 hk rfl (fun lr2 h2 => ?_)
  have h3 := kLv_s1 (v := .int v) (k := 8) (fun j hj w hw => knl_cat hs w (by obtain rfl : j = 7 := (by omega); exact Option.some.inj hw)) h2
  exact h θ p l e R s m args below meth c FQ H locs cells slots lr2 hC hH ⟨h3, by rw [← hl.2]; simp⟩ hr hF
theorem kv_astore8 {μ : kM} {d mc ms pc : Nat} {a0 a1 a2 a3 a4 a5 a6 a7 : Option Value} {r : List (Option Value)} {st : List Value} {σ : kS} {Q : Option Value → kS → Prop} {b : Option Value} {v : Nat} (hd : decode μ.2.1 pc = .ok (.astore 8, 2)) (hs : knl a7 = true) (h : kV μ d mc ms (pc + 2) (a0 :: a1 :: a2 :: a3 :: a4 :: a5 :: a6 :: a7 :: some (.ref v) :: r) st σ Q) : kV μ d mc ms pc (a0 :: a1 :: a2 :: a3 :: a4 :: a5 :: a6 :: a7 :: b :: r) (.ref v :: st) σ Q := by
  intro θ p l e R s m args below meth c FQ H locs cells slots lr hC hH hl hr hF
  have hk : 8 < μ.2.2.1 := by rw [← hl.2]; simp
  refine lv_astore (i := 8) hC.1 hC.2.1 hd  hl.1 hk rfl (fun lr2 h2 => ?_)
  have h3 := kLv_s1 (v := .ref v) (k := 8) (fun j hj w hw => knl_cat hs w (by obtain rfl : j = 7 := (by omega); exact Option.some.inj hw)) h2
  exact h θ p l e R s m args below meth c FQ H locs cells slots lr2 hC hH ⟨h3, by rw [← hl.2]; simp⟩ hr hF
theorem kv_astoreN8 {μ : kM} {d mc ms pc : Nat} {a0 a1 a2 a3 a4 a5 a6 a7 : Option Value} {r : List (Option Value)} {st : List Value} {σ : kS} {Q : Option Value → kS → Prop} {b : Option Value}  (hd : decode μ.2.1 pc = .ok (.astore 8, 2)) (hs : knl a7 = true) (h : kV μ d mc ms (pc + 2) (a0 :: a1 :: a2 :: a3 :: a4 :: a5 :: a6 :: a7 :: some (.null) :: r) st σ Q) : kV μ d mc ms pc (a0 :: a1 :: a2 :: a3 :: a4 :: a5 :: a6 :: a7 :: b :: r) (.null :: st) σ Q := by
  intro θ p l e R s m args below meth c FQ H locs cells slots lr hC hH hl hr hF
  have hk : 8 < μ.2.2.1 := by rw [← hl.2]; simp
  refine lv_astoreN (i := 8) hC.1 hC.2.1 hd  hl.1 hk rfl (fun lr2 h2 => ?_)
  have h3 := kLv_s1 (v := .null) (k := 8) (fun j hj w hw => knl_cat hs w (by obtain rfl : j = 7 := (by omega); exact Option.some.inj hw)) h2
  exact h θ p l e R s m args below meth c FQ H locs cells slots lr2 hC hH ⟨h3, by rw [← hl.2]; simp⟩ hr hF
theorem kv_lstore8 {μ : kM} {d mc ms pc : Nat} {a0 a1 a2 a3 a4 a5 a6 a7 : Option Value} {r : List (Option Value)} {st : List Value} {σ : kS} {Q : Option Value → kS → Prop} {b b2 : Option Value} {v : Int64} (hd : decode μ.2.1 pc = .ok (.lstore 8, 2)) (hs : knl a7 = true) (h : kV μ d mc ms (pc + 2) (a0 :: a1 :: a2 :: a3 :: a4 :: a5 :: a6 :: a7 :: some (.long v) :: none :: r) st σ Q) : kV μ d mc ms pc (a0 :: a1 :: a2 :: a3 :: a4 :: a5 :: a6 :: a7 :: b :: b2 :: r) (.long v :: st) σ Q := by
  intro θ p l e R s m args below meth c FQ H locs cells slots lr hC hH hl hr hF
  have hk : 8 + 1 < μ.2.2.1 := by rw [← hl.2]; simp
  refine lv_lstore (i := 8) hC.1 hC.2.1 hd  hl.1 hk rfl (fun lr2 h2 => ?_)
  have h3 := kLv_s2 (v := .long v) (k := 8) (fun j hj w hw => knl_cat hs w (by obtain rfl : j = 7 := (by omega); exact Option.some.inj hw)) h2
  exact h θ p l e R s m args below meth c FQ H locs cells slots lr2 hC hH ⟨h3, by rw [← hl.2]; simp⟩ hr hF
theorem kv_iinc8 {μ : kM} {d mc ms pc : Nat} {a0 a1 a2 a3 a4 a5 a6 a7 : Option Value} {r : List (Option Value)} {st : List Value} {σ : kS} {Q : Option Value → kS → Prop} {v w : Int32} {n : Int} (hd : decode μ.2.1 pc = .ok (.iinc 8 n, 3)) (hw : Int32.ofInt n = w) (hs : knl a7 = true) (h : kV μ d mc ms (pc + 3) (a0 :: a1 :: a2 :: a3 :: a4 :: a5 :: a6 :: a7 :: some (.int (v + w)) :: r) st σ Q) : kV μ d mc ms pc (a0 :: a1 :: a2 :: a3 :: a4 :: a5 :: a6 :: a7 :: some (.int v) :: r) st σ Q := by
  intro θ p l e R s m args below meth c FQ H locs cells slots lr hC hH hl hr hF
  have hk : 8 < μ.2.2.1 := by rw [← hl.2]; simp
  obtain ⟨z, hz⟩ := List.getElem?_of_mem (kLv_mem (θ := θ) (ls := a0 :: a1 :: a2 :: a3 :: a4 :: a5 :: a6 :: a7 :: some (.int v) :: r) (q := (8, .int v)) |>.mpr ⟨.int v, rfl, rfl⟩)
  refine lv_iinc (i := 8) (k := z) (x := v) (v := v + w) hC.1 hC.2.1 hd hl.1 hz (by rw [hw]) hk rfl (fun lr2 h2 => ?_)
  have h3 := kLv_s1 (v := .int (v + w)) (k := 8) (fun j hj w hw => knl_cat hs w (by obtain rfl : j = 7 := (by omega); exact Option.some.inj hw)) h2
  exact h θ p l e R s m args below meth c FQ H locs cells slots lr2 hC hH ⟨h3, by rw [← hl.2]; simp⟩ hr hF
theorem kv_iload9 {μ : kM} {d mc ms pc : Nat} {a0 a1 a2 a3 a4 a5 a6 a7 a8 : Option Value} {r : List (Option Value)} {st : List Value} {σ : kS} {Q : Option Value → kS → Prop} {v : Int32} (hd : decode μ.2.1 pc = .ok (.iload 9, 2)) (h : kV μ d mc ms (pc + 2) (a0 :: a1 :: a2 :: a3 :: a4 :: a5 :: a6 :: a7 :: a8 :: some (.int v) :: r) (.int v :: st) σ Q) : kV μ d mc ms pc (a0 :: a1 :: a2 :: a3 :: a4 :: a5 :: a6 :: a7 :: a8 :: some (.int v) :: r) st σ Q := by
  intro θ p l e R s m args below meth c FQ H locs cells slots lr hC hH hl hr hF
  exact lv_iload hC.1 hC.2.1 hd (kLv_at (k := 9) hl.1 rfl) (h θ p l e R s m args below meth c FQ H locs cells slots lr hC hH hl hr hF)
theorem kv_lload9 {μ : kM} {d mc ms pc : Nat} {a0 a1 a2 a3 a4 a5 a6 a7 a8 : Option Value} {r : List (Option Value)} {st : List Value} {σ : kS} {Q : Option Value → kS → Prop} {v : Int64} (hd : decode μ.2.1 pc = .ok (.lload 9, 2)) (h : kV μ d mc ms (pc + 2) (a0 :: a1 :: a2 :: a3 :: a4 :: a5 :: a6 :: a7 :: a8 :: some (.long v) :: r) (.long v :: st) σ Q) : kV μ d mc ms pc (a0 :: a1 :: a2 :: a3 :: a4 :: a5 :: a6 :: a7 :: a8 :: some (.long v) :: r) st σ Q := by
  intro θ p l e R s m args below meth c FQ H locs cells slots lr hC hH hl hr hF
  exact lv_lload hC.1 hC.2.1 hd (kLv_at (k := 9) hl.1 rfl) (h θ p l e R s m args below meth c FQ H locs cells slots lr hC hH hl hr hF)
theorem kv_aload9 {μ : kM} {d mc ms pc : Nat} {a0 a1 a2 a3 a4 a5 a6 a7 a8 : Option Value} {r : List (Option Value)} {st : List Value} {σ : kS} {Q : Option Value → kS → Prop} {v : Nat} (hd : decode μ.2.1 pc = .ok (.aload 9, 2)) (h : kV μ d mc ms (pc + 2) (a0 :: a1 :: a2 :: a3 :: a4 :: a5 :: a6 :: a7 :: a8 :: some (.ref v) :: r) (.ref v :: st) σ Q) : kV μ d mc ms pc (a0 :: a1 :: a2 :: a3 :: a4 :: a5 :: a6 :: a7 :: a8 :: some (.ref v) :: r) st σ Q := by
  intro θ p l e R s m args below meth c FQ H locs cells slots lr hC hH hl hr hF
  exact lv_aload hC.1 hC.2.1 hd (kLv_at (k := 9) hl.1 rfl) (h θ p l e R s m args below meth c FQ H locs cells slots lr hC hH hl hr hF)
theorem kv_aloadN9 {μ : kM} {d mc ms pc : Nat} {a0 a1 a2 a3 a4 a5 a6 a7 a8 : Option Value} {r : List (Option Value)} {st : List Value} {σ : kS} {Q : Option Value → kS → Prop}  (hd : decode μ.2.1 pc = .ok (.aload 9, 2)) (h : kV μ d mc ms (pc + 2) (a0 :: a1 :: a2 :: a3 :: a4 :: a5 :: a6 :: a7 :: a8 :: some (.null) :: r) (.null :: st) σ Q) : kV μ d mc ms pc (a0 :: a1 :: a2 :: a3 :: a4 :: a5 :: a6 :: a7 :: a8 :: some (.null) :: r) st σ Q := by
  intro θ p l e R s m args below meth c FQ H locs cells slots lr hC hH hl hr hF
  exact lv_aloadN hC.1 hC.2.1 hd (kLv_at (k := 9) hl.1 rfl) (h θ p l e R s m args below meth c FQ H locs cells slots lr hC hH hl hr hF)
theorem kv_istore9 {μ : kM} {d mc ms pc : Nat} {a0 a1 a2 a3 a4 a5 a6 a7 a8 : Option Value} {r : List (Option Value)} {st : List Value} {σ : kS} {Q : Option Value → kS → Prop} {b : Option Value} {v : Int32} (hd : decode μ.2.1 pc = .ok (.istore 9, 2)) (hs : knl a8 = true) (h : kV μ d mc ms (pc + 2) (a0 :: a1 :: a2 :: a3 :: a4 :: a5 :: a6 :: a7 :: a8 :: some (.int v) :: r) st σ Q) : kV μ d mc ms pc (a0 :: a1 :: a2 :: a3 :: a4 :: a5 :: a6 :: a7 :: a8 :: b :: r) (.int v :: st) σ Q := by
  intro θ p l e R s m args below meth c FQ H locs cells slots lr hC hH hl hr hF
  have hk : 9 < μ.2.2.1 := by rw [← hl.2]; simp
  refine lv_istore (i := 9) hC.1 hC.2.1 hd  hl.1 hk rfl (fun lr2 h2 => ?_)
  have h3 := kLv_s1 (v := .int v) (k := 9) (fun j hj w hw => knl_cat hs w (by obtain rfl : j = 8 := (by omega); exact Option.some.inj hw)) h2
  exact h θ p l e R s m args below meth c FQ H locs cells slots lr2 hC hH ⟨h3, by rw [← hl.2]; simp⟩ hr hF
theorem kv_astore9 {μ : kM} {d mc ms pc : Nat} {a0 a1 a2 a3 a4 a5 a6 a7 a8 : Option Value} {r : List (Option Value)} {st : List Value} {σ : kS} {Q : Option Value → kS → Prop} {b : Option Value} {v : Nat} (hd : decode μ.2.1 pc = .ok (.astore 9, 2)) (hs : knl a8 = true) (h : kV μ d mc ms (pc + 2) (a0 :: a1 :: a2 :: a3 :: a4 :: a5 :: a6 :: a7 :: a8 :: some (.ref v) :: r) st σ Q) : kV μ d mc ms pc (a0 :: a1 :: a2 :: a3 :: a4 :: a5 :: a6 :: a7 :: a8 :: b :: r) (.ref v :: st) σ Q := by
  intro θ p l e R s m args below meth c FQ H locs cells slots lr hC hH hl hr hF
  have hk : 9 < μ.2.2.1 := by rw [← hl.2]; simp
  refine lv_astore (i := 9) hC.1 hC.2.1 hd  hl.1 hk rfl (fun lr2 h2 => ?_)
  have h3 := kLv_s1 (v := .ref v) (k := 9) (fun j hj w hw => knl_cat hs w (by obtain rfl : j = 8 := (by omega); exact Option.some.inj hw)) h2
  exact h θ p l e R s m args below meth c FQ H locs cells slots lr2 hC hH ⟨h3, by rw [← hl.2]; simp⟩ hr hF
theorem kv_astoreN9 {μ : kM} {d mc ms pc : Nat} {a0 a1 a2 a3 a4 a5 a6 a7 a8 : Option Value} {r : List (Option Value)} {st : List Value} {σ : kS} {Q : Option Value → kS → Prop} {b : Option Value}  (hd : decode μ.2.1 pc = .ok (.astore 9, 2)) (hs : knl a8 = true) (h : kV μ d mc ms (pc + 2) (a0 :: a1 :: a2 :: a3 :: a4 :: a5 :: a6 :: a7 :: a8 :: some (.null) :: r) st σ Q) : kV μ d mc ms pc (a0 :: a1 :: a2 :: a3 :: a4 :: a5 :: a6 :: a7 :: a8 :: b :: r) (.null :: st) σ Q := by
  intro θ p l e R s m args below meth c FQ H locs cells slots lr hC hH hl hr hF
  have hk : 9 < μ.2.2.1 := by rw [← hl.2]; simp
  refine lv_astoreN (i := 9) hC.1 hC.2.1 hd  hl.1 hk rfl (fun lr2 h2 => ?_)
  have h3 := kLv_s1 (v := .null) (k := 9) (fun j hj w hw => knl_cat hs w (by obtain rfl : j = 8 := (by omega); exact Option.some.inj hw)) h2
  exact h θ p l e R s m args below meth c FQ H locs cells slots lr2 hC hH ⟨h3, by rw [← hl.2]; simp⟩ hr hF
theorem kv_lstore9 {μ : kM} {d mc ms pc : Nat} {a0 a1 a2 a3 a4 a5 a6 a7 a8 : Option Value} {r : List (Option Value)} {st : List Value} {σ : kS} {Q : Option Value → kS → Prop} {b b2 : Option Value} {v : Int64} (hd : decode μ.2.1 pc = .ok (.lstore 9, 2)) (hs : knl a8 = true) (h : kV μ d mc ms (pc + 2) (a0 :: a1 :: a2 :: a3 :: a4 :: a5 :: a6 :: a7 :: a8 :: some (.long v) :: none :: r) st σ Q) : kV μ d mc ms pc (a0 :: a1 :: a2 :: a3 :: a4 :: a5 :: a6 :: a7 :: a8 :: b :: b2 :: r) (.long v :: st) σ Q := by
  intro θ p l e R s m args below meth c FQ H locs cells slots lr hC hH hl hr hF
  have hk : 9 + 1 < μ.2.2.1 := by rw [← hl.2]; simp
  refine lv_lstore (i := 9) hC.1 hC.2.1 hd  hl.1 hk rfl (fun lr2 h2 => ?_)
  have h3 := kLv_s2 (v := .long v) (k := 9) (fun j hj w hw => knl_cat hs w (by obtain rfl : j = 8 := (by omega); exact Option.some.inj hw)) h2
  exact h θ p l e R s m args below meth c FQ H locs cells slots lr2 hC hH ⟨h3, by rw [← hl.2]; simp⟩ hr hF
theorem kv_iinc9 {μ : kM} {d mc ms pc : Nat} {a0 a1 a2 a3 a4 a5 a6 a7 a8 : Option Value} {r : List (Option Value)} {st : List Value} {σ : kS} {Q : Option Value → kS → Prop} {v w : Int32} {n : Int} (hd : decode μ.2.1 pc = .ok (.iinc 9 n, 3)) (hw : Int32.ofInt n = w) (hs : knl a8 = true) (h : kV μ d mc ms (pc + 3) (a0 :: a1 :: a2 :: a3 :: a4 :: a5 :: a6 :: a7 :: a8 :: some (.int (v + w)) :: r) st σ Q) : kV μ d mc ms pc (a0 :: a1 :: a2 :: a3 :: a4 :: a5 :: a6 :: a7 :: a8 :: some (.int v) :: r) st σ Q := by
  intro θ p l e R s m args below meth c FQ H locs cells slots lr hC hH hl hr hF
  have hk : 9 < μ.2.2.1 := by rw [← hl.2]; simp
  obtain ⟨z, hz⟩ := List.getElem?_of_mem (kLv_mem (θ := θ) (ls := a0 :: a1 :: a2 :: a3 :: a4 :: a5 :: a6 :: a7 :: a8 :: some (.int v) :: r) (q := (9, .int v)) |>.mpr ⟨.int v, rfl, rfl⟩)
  refine lv_iinc (i := 9) (k := z) (x := v) (v := v + w) hC.1 hC.2.1 hd hl.1 hz (by rw [hw]) hk rfl (fun lr2 h2 => ?_)
  have h3 := kLv_s1 (v := .int (v + w)) (k := 9) (fun j hj w hw => knl_cat hs w (by obtain rfl : j = 8 := (by omega); exact Option.some.inj hw)) h2
  exact h θ p l e R s m args below meth c FQ H locs cells slots lr2 hC hH ⟨h3, by rw [← hl.2]; simp⟩ hr hF
theorem kv_iload10 {μ : kM} {d mc ms pc : Nat} {a0 a1 a2 a3 a4 a5 a6 a7 a8 a9 : Option Value} {r : List (Option Value)} {st : List Value} {σ : kS} {Q : Option Value → kS → Prop} {v : Int32} (hd : decode μ.2.1 pc = .ok (.iload 10, 2)) (h : kV μ d mc ms (pc + 2) (a0 :: a1 :: a2 :: a3 :: a4 :: a5 :: a6 :: a7 :: a8 :: a9 :: some (.int v) :: r) (.int v :: st) σ Q) : kV μ d mc ms pc (a0 :: a1 :: a2 :: a3 :: a4 :: a5 :: a6 :: a7 :: a8 :: a9 :: some (.int v) :: r) st σ Q := by
  intro θ p l e R s m args below meth c FQ H locs cells slots lr hC hH hl hr hF
  exact lv_iload hC.1 hC.2.1 hd (kLv_at (k := 10) hl.1 rfl) (h θ p l e R s m args below meth c FQ H locs cells slots lr hC hH hl hr hF)
theorem kv_lload10 {μ : kM} {d mc ms pc : Nat} {a0 a1 a2 a3 a4 a5 a6 a7 a8 a9 : Option Value} {r : List (Option Value)} {st : List Value} {σ : kS} {Q : Option Value → kS → Prop} {v : Int64} (hd : decode μ.2.1 pc = .ok (.lload 10, 2)) (h : kV μ d mc ms (pc + 2) (a0 :: a1 :: a2 :: a3 :: a4 :: a5 :: a6 :: a7 :: a8 :: a9 :: some (.long v) :: r) (.long v :: st) σ Q) : kV μ d mc ms pc (a0 :: a1 :: a2 :: a3 :: a4 :: a5 :: a6 :: a7 :: a8 :: a9 :: some (.long v) :: r) st σ Q := by
  intro θ p l e R s m args below meth c FQ H locs cells slots lr hC hH hl hr hF
  exact lv_lload hC.1 hC.2.1 hd (kLv_at (k := 10) hl.1 rfl) (h θ p l e R s m args below meth c FQ H locs cells slots lr hC hH hl hr hF)
theorem kv_aload10 {μ : kM} {d mc ms pc : Nat} {a0 a1 a2 a3 a4 a5 a6 a7 a8 a9 : Option Value} {r : List (Option Value)} {st : List Value} {σ : kS} {Q : Option Value → kS → Prop} {v : Nat} (hd : decode μ.2.1 pc = .ok (.aload 10, 2)) (h : kV μ d mc ms (pc + 2) (a0 :: a1 :: a2 :: a3 :: a4 :: a5 :: a6 :: a7 :: a8 :: a9 :: some (.ref v) :: r) (.ref v :: st) σ Q) : kV μ d mc ms pc (a0 :: a1 :: a2 :: a3 :: a4 :: a5 :: a6 :: a7 :: a8 :: a9 :: some (.ref v) :: r) st σ Q := by
  intro θ p l e R s m args below meth c FQ H locs cells slots lr hC hH hl hr hF
  exact lv_aload hC.1 hC.2.1 hd (kLv_at (k := 10) hl.1 rfl) (h θ p l e R s m args below meth c FQ H locs cells slots lr hC hH hl hr hF)
theorem kv_aloadN10 {μ : kM} {d mc ms pc : Nat} {a0 a1 a2 a3 a4 a5 a6 a7 a8 a9 : Option Value} {r : List (Option Value)} {st : List Value} {σ : kS} {Q : Option Value → kS → Prop}  (hd : decode μ.2.1 pc = .ok (.aload 10, 2)) (h : kV μ d mc ms (pc + 2) (a0 :: a1 :: a2 :: a3 :: a4 :: a5 :: a6 :: a7 :: a8 :: a9 :: some (.null) :: r) (.null :: st) σ Q) : kV μ d mc ms pc (a0 :: a1 :: a2 :: a3 :: a4 :: a5 :: a6 :: a7 :: a8 :: a9 :: some (.null) :: r) st σ Q := by
  intro θ p l e R s m args below meth c FQ H locs cells slots lr hC hH hl hr hF
  exact lv_aloadN hC.1 hC.2.1 hd (kLv_at (k := 10) hl.1 rfl) (h θ p l e R s m args below meth c FQ H locs cells slots lr hC hH hl hr hF)
theorem kv_istore10 {μ : kM} {d mc ms pc : Nat} {a0 a1 a2 a3 a4 a5 a6 a7 a8 a9 : Option Value} {r : List (Option Value)} {st : List Value} {σ : kS} {Q : Option Value → kS → Prop} {b : Option Value} {v : Int32} (hd : decode μ.2.1 pc = .ok (.istore 10, 2)) (hs : knl a9 = true) (h : kV μ d mc ms (pc + 2) (a0 :: a1 :: a2 :: a3 :: a4 :: a5 :: a6 :: a7 :: a8 :: a9 :: some (.int v) :: r) st σ Q) : kV μ d mc ms pc (a0 :: a1 :: a2 :: a3 :: a4 :: a5 :: a6 :: a7 :: a8 :: a9 :: b :: r) (.int v :: st) σ Q := by
  intro θ p l e R s m args below meth c FQ H locs cells slots lr hC hH hl hr hF
  have hk : 10 < μ.2.2.1 := by rw [← hl.2]; simp
  refine lv_istore (i := 10) hC.1 hC.2.1 hd  hl.1 hk rfl (fun lr2 h2 => ?_)
  have h3 := kLv_s1 (v := .int v) (k := 10) (fun j hj w hw => knl_cat hs w (by obtain rfl : j = 9 := (by omega); exact Option.some.inj hw)) h2
  exact h θ p l e R s m args below meth c FQ H locs cells slots lr2 hC hH ⟨h3, by rw [← hl.2]; simp⟩ hr hF
theorem kv_astore10 {μ : kM} {d mc ms pc : Nat} {a0 a1 a2 a3 a4 a5 a6 a7 a8 a9 : Option Value} {r : List (Option Value)} {st : List Value} {σ : kS} {Q : Option Value → kS → Prop} {b : Option Value} {v : Nat} (hd : decode μ.2.1 pc = .ok (.astore 10, 2)) (hs : knl a9 = true) (h : kV μ d mc ms (pc + 2) (a0 :: a1 :: a2 :: a3 :: a4 :: a5 :: a6 :: a7 :: a8 :: a9 :: some (.ref v) :: r) st σ Q) : kV μ d mc ms pc (a0 :: a1 :: a2 :: a3 :: a4 :: a5 :: a6 :: a7 :: a8 :: a9 :: b :: r) (.ref v :: st) σ Q := by
  intro θ p l e R s m args below meth c FQ H locs cells slots lr hC hH hl hr hF
  have hk : 10 < μ.2.2.1 := by rw [← hl.2]; simp
  refine lv_astore (i := 10) hC.1 hC.2.1 hd  hl.1 hk rfl (fun lr2 h2 => ?_)
  have h3 := kLv_s1 (v := .ref v) (k := 10) (fun j hj w hw => knl_cat hs w (by obtain rfl : j = 9 := (by omega); exact Option.some.inj hw)) h2
  exact h θ p l e R s m args below meth c FQ H locs cells slots lr2 hC hH ⟨h3, by rw [← hl.2]; simp⟩ hr hF
theorem kv_astoreN10 {μ : kM} {d mc ms pc : Nat} {a0 a1 a2 a3 a4 a5 a6 a7 a8 a9 : Option Value} {r : List (Option Value)} {st : List Value} {σ : kS} {Q : Option Value → kS → Prop} {b : Option Value}  (hd : decode μ.2.1 pc = .ok (.astore 10, 2)) (hs : knl a9 = true) (h : kV μ d mc ms (pc + 2) (a0 :: a1 :: a2 :: a3 :: a4 :: a5 :: a6 :: a7 :: a8 :: a9 :: some (.null) :: r) st σ Q) : kV μ d mc ms pc (a0 :: a1 :: a2 :: a3 :: a4 :: a5 :: a6 :: a7 :: a8 :: a9 :: b :: r) (.null :: st) σ Q := by
  intro θ p l e R s m args below meth c FQ H locs cells slots lr hC hH hl hr hF
  have hk : 10 < μ.2.2.1 := by rw [← hl.2]; simp
  refine lv_astoreN (i := 10) hC.1 hC.2.1 hd  hl.1 hk rfl (fun lr2 h2 => ?_)
  have h3 := kLv_s1 (v := .null) (k := 10) (fun j hj w hw => knl_cat hs w (by obtain rfl : j = 9 := (by omega); exact Option.some.inj hw)) h2
  exact h θ p l e R s m args below meth c FQ H locs cells slots lr2 hC hH ⟨h3, by rw [← hl.2]; simp⟩ hr hF
theorem kv_lstore10 {μ : kM} {d mc ms pc : Nat} {a0 a1 a2 a3 a4 a5 a6 a7 a8 a9 : Option Value} {r : List (Option Value)} {st : List Value} {σ : kS} {Q : Option Value → kS → Prop} {b b2 : Option Value} {v : Int64} (hd : decode μ.2.1 pc = .ok (.lstore 10, 2)) (hs : knl a9 = true) (h : kV μ d mc ms (pc + 2) (a0 :: a1 :: a2 :: a3 :: a4 :: a5 :: a6 :: a7 :: a8 :: a9 :: some (.long v) :: none :: r) st σ Q) : kV μ d mc ms pc (a0 :: a1 :: a2 :: a3 :: a4 :: a5 :: a6 :: a7 :: a8 :: a9 :: b :: b2 :: r) (.long v :: st) σ Q := by
  intro θ p l e R s m args below meth c FQ H locs cells slots lr hC hH hl hr hF
  have hk : 10 + 1 < μ.2.2.1 := by rw [← hl.2]; simp
  refine lv_lstore (i := 10) hC.1 hC.2.1 hd  hl.1 hk rfl (fun lr2 h2 => ?_)
  have h3 := kLv_s2 (v := .long v) (k := 10) (fun j hj w hw => knl_cat hs w (by obtain rfl : j = 9 := (by omega); exact Option.some.inj hw)) h2
  exact h θ p l e R s m args below meth c FQ H locs cells slots lr2 hC hH ⟨h3, by rw [← hl.2]; simp⟩ hr hF
theorem kv_iinc10 {μ : kM} {d mc ms pc : Nat} {a0 a1 a2 a3 a4 a5 a6 a7 a8 a9 : Option Value} {r : List (Option Value)} {st : List Value} {σ : kS} {Q : Option Value → kS → Prop} {v w : Int32} {n : Int} (hd : decode μ.2.1 pc = .ok (.iinc 10 n, 3)) (hw : Int32.ofInt n = w) (hs : knl a9 = true) (h : kV μ d mc ms (pc + 3) (a0 :: a1 :: a2 :: a3 :: a4 :: a5 :: a6 :: a7 :: a8 :: a9 :: some (.int (v + w)) :: r) st σ Q) : kV μ d mc ms pc (a0 :: a1 :: a2 :: a3 :: a4 :: a5 :: a6 :: a7 :: a8 :: a9 :: some (.int v) :: r) st σ Q := by
  intro θ p l e R s m args below meth c FQ H locs cells slots lr hC hH hl hr hF
  have hk : 10 < μ.2.2.1 := by rw [← hl.2]; simp
  obtain ⟨z, hz⟩ := List.getElem?_of_mem (kLv_mem (θ := θ) (ls := a0 :: a1 :: a2 :: a3 :: a4 :: a5 :: a6 :: a7 :: a8 :: a9 :: some (.int v) :: r) (q := (10, .int v)) |>.mpr ⟨.int v, rfl, rfl⟩)
  refine lv_iinc (i := 10) (k := z) (x := v) (v := v + w) hC.1 hC.2.1 hd hl.1 hz (by rw [hw]) hk rfl (fun lr2 h2 => ?_)
  have h3 := kLv_s1 (v := .int (v + w)) (k := 10) (fun j hj w hw => knl_cat hs w (by obtain rfl : j = 9 := (by omega); exact Option.some.inj hw)) h2
  exact h θ p l e R s m args below meth c FQ H locs cells slots lr2 hC hH ⟨h3, by rw [← hl.2]; simp⟩ hr hF
theorem kv_iload11 {μ : kM} {d mc ms pc : Nat} {a0 a1 a2 a3 a4 a5 a6 a7 a8 a9 a10 : Option Value} {r : List (Option Value)} {st : List Value} {σ : kS} {Q : Option Value → kS → Prop} {v : Int32} (hd : decode μ.2.1 pc = .ok (.iload 11, 2)) (h : kV μ d mc ms (pc + 2) (a0 :: a1 :: a2 :: a3 :: a4 :: a5 :: a6 :: a7 :: a8 :: a9 :: a10 :: some (.int v) :: r) (.int v :: st) σ Q) : kV μ d mc ms pc (a0 :: a1 :: a2 :: a3 :: a4 :: a5 :: a6 :: a7 :: a8 :: a9 :: a10 :: some (.int v) :: r) st σ Q := by
  intro θ p l e R s m args below meth c FQ H locs cells slots lr hC hH hl hr hF
  exact lv_iload hC.1 hC.2.1 hd (kLv_at (k := 11) hl.1 rfl) (h θ p l e R s m args below meth c FQ H locs cells slots lr hC hH hl hr hF)
theorem kv_lload11 {μ : kM} {d mc ms pc : Nat} {a0 a1 a2 a3 a4 a5 a6 a7 a8 a9 a10 : Option Value} {r : List (Option Value)} {st : List Value} {σ : kS} {Q : Option Value → kS → Prop} {v : Int64} (hd : decode μ.2.1 pc = .ok (.lload 11, 2)) (h : kV μ d mc ms (pc + 2) (a0 :: a1 :: a2 :: a3 :: a4 :: a5 :: a6 :: a7 :: a8 :: a9 :: a10 :: some (.long v) :: r) (.long v :: st) σ Q) : kV μ d mc ms pc (a0 :: a1 :: a2 :: a3 :: a4 :: a5 :: a6 :: a7 :: a8 :: a9 :: a10 :: some (.long v) :: r) st σ Q := by
  intro θ p l e R s m args below meth c FQ H locs cells slots lr hC hH hl hr hF
  exact lv_lload hC.1 hC.2.1 hd (kLv_at (k := 11) hl.1 rfl) (h θ p l e R s m args below meth c FQ H locs cells slots lr hC hH hl hr hF)
theorem kv_aload11 {μ : kM} {d mc ms pc : Nat} {a0 a1 a2 a3 a4 a5 a6 a7 a8 a9 a10 : Option Value} {r : List (Option Value)} {st : List Value} {σ : kS} {Q : Option Value → kS → Prop} {v : Nat} (hd : decode μ.2.1 pc = .ok (.aload 11, 2)) (h : kV μ d mc ms (pc + 2) (a0 :: a1 :: a2 :: a3 :: a4 :: a5 :: a6 :: a7 :: a8 :: a9 :: a10 :: some (.ref v) :: r) (.ref v :: st) σ Q) : kV μ d mc ms pc (a0 :: a1 :: a2 :: a3 :: a4 :: a5 :: a6 :: a7 :: a8 :: a9 :: a10 :: some (.ref v) :: r) st σ Q := by
  intro θ p l e R s m args below meth c FQ H locs cells slots lr hC hH hl hr hF
  exact lv_aload hC.1 hC.2.1 hd (kLv_at (k := 11) hl.1 rfl) (h θ p l e R s m args below meth c FQ H locs cells slots lr hC hH hl hr hF)
theorem kv_aloadN11 {μ : kM} {d mc ms pc : Nat} {a0 a1 a2 a3 a4 a5 a6 a7 a8 a9 a10 : Option Value} {r : List (Option Value)} {st : List Value} {σ : kS} {Q : Option Value → kS → Prop}  (hd : decode μ.2.1 pc = .ok (.aload 11, 2)) (h : kV μ d mc ms (pc + 2) (a0 :: a1 :: a2 :: a3 :: a4 :: a5 :: a6 :: a7 :: a8 :: a9 :: a10 :: some (.null) :: r) (.null :: st) σ Q) : kV μ d mc ms pc (a0 :: a1 :: a2 :: a3 :: a4 :: a5 :: a6 :: a7 :: a8 :: a9 :: a10 :: some (.null) :: r) st σ Q := by
  intro θ p l e R s m args below meth c FQ H locs cells slots lr hC hH hl hr hF
  exact lv_aloadN hC.1 hC.2.1 hd (kLv_at (k := 11) hl.1 rfl) (h θ p l e R s m args below meth c FQ H locs cells slots lr hC hH hl hr hF)
theorem kv_istore11 {μ : kM} {d mc ms pc : Nat} {a0 a1 a2 a3 a4 a5 a6 a7 a8 a9 a10 : Option Value} {r : List (Option Value)} {st : List Value} {σ : kS} {Q : Option Value → kS → Prop} {b : Option Value} {v : Int32} (hd : decode μ.2.1 pc = .ok (.istore 11, 2)) (hs : knl a10 = true) (h : kV μ d mc ms (pc + 2) (a0 :: a1 :: a2 :: a3 :: a4 :: a5 :: a6 :: a7 :: a8 :: a9 :: a10 :: some (.int v) :: r) st σ Q) : kV μ d mc ms pc (a0 :: a1 :: a2 :: a3 :: a4 :: a5 :: a6 :: a7 :: a8 :: a9 :: a10 :: b :: r) (.int v :: st) σ Q := by
  intro θ p l e R s m args below meth c FQ H locs cells slots lr hC hH hl hr hF
  have hk : 11 < μ.2.2.1 := by rw [← hl.2]; simp
  refine lv_istore (i := 11) hC.1 hC.2.1 hd  hl.1 hk rfl (fun lr2 h2 => ?_)
  have h3 := kLv_s1 (v := .int v) (k := 11) (fun j hj w hw => knl_cat hs w (by obtain rfl : j = 10 := (by omega); exact Option.some.inj hw)) h2
  exact h θ p l e R s m args below meth c FQ H locs cells slots lr2 hC hH ⟨h3, by rw [← hl.2]; simp⟩ hr hF
theorem kv_astore11 {μ : kM} {d mc ms pc : Nat} {a0 a1 a2 a3 a4 a5 a6 a7 a8 a9 a10 : Option Value} {r : List (Option Value)} {st : List Value} {σ : kS} {Q : Option Value → kS → Prop} {b : Option Value} {v : Nat} (hd : decode μ.2.1 pc = .ok (.astore 11, 2)) (hs : knl a10 = true) (h : kV μ d mc ms (pc + 2) (a0 :: a1 :: a2 :: a3 :: a4 :: a5 :: a6 :: a7 :: a8 :: a9 :: a10 :: some (.ref v) :: r) st σ Q) : kV μ d mc ms pc (a0 :: a1 :: a2 :: a3 :: a4 :: a5 :: a6 :: a7 :: a8 :: a9 :: a10 :: b :: r) (.ref v :: st) σ Q := by
  intro θ p l e R s m args below meth c FQ H locs cells slots lr hC hH hl hr hF
  have hk : 11 < μ.2.2.1 := by rw [← hl.2]; simp
  refine lv_astore (i := 11) hC.1 hC.2.1 hd  hl.1 hk rfl (fun lr2 h2 => ?_)
  have h3 := kLv_s1 (v := .ref v) (k := 11) (fun j hj w hw => knl_cat hs w (by obtain rfl : j = 10 := (by omega); exact Option.some.inj hw)) h2
  exact h θ p l e R s m args below meth c FQ H locs cells slots lr2 hC hH ⟨h3, by rw [← hl.2]; simp⟩ hr hF
theorem kv_astoreN11 {μ : kM} {d mc ms pc : Nat} {a0 a1 a2 a3 a4 a5 a6 a7 a8 a9 a10 : Option Value} {r : List (Option Value)} {st : List Value} {σ : kS} {Q : Option Value → kS → Prop} {b : Option Value}  (hd : decode μ.2.1 pc = .ok (.astore 11, 2)) (hs : knl a10 = true) (h : kV μ d mc ms (pc + 2) (a0 :: a1 :: a2 :: a3 :: a4 :: a5 :: a6 :: a7 :: a8 :: a9 :: a10 :: some (.null) :: r) st σ Q) : kV μ d mc ms pc (a0 :: a1 :: a2 :: a3 :: a4 :: a5 :: a6 :: a7 :: a8 :: a9 :: a10 :: b :: r) (.null :: st) σ Q := by
  intro θ p l e R s m args below meth c FQ H locs cells slots lr hC hH hl hr hF
  have hk : 11 < μ.2.2.1 := by rw [← hl.2]; simp
  refine lv_astoreN (i := 11) hC.1 hC.2.1 hd  hl.1 hk rfl (fun lr2 h2 => ?_)
  have h3 := kLv_s1 (v := .null) (k := 11) (fun j hj w hw => knl_cat hs w (by obtain rfl : j = 10 := (by omega); exact Option.some.inj hw)) h2
  exact h θ p l e R s m args below meth c FQ H locs cells slots lr2 hC hH ⟨h3, by rw [← hl.2]; simp⟩ hr hF
theorem kv_lstore11 {μ : kM} {d mc ms pc : Nat} {a0 a1 a2 a3 a4 a5 a6 a7 a8 a9 a10 : Option Value} {r : List (Option Value)} {st : List Value} {σ : kS} {Q : Option Value → kS → Prop} {b b2 : Option Value} {v : Int64} (hd : decode μ.2.1 pc = .ok (.lstore 11, 2)) (hs : knl a10 = true) (h : kV μ d mc ms (pc + 2) (a0 :: a1 :: a2 :: a3 :: a4 :: a5 :: a6 :: a7 :: a8 :: a9 :: a10 :: some (.long v) :: none :: r) st σ Q) : kV μ d mc ms pc (a0 :: a1 :: a2 :: a3 :: a4 :: a5 :: a6 :: a7 :: a8 :: a9 :: a10 :: b :: b2 :: r) (.long v :: st) σ Q := by
  intro θ p l e R s m args below meth c FQ H locs cells slots lr hC hH hl hr hF
  have hk : 11 + 1 < μ.2.2.1 := by rw [← hl.2]; simp
  refine lv_lstore (i := 11) hC.1 hC.2.1 hd  hl.1 hk rfl (fun lr2 h2 => ?_)
  have h3 := kLv_s2 (v := .long v) (k := 11) (fun j hj w hw => knl_cat hs w (by obtain rfl : j = 10 := (by omega); exact Option.some.inj hw)) h2
  exact h θ p l e R s m args below meth c FQ H locs cells slots lr2 hC hH ⟨h3, by rw [← hl.2]; simp⟩ hr hF
theorem kv_iinc11 {μ : kM} {d mc ms pc : Nat} {a0 a1 a2 a3 a4 a5 a6 a7 a8 a9 a10 : Option Value} {r : List (Option Value)} {st : List Value} {σ : kS} {Q : Option Value → kS → Prop} {v w : Int32} {n : Int} (hd : decode μ.2.1 pc = .ok (.iinc 11 n, 3)) (hw : Int32.ofInt n = w) (hs : knl a10 = true) (h : kV μ d mc ms (pc + 3) (a0 :: a1 :: a2 :: a3 :: a4 :: a5 :: a6 :: a7 :: a8 :: a9 :: a10 :: some (.int (v + w)) :: r) st σ Q) : kV μ d mc ms pc (a0 :: a1 :: a2 :: a3 :: a4 :: a5 :: a6 :: a7 :: a8 :: a9 :: a10 :: some (.int v) :: r) st σ Q := by
  intro θ p l e R s m args below meth c FQ H locs cells slots lr hC hH hl hr hF
  have hk : 11 < μ.2.2.1 := by rw [← hl.2]; simp
  obtain ⟨z, hz⟩ := List.getElem?_of_mem (kLv_mem (θ := θ) (ls := a0 :: a1 :: a2 :: a3 :: a4 :: a5 :: a6 :: a7 :: a8 :: a9 :: a10 :: some (.int v) :: r) (q := (11, .int v)) |>.mpr ⟨.int v, rfl, rfl⟩)
  refine lv_iinc (i := 11) (k := z) (x := v) (v := v + w) hC.1 hC.2.1 hd hl.1 hz (by rw [hw]) hk rfl (fun lr2 h2 => ?_)
  have h3 := kLv_s1 (v := .int (v + w)) (k := 11) (fun j hj w hw => knl_cat hs w (by obtain rfl : j = 10 := (by omega); exact Option.some.inj hw)) h2
  exact h θ p l e R s m args below meth c FQ H locs cells slots lr2 hC hH ⟨h3, by rw [← hl.2]; simp⟩ hr hF
theorem kv_ireturn {μ : kM} {d mc ms pc : Nat} {ls : List (Option Value)} {σ : kS} {Q : Option Value → kS → Prop} {v : Int32} {ty : FieldType} (hd : decode μ.2.1 pc = .ok (.ireturn, 1)) (ht : μ.2.2.2.1 = some ty) (hn : narrow ty (.int v) = .int v) (h : Q (some (.int v)) σ) : kV μ d mc ms pc ls [.int v] σ Q := by
  intro θ p l e R s m args below meth c FQ H locs cells slots lr hC hH hl hr hF
  exact W.widen (Nat.le_add_right _ _) (Nat.le_add_right _ _) (hF pc lr H locs (some (.int v)) σ h hH ⟨hd, ty, ht, hn⟩)
theorem kv_lreturn {μ : kM} {d mc ms pc : Nat} {ls : List (Option Value)} {σ : kS} {Q : Option Value → kS → Prop} {v : Int64} (hd : decode μ.2.1 pc = .ok (.lreturn, 1)) (ht : μ.2.2.2.1 = some .long) (h : Q (some (.long v)) σ) : kV μ d mc ms pc ls [.long v] σ Q := by
  intro θ p l e R s m args below meth c FQ H locs cells slots lr hC hH hl hr hF
  exact W.widen (Nat.le_add_right _ _) (Nat.le_add_right _ _) (hF pc lr H locs (some (.long v)) σ h hH ⟨hd, ht⟩)
theorem kv_areturn {μ : kM} {d mc ms pc : Nat} {ls : List (Option Value)} {σ : kS} {Q : Option Value → kS → Prop} {v : Nat} {nn : String} (hd : decode μ.2.1 pc = .ok (.areturn, 1)) (ht : μ.2.2.2.1 = some (.object nn)) (h : Q (some (.ref v)) σ) : kV μ d mc ms pc ls [.ref v] σ Q := by
  intro θ p l e R s m args below meth c FQ H locs cells slots lr hC hH hl hr hF
  exact W.widen (Nat.le_add_right _ _) (Nat.le_add_right _ _) (hF pc lr H locs (some (.ref v)) σ h hH ⟨hd, nn, ht⟩)
theorem kv_areturnN {μ : kM} {d mc ms pc : Nat} {ls : List (Option Value)} {σ : kS} {Q : Option Value → kS → Prop} {nn : String} (hd : decode μ.2.1 pc = .ok (.areturn, 1)) (ht : μ.2.2.2.1 = some (.object nn)) (h : Q (some .null) σ) : kV μ d mc ms pc ls [.null] σ Q := by
  intro θ p l e R s m args below meth c FQ H locs cells slots lr hC hH hl hr hF
  exact W.widen (Nat.le_add_right _ _) (Nat.le_add_right _ _) (hF pc lr H locs (some .null) σ h hH ⟨hd, nn, ht⟩)
theorem kv_return {μ : kM} {d mc ms pc : Nat} {ls : List (Option Value)} {σ : kS} {Q : Option Value → kS → Prop}  (hd : decode μ.2.1 pc = .ok (.return_, 1)) (ht : μ.2.2.2.1 = none) (h : Q (none) σ) : kV μ d mc ms pc ls [] σ Q := by
  intro θ p l e R s m args below meth c FQ H locs cells slots lr hC hH hl hr hF
  exact W.widen (Nat.le_add_right _ _) (Nat.le_add_right _ _) (hF pc lr H locs (none) σ h hH ⟨hd, ht⟩)
end
section
/-! THE MINI MACHINE: rows that read and write the heap; generated by wip/gen/part06.py -/
theorem kv_getV {μ : kM} {d mc ms pc : Nat} {ls : List (Option Value)} {st : List Value} {σ : kS} {Q : Option Value → kS → Prop} {ci k idx a : Nat} {v : Value} (hd : decode μ.2.1 pc = .ok (.getfield idx, 3)) (hf : kFl μ.1 idx ci k) (ha : a < zN σ) (hs : kSh a = .inr ci) (hv : kv σ (kd (ktY ci k)) a k = v) (h : kV μ d mc ms (pc + 3) ls (v :: st) σ Q) : kV μ d mc ms pc ls (.ref a :: st) σ Q := by
  intro θ p l e R s m args below meth c FQ H locs cells slots lr hC hH hl hr hF
  have he : (kW θ σ)[a]? = some (θ.1 + a, .inr (ci, kF θ σ ci a)) := by rw [kW_at ha, kE_obj hs]
  obtain ⟨hci, hk, hf⟩ := hf
  have hts := hC.2.2.2.2.1
  have hsame : ∀ x, s.fieldFound? (kTn ci k).1 (kTn ci k).2.1 (kTn ci k).2.2.1 = some x → s.fieldFound? (kCn ci) (kTn ci k).2.1 (kTn ci k).2.2.1 = some x := fun x hx => by rw [kcl_own ci hci k hk] at hx; exact hx
  have hval : (kF θ σ ci a)[k]? = some (kr θ v) := by rw [kF_get hk, hv]
  rcases hf with hf | hf
  · exact va_get hC.1 hC.2.1 hts (kcl_ws ci hci) hC.2.2.2.1 hC.2.2.2.2.2.1.1 hH.1 a he (kcl_at ci hci) k hk (hts _ hf) hsame hval hd (h θ p l e R s m args below meth c FQ H locs cells slots lr hC hH hl hr hF)
  · exact va_getN hC.1 hC.2.1 hts (kcl_ws ci hci) hC.2.2.2.1 hC.2.2.2.2.2.1.1 hH.1 a he (kcl_at ci hci) k hk (va_Nw.use rfl (hC.2.2.2.2.2.1.2.1 _ hf)) hsame hval hd (h θ p l e R s m args below meth c FQ H locs cells slots lr hC hH hl hr hF)
theorem kv_getI {μ : kM} {d mc ms pc : Nat} {ls : List (Option Value)} {st : List Value} {σ : kS} {Q : Option Value → kS → Prop} {ci k idx a : Nat} (hd : decode μ.2.1 pc = .ok (.getfield idx, 3)) (hf : kFl μ.1 idx ci k) (hty : kd (ktY ci k) = 0) (ha : a < zN σ) (hs : kSh a = .inr ci)  (h : kV μ d mc ms (pc + 3) ls (.int (zI σ a k) :: st) σ Q) : kV μ d mc ms pc ls (.ref a :: st) σ Q := kv_getV hd hf ha hs (by rw [hty]; exact (rfl)) h
theorem kv_getL {μ : kM} {d mc ms pc : Nat} {ls : List (Option Value)} {st : List Value} {σ : kS} {Q : Option Value → kS → Prop} {ci k idx a : Nat} (hd : decode μ.2.1 pc = .ok (.getfield idx, 3)) (hf : kFl μ.1 idx ci k) (hty : kd (ktY ci k) = 1) (ha : a < zN σ) (hs : kSh a = .inr ci)  (h : kV μ d mc ms (pc + 3) ls (.long (zL σ a k) :: st) σ Q) : kV μ d mc ms pc ls (.ref a :: st) σ Q := kv_getV hd hf ha hs (by rw [hty]; exact (rfl)) h
theorem kv_getR {μ : kM} {d mc ms pc : Nat} {ls : List (Option Value)} {st : List Value} {σ : kS} {Q : Option Value → kS → Prop} {ci k idx a b : Nat} (hd : decode μ.2.1 pc = .ok (.getfield idx, 3)) (hf : kFl μ.1 idx ci k) (hty : kd (ktY ci k) = 2) (ha : a < zN σ) (hs : kSh a = .inr ci) (hr2 : zR σ a k = some b) (h : kV μ d mc ms (pc + 3) ls (.ref b :: st) σ Q) : kV μ d mc ms pc ls (.ref a :: st) σ Q := kv_getV hd hf ha hs (by rw [hty]; exact (by simp only [kv, hr2, va_rf])) h
theorem kv_getN {μ : kM} {d mc ms pc : Nat} {ls : List (Option Value)} {st : List Value} {σ : kS} {Q : Option Value → kS → Prop} {ci k idx a : Nat} (hd : decode μ.2.1 pc = .ok (.getfield idx, 3)) (hf : kFl μ.1 idx ci k) (hty : kd (ktY ci k) = 2) (ha : a < zN σ) (hs : kSh a = .inr ci) (hr2 : zR σ a k = none) (h : kV μ d mc ms (pc + 3) ls (.null :: st) σ Q) : kV μ d mc ms pc ls (.ref a :: st) σ Q := kv_getV hd hf ha hs (by rw [hty]; exact (by simp only [kv, hr2, va_rf])) h
theorem kH_upd {θ : kT} {σ σ' : kS} {s : State} {H H' : Heap} {locs : List Loc} {a k : Nat} (hH : kH θ σ s H locs) (ha : a < zN σ) (hz : zN σ' = zN σ) (ho : ∀ x, x ≠ a → kE θ σ' x = kE θ σ x) (hat : va_at θ.2.2.2.2.2 kl_cl (θ.1 + a, kE θ σ' a) H') (e2 : H'.size = H.size) (e3 : ∀ q, q ≠ θ.1 + a → H'[q]? = H[q]?) : kH θ σ' s H' (locs ++ [⟨θ.1 + a, k⟩]) :=
  ⟨by rw [← kW_set ha hz ho]; exact hH.1.set kW_D (kW_at ha) hat e3, hH.2.1.put e2 e3 (Nat.le_add_right _ _), by rw [e2, hz]; exact hH.2.2⟩
theorem kv_putV {μ : kM} {d mc ms pc : Nat} {ls : List (Option Value)} {st : List Value} {σ : kS} {Q : Option Value → kS → Prop} {ci k idx a : Nat} {v : Value} {σ' : kS} (hd : decode μ.2.1 pc = .ok (.putfield idx, 3)) (hf : kFl μ.1 idx ci k) (ha : a < zN σ) (hs : kSh a = .inr ci) (hfin : (kTn ci k).2.2.2 = false) (hn : ∀ θ, narrow (ktY ci k) (kr θ v) = kr θ v) (hfit : ∀ θ, fits (ktY ci k) (kr θ v) = true)
    (hz : zN σ' = zN σ) (ho : ∀ θ x, x ≠ a → kE θ σ' x = kE θ σ x) (hv : kv σ' (kd (ktY ci k)) a k = v) (hoj : ∀ j, j ≠ k → ∀ t, kv σ' t a j = kv σ t a j) (h : kV μ d mc ms (pc + 3) ls st σ' Q) : kV μ d mc ms pc ls (v :: .ref a :: st) σ Q := by
  intro θ p l e R s m args below meth c FQ H locs cells slots lr hC hH hl hr hF
  have he : (kW θ σ)[a]? = some (θ.1 + a, .inr (ci, kF θ σ ci a)) := by rw [kW_at ha, kE_obj hs]
  obtain ⟨hci, hk, hf⟩ := hf
  have hts := hC.2.2.2.2.1
  have hK := hC.2.2.2.2.2.1.1
  have hown := hC.2.2.2.1
  have hc := kcl_at ci hci
  have hsame : ∀ x, s.fieldFound? (kTn ci k).1 (kTn ci k).2.1 (kTn ci k).2.2.1 = some x → s.fieldFound? (kCn ci) (kTn ci k).2.1 (kTn ci k).2.2.1 = some x := fun x hx => by rw [kcl_own ci hci k hk] at hx; exact hx
  have hap := va_apart (own := μ.1) hts (kcl_ws ci hci) (ktY ci) (kcl_ty ci hci) (kcl_nm ci hci) hK hc
  obtain ⟨q, h1, cell, q1, q2, q3, q4⟩ := hH.1 a _ he
  obtain rfl : q = (kCn ci, kTn ci, kNn ci) := Option.some.inj (h1.symm.trans hc)
  obtain ⟨hS, hfc, kC, hkC, hkind⟩ := hK.1 ci _ hc
  obtain ⟨cf, kf, fi, f, hi, hsl⟩ := hS k hk
  have hlay := hts _ (kcl_ws ci hci _ (u_in_lay hk))
  unfold u_lay at hlay
  rw [if_neg (by rw [hfin]; decide)] at hlay
  have hst := (u_facts hfc hkC (u_lays hts (kcl_ws ci hci) hk) hi).1
  have h6 := u_store hfc hkC hkind hlay hi (kcl_ty ci hci k hk) (hn θ) (hfit θ)
  have fin : ∀ H' : Heap, H'[θ.1 + a]? = some (cell.setSlot (θ.2.2.2.2.2.2 ci k) (kr θ v)) → H'.size = H.size → (∀ q, q ≠ θ.1 + a → H'[q]? = H[q]?) → W p l e R s m args below meth c H' (locs ++ [⟨θ.1 + a, θ.2.2.2.2.2.2 ci k⟩]) cells slots FQ (F0 m (pc + 3) lr (st.map (kr θ))) := fun H' e1 e2 e3 => by
    refine h θ p l e R s m args below meth c FQ H' _ cells slots lr hC (kH_upd hH ha hz (ho θ) ?_ e2 e3) hl hr hF
    rw [kE_obj hs, ← kF_set (σ := σ) hoj, hv]
    exact ⟨_, hc, t_OB.to (V := updV (vp_V (kF θ σ ci a)) k (kr θ v)) ⟨_, e1, q2, q3, t_set q4 hap hk (kr θ v)⟩ (fun j _ => vp_updV_set (by rw [kF_len]; exact hk) (kr θ v) j)⟩
  rcases hf with hf | hf
  · refine W.putK hC.1 hC.2.1 (f := f) ⟨hown, hts _ hf, ⟨_, _, _, hsame _ hi⟩, hst⟩ (by rw [q2]; exact h6) q1 q3 (by rw [hsl]; exact k2_hasslot (q4 k hk)) rfl rfl hd fun H' e1 e2 e3 => ?_
    rw [hsl] at e1 ⊢
    exact fin H' e1 e2 e3
  · refine va_WputK hC.1 hC.2.1 (f := f) hown (va_Nw.use rfl (hC.2.2.2.2.2.1.2.1 _ hf)) (hsame _ hi) hst (by rw [q2]; exact h6) q1 q3 (by rw [hsl]; exact k2_hasslot (q4 k hk)) rfl rfl hd fun H' e1 e2 e3 => ?_
    rw [hsl] at e1 ⊢
    exact fin H' e1 e2 e3
/-- a final field, in its class's constructor -/
theorem kv_putF {μ : kM} {d mc ms pc : Nat} {ls : List (Option Value)} {st : List Value} {σ : kS} {Q : Option Value → kS → Prop} {ci k idx a : Nat} {v : Value} {σ' : kS} (hd : decode μ.2.1 pc = .ok (.putfield idx, 3)) (hf : kFl μ.1 idx ci k) (hlk : Cond.fieldLink μ.1 idx (kCn ci) (kTn ci k).2.1 (kTn ci k).2.2.1 ∈ kl_ws) (hnm : μ.2.2.2.2 = "<init>") (hdc : kCn ci = μ.1) (ha : a < zN σ) (hs : kSh a = .inr ci) (hfin : (kTn ci k).2.2.2 = true) (hn : ∀ θ, narrow (ktY ci k) (kr θ v) = kr θ v) (hfit : ∀ θ, fits (ktY ci k) (kr θ v) = true)
    (hz : zN σ' = zN σ) (ho : ∀ θ x, x ≠ a → kE θ σ' x = kE θ σ x) (hv : kv σ' (kd (ktY ci k)) a k = v) (hoj : ∀ j, j ≠ k → ∀ t, kv σ' t a j = kv σ t a j) (h : kV μ d mc ms (pc + 3) ls st σ' Q) : kV μ d mc ms pc ls (v :: .ref a :: st) σ Q := by
  intro θ p l e R s m args below meth c FQ H locs cells slots lr hC hH hl hr hF
  have he : (kW θ σ)[a]? = some (θ.1 + a, .inr (ci, kF θ σ ci a)) := by rw [kW_at ha, kE_obj hs]
  obtain ⟨hci, hk, hf⟩ := hf
  have hts := hC.2.2.2.2.1
  have hK := hC.2.2.2.2.2.1.1
  have hown := hC.2.2.2.1
  have hc := kcl_at ci hci
  have hsame : ∀ x, s.fieldFound? (kTn ci k).1 (kTn ci k).2.1 (kTn ci k).2.2.1 = some x → s.fieldFound? (kCn ci) (kTn ci k).2.1 (kTn ci k).2.2.1 = some x := fun x hx => by rw [kcl_own ci hci k hk] at hx; exact hx
  have hap := va_apart (own := μ.1) hts (kcl_ws ci hci) (ktY ci) (kcl_ty ci hci) (kcl_nm ci hci) hK hc
  obtain ⟨q, h1, cell, q1, q2, q3, q4⟩ := hH.1 a _ he
  obtain rfl : q = (kCn ci, kTn ci, kNn ci) := Option.some.inj (h1.symm.trans hc)
  obtain ⟨hS, hfc, kC, hkC, hkind⟩ := hK.1 ci _ hc
  obtain ⟨cf, kf, fi, f, hi, hsl⟩ := hS k hk
  have hlay := hts _ (kcl_ws ci hci _ (u_in_lay hk))
  unfold u_lay at hlay
  rw [if_pos hfin] at hlay
  have hst := (u_facts hfc hkC (u_lays hts (kcl_ws ci hci) hk) hi).1
  have hcf : m.cls = cf := by
    obtain ⟨_, _, c', _, _, _, -, -, hf', -, -, -, hown2, -⟩ := Cond.laysFinal_spec hlay
    have e1 : c' = cf := by have := hi.symm.trans hf'; simp at this; exact this.1.symm
    rw [kcl_own ci hci k hk, hdc] at hown2
    rw [← e1]; exact Option.some.inj (hown.symm.trans hown2)
  have h6 := u_fits hfc hkC hkind (Or.inr hlay) hi (kcl_ty ci hci k hk) (hn θ) (hfit θ)
  refine W.putFinK hC.1 hC.2.1 hown (hts _ hlk) (hsame _ hi) hst hcf (by rw [hC.2.2.2.2.2.2.2.2.2]; exact hnm) (by rw [q2]; exact h6) q1 q3 (by rw [hsl]; exact k2_hasslot (q4 k hk)) rfl rfl hd fun H' e1 e2 e3 => ?_
  rw [hsl] at e1 ⊢
  refine h θ p l e R s m args below meth c FQ H' _ cells slots lr hC (kH_upd hH ha hz (ho θ) ?_ e2 e3) hl hr hF
  rw [kE_obj hs, ← kF_set (σ := σ) hoj, hv]
  exact ⟨_, hc, t_OB.to (V := updV (vp_V (kF θ σ ci a)) k (kr θ v)) ⟨_, e1, q2, q3, t_set q4 hap hk (kr θ v)⟩ (fun j _ => vp_updV_set (by rw [kF_len]; exact hk) (kr θ v) j)⟩
theorem kv_sI {σ : kS} {a k : Nat} {x : Int32} : ∀ j, j ≠ k → ∀ t, kv (sI σ a k x) t a j = kv σ t a j := fun j hj t => by
  match t with
  | 0 => simp only [kv, kI_eq, if_neg hj]
  | 1 => rfl
  | _ + 2 => rfl
theorem kv_sL {σ : kS} {a k : Nat} {x : Int64} : ∀ j, j ≠ k → ∀ t, kv (sL σ a k x) t a j = kv σ t a j := fun j hj t => by
  match t with
  | 0 => rfl
  | 1 => simp only [kv, kL_eq, if_neg hj]
  | _ + 2 => rfl
theorem kv_sR {σ : kS} {a k : Nat} {x : Option Nat} : ∀ j, j ≠ k → ∀ t, kv (sR σ a k x) t a j = kv σ t a j := fun j hj t => by
  match t with
  | 0 => rfl
  | 1 => rfl
  | _ + 2 => simp only [kv, kR_eq, if_neg hj]
theorem kd2 {ty : FieldType} (h : kd ty = 2) : (∃ n, ty = .object n) ∨ ∃ t, ty = .array t := by
  cases ty <;> simp [kd] at h
  · exact Or.inl ⟨_, rfl⟩
  · exact Or.inr ⟨_, rfl⟩
theorem kv_putI {μ : kM} {d mc ms pc : Nat} {ls : List (Option Value)} {st : List Value} {σ : kS} {Q : Option Value → kS → Prop} {ci k idx a : Nat} {x : Int32} (hd : decode μ.2.1 pc = .ok (.putfield idx, 3)) (hf : kFl μ.1 idx ci k) (hty : ktY ci k = .int) (hfin : (kTn ci k).2.2.2 = false) (ha : a < zN σ) (hs : kSh a = .inr ci) (h : kV μ d mc ms (pc + 3) ls st (sI σ a k x) Q) : kV μ d mc ms pc ls (.int x :: .ref a :: st) σ Q := kv_putV (σ' := sI σ a k x) hd hf ha hs hfin (fun _ => by rw [hty]; rfl) (fun _ => by rw [hty]; rfl) rfl (fun _ => kE_sI) (by rw [hty]; show Value.int (zI (sI σ a k x) a k) = _; rw [kI_eq, if_pos rfl]) kv_sI h
theorem kv_putZ {μ : kM} {d mc ms pc : Nat} {ls : List (Option Value)} {st : List Value} {σ : kS} {Q : Option Value → kS → Prop} {ci k idx a : Nat} {x : Int32} (hd : decode μ.2.1 pc = .ok (.putfield idx, 3)) (hf : kFl μ.1 idx ci k) (hty : ktY ci k = .boolean) (hfin : (kTn ci k).2.2.2 = false) (ha : a < zN σ) (hs : kSh a = .inr ci) (hx : x = 0 ∨ x = 1) (h : kV μ d mc ms (pc + 3) ls st (sI σ a k x) Q) : kV μ d mc ms pc ls (.int x :: .ref a :: st) σ Q := kv_putV (σ' := sI σ a k x) hd hf ha hs hfin (fun _ => by rw [hty]; rcases hx with rfl | rfl <;> rfl) (fun _ => by rw [hty]; rcases hx with rfl | rfl <;> rfl) rfl (fun _ => kE_sI) (by rw [hty]; show Value.int (zI (sI σ a k x) a k) = _; rw [kI_eq, if_pos rfl]) kv_sI h
theorem kv_putR {μ : kM} {d mc ms pc : Nat} {ls : List (Option Value)} {st : List Value} {σ : kS} {Q : Option Value → kS → Prop} {ci k idx a b : Nat} (hd : decode μ.2.1 pc = .ok (.putfield idx, 3)) (hf : kFl μ.1 idx ci k) (hty : kd (ktY ci k) = 2) (hfin : (kTn ci k).2.2.2 = false) (ha : a < zN σ) (hs : kSh a = .inr ci) (h : kV μ d mc ms (pc + 3) ls st (sR σ a k (some b)) Q) : kV μ d mc ms pc ls (.ref b :: .ref a :: st) σ Q := kv_putV (σ' := sR σ a k (some b)) hd hf ha hs hfin (fun _ => by rcases kd2 hty with ⟨n, e⟩ | ⟨t, e⟩ <;> rw [e] <;> rfl) (fun _ => by rcases kd2 hty with ⟨n, e⟩ | ⟨t, e⟩ <;> rw [e] <;> rfl) rfl (fun _ => kE_sR) (by rw [hty]; show va_rf (zR (sR σ a k (some b)) a k) = _; rw [kR_eq, if_pos rfl]; rfl) kv_sR h
theorem kv_putFI {μ : kM} {d mc ms pc : Nat} {ls : List (Option Value)} {st : List Value} {σ : kS} {Q : Option Value → kS → Prop} {ci k idx a : Nat} {x : Int32} (hd : decode μ.2.1 pc = .ok (.putfield idx, 3)) (hf : kFl μ.1 idx ci k) (hlk : Cond.fieldLink μ.1 idx (kCn ci) (kTn ci k).2.1 (kTn ci k).2.2.1 ∈ kl_ws) (hnm : μ.2.2.2.2 = "<init>") (hdc : kCn ci = μ.1) (hty : ktY ci k = .int) (hfin : (kTn ci k).2.2.2 = true) (ha : a < zN σ) (hs : kSh a = .inr ci) (h : kV μ d mc ms (pc + 3) ls st (sI σ a k x) Q) : kV μ d mc ms pc ls (.int x :: .ref a :: st) σ Q := kv_putF (σ' := sI σ a k x) hd hf hlk hnm hdc ha hs hfin (fun _ => by rw [hty]; rfl) (fun _ => by rw [hty]; rfl) rfl (fun _ => kE_sI) (by rw [hty]; show Value.int (zI (sI σ a k x) a k) = _; rw [kI_eq, if_pos rfl]) kv_sI h
theorem kv_putFZ {μ : kM} {d mc ms pc : Nat} {ls : List (Option Value)} {st : List Value} {σ : kS} {Q : Option Value → kS → Prop} {ci k idx a : Nat} {x : Int32} (hd : decode μ.2.1 pc = .ok (.putfield idx, 3)) (hf : kFl μ.1 idx ci k) (hlk : Cond.fieldLink μ.1 idx (kCn ci) (kTn ci k).2.1 (kTn ci k).2.2.1 ∈ kl_ws) (hnm : μ.2.2.2.2 = "<init>") (hdc : kCn ci = μ.1) (hty : ktY ci k = .boolean) (hfin : (kTn ci k).2.2.2 = true) (ha : a < zN σ) (hs : kSh a = .inr ci) (hx : x = 0 ∨ x = 1) (h : kV μ d mc ms (pc + 3) ls st (sI σ a k x) Q) : kV μ d mc ms pc ls (.int x :: .ref a :: st) σ Q := kv_putF (σ' := sI σ a k x) hd hf hlk hnm hdc ha hs hfin (fun _ => by rw [hty]; rcases hx with rfl | rfl <;> rfl) (fun _ => by rw [hty]; rcases hx with rfl | rfl <;> rfl) rfl (fun _ => kE_sI) (by rw [hty]; show Value.int (zI (sI σ a k x) a k) = _; rw [kI_eq, if_pos rfl]) kv_sI h
theorem kv_putFR {μ : kM} {d mc ms pc : Nat} {ls : List (Option Value)} {st : List Value} {σ : kS} {Q : Option Value → kS → Prop} {ci k idx a b : Nat} (hd : decode μ.2.1 pc = .ok (.putfield idx, 3)) (hf : kFl μ.1 idx ci k) (hlk : Cond.fieldLink μ.1 idx (kCn ci) (kTn ci k).2.1 (kTn ci k).2.2.1 ∈ kl_ws) (hnm : μ.2.2.2.2 = "<init>") (hdc : kCn ci = μ.1) (hty : kd (ktY ci k) = 2) (hfin : (kTn ci k).2.2.2 = true) (ha : a < zN σ) (hs : kSh a = .inr ci) (h : kV μ d mc ms (pc + 3) ls st (sR σ a k (some b)) Q) : kV μ d mc ms pc ls (.ref b :: .ref a :: st) σ Q := kv_putF (σ' := sR σ a k (some b)) hd hf hlk hnm hdc ha hs hfin (fun _ => by rcases kd2 hty with ⟨n, e⟩ | ⟨t, e⟩ <;> rw [e] <;> rfl) (fun _ => by rcases kd2 hty with ⟨n, e⟩ | ⟨t, e⟩ <;> rw [e] <;> rfl) rfl (fun _ => kE_sR) (by rw [hty]; show va_rf (zR (sR σ a k (some b)) a k) = _; rw [kR_eq, if_pos rfl]; rfl) kv_sR h
theorem kv_putL {μ : kM} {d mc ms pc : Nat} {ls : List (Option Value)} {st : List Value} {σ : kS} {Q : Option Value → kS → Prop} {ci k idx a : Nat} {x : Int64} (hd : decode μ.2.1 pc = .ok (.putfield idx, 3)) (hf : kFl μ.1 idx ci k) (hty : ktY ci k = .long) (hfin : (kTn ci k).2.2.2 = false) (ha : a < zN σ) (hs : kSh a = .inr ci) (h : kV μ d mc ms (pc + 3) ls st (sL σ a k x) Q) : kV μ d mc ms pc ls (.long x :: .ref a :: st) σ Q := kv_putV (σ' := sL σ a k x) hd hf ha hs hfin (fun _ => by rw [hty]; rfl) (fun _ => by rw [hty]; rfl) rfl (fun _ => kE_sL) (by rw [hty]; show Value.long (zL (sL σ a k x) a k) = _; rw [kL_eq, if_pos rfl]) kv_sL h
theorem kv_iald {μ : kM} {d mc ms pc : Nat} {ls : List (Option Value)} {st : List Value} {σ : kS} {Q : Option Value → kS → Prop} {a n : Nat} {i : Int32} (hd : decode μ.2.1 pc = .ok (.iaload, 1)) (ha : a < zN σ) (hs : kSh a = .inl (.int, n)) (hi : vp_in i n) (h : kV μ d mc ms (pc + 1) ls (.int (zI σ a i.toNatClampNeg) :: st) σ Q) : kV μ d mc ms pc ls (.int i :: .ref a :: st) σ Q := by
  intro θ p l e R s m args below meth c FQ H locs cells slots lr hC hH hl hr hF
  exact va_iald hC.1 hC.2.1 hC.2.2.2.2.2.1.1 hH.1 a 0 (show (kW θ σ)[a]? = some (θ.1 + a, .inl (θ.2.2.2.2.1 .int, n, .inl (zI σ a))) by rw [kW_at ha, kE_arr hs]; rfl) rfl hi hd (h θ p l e R s m args below meth c FQ H locs cells slots lr hC hH hl hr hF)
theorem kv_bald {μ : kM} {d mc ms pc : Nat} {ls : List (Option Value)} {st : List Value} {σ : kS} {Q : Option Value → kS → Prop} {a n : Nat} {i : Int32} (hd : decode μ.2.1 pc = .ok (.baload, 1)) (ha : a < zN σ) (hs : kSh a = .inl (.byte, n)) (hi : vp_in i n) (h : kV μ d mc ms (pc + 1) ls (.int (zI σ a i.toNatClampNeg) :: st) σ Q) : kV μ d mc ms pc ls (.int i :: .ref a :: st) σ Q := by
  intro θ p l e R s m args below meth c FQ H locs cells slots lr hC hH hl hr hF
  exact va_bald hC.1 hC.2.1 hC.2.2.2.2.2.1.1 hH.1 a 1 (show (kW θ σ)[a]? = some (θ.1 + a, .inl (θ.2.2.2.2.1 .byte, n, .inl (zI σ a))) by rw [kW_at ha, kE_arr hs]; rfl) rfl hi hd (h θ p l e R s m args below meth c FQ H locs cells slots lr hC hH hl hr hF)
theorem kv_zald {μ : kM} {d mc ms pc : Nat} {ls : List (Option Value)} {st : List Value} {σ : kS} {Q : Option Value → kS → Prop} {a n : Nat} {i : Int32} (hd : decode μ.2.1 pc = .ok (.baload, 1)) (ha : a < zN σ) (hs : kSh a = .inl (.boolean, n)) (hi : vp_in i n) (h : kV μ d mc ms (pc + 1) ls (.int (zI σ a i.toNatClampNeg) :: st) σ Q) : kV μ d mc ms pc ls (.int i :: .ref a :: st) σ Q := by
  intro θ p l e R s m args below meth c FQ H locs cells slots lr hC hH hl hr hF
  exact va_zald hC.1 hC.2.1 hC.2.2.2.2.2.1.1 hH.1 a 2 (show (kW θ σ)[a]? = some (θ.1 + a, .inl (θ.2.2.2.2.1 .boolean, n, .inl (zI σ a))) by rw [kW_at ha, kE_arr hs]; rfl) rfl hi hd (h θ p l e R s m args below meth c FQ H locs cells slots lr hC hH hl hr hF)
theorem kv_lald {μ : kM} {d mc ms pc : Nat} {ls : List (Option Value)} {st : List Value} {σ : kS} {Q : Option Value → kS → Prop} {a n : Nat} {i : Int32} (hd : decode μ.2.1 pc = .ok (.laload, 1)) (ha : a < zN σ) (hs : kSh a = .inl (.long, n)) (hi : vp_in i n) (h : kV μ d mc ms (pc + 1) ls (.long (zL σ a i.toNatClampNeg) :: st) σ Q) : kV μ d mc ms pc ls (.int i :: .ref a :: st) σ Q := by
  intro θ p l e R s m args below meth c FQ H locs cells slots lr hC hH hl hr hF
  exact va_lald hC.1 hC.2.1 hC.2.2.2.2.2.1.1 hH.1 a 3 (show (kW θ σ)[a]? = some (θ.1 + a, .inl (θ.2.2.2.2.1 .long, n, .inr (.inl (zL σ a)))) by rw [kW_at ha, kE_arr hs]; rfl) rfl hi hd (h θ p l e R s m args below meth c FQ H locs cells slots lr hC hH hl hr hF)
theorem kv_aald {μ : kM} {d mc ms pc : Nat} {ls : List (Option Value)} {st : List Value} {σ : kS} {Q : Option Value → kS → Prop} {a n b : Nat} {i : Int32} (hd : decode μ.2.1 pc = .ok (.aaload, 1)) (ha : a < zN σ) (hs : kSh a = .inl (.object RX1, n)) (hi : vp_in i n) (hv : zR σ a i.toNatClampNeg = some b) (h : kV μ d mc ms (pc + 1) ls (.ref b :: st) σ Q) : kV μ d mc ms pc ls (.int i :: .ref a :: st) σ Q := by
  intro θ p l e R s m args below meth c FQ H locs cells slots lr hC hH hl hr hF
  refine va_aldq hC.1 hC.2.1 hC.2.2.2.2.2.1.1 hH.1 a 4 (show (kW θ σ)[a]? = some (θ.1 + a, .inl (θ.2.2.2.2.1 (.object RX1), n, .inr (.inr (.inr (.inr (fun j => (zR σ a j).map (θ.1 + ·))))))) by rw [kW_at ha, kE_arr hs]; rfl) rfl hi hd ?_
  rw [hv]
  exact (h θ p l e R s m args below meth c FQ H locs cells slots lr hC hH hl hr hF)
theorem kv_aaldN {μ : kM} {d mc ms pc : Nat} {ls : List (Option Value)} {st : List Value} {σ : kS} {Q : Option Value → kS → Prop} {a n : Nat} {i : Int32} (hd : decode μ.2.1 pc = .ok (.aaload, 1)) (ha : a < zN σ) (hs : kSh a = .inl (.object RX1, n)) (hi : vp_in i n) (hv : zR σ a i.toNatClampNeg = none) (h : kV μ d mc ms (pc + 1) ls (.null :: st) σ Q) : kV μ d mc ms pc ls (.int i :: .ref a :: st) σ Q := by
  intro θ p l e R s m args below meth c FQ H locs cells slots lr hC hH hl hr hF
  refine va_aldq hC.1 hC.2.1 hC.2.2.2.2.2.1.1 hH.1 a 4 (show (kW θ σ)[a]? = some (θ.1 + a, .inl (θ.2.2.2.2.1 (.object RX1), n, .inr (.inr (.inr (.inr (fun j => (zR σ a j).map (θ.1 + ·))))))) by rw [kW_at ha, kE_arr hs]; rfl) rfl hi hd ?_
  rw [hv]
  exact (h θ p l e R s m args below meth c FQ H locs cells slots lr hC hH hl hr hF)
theorem kv_iast {μ : kM} {d mc ms pc : Nat} {ls : List (Option Value)} {st : List Value} {σ : kS} {Q : Option Value → kS → Prop} {a n : Nat} {i x : Int32} (hd : decode μ.2.1 pc = .ok (.iastore, 1)) (ha : a < zN σ) (hs : kSh a = .inl (.int, n)) (hi : vp_in i n) (h : kV μ d mc ms (pc + 1) ls st (sI σ a i.toNatClampNeg x) Q) : kV μ d mc ms pc ls (.int x :: .int i :: .ref a :: st) σ Q := by
  intro θ p l e R s m args below meth c FQ H locs cells slots lr hC hH hl hr hF
  have he : (kW θ σ)[a]? = some (θ.1 + a, .inl (θ.2.2.2.2.1 .int, n, .inl (zI σ a))) := by rw [kW_at ha, kE_arr hs]; rfl
  refine W.iast hC.1 hC.2.1 (hH.1 a _ he) ((hC.2.2.2.2.2.1.1.2 0 _ rfl).1 n (fun j => .int (zI σ a j))) (fun q => by cases q) (by show ¬ (i < 0 ∨ (arrV _ _ _).slots.size ≤ _); rw [arrV_size]; exact hi) rfl rfl hd fun H1 ee z oq => ?_
  refine h θ p l e R s m args below meth c FQ H1 _ cells slots lr hC (kH_upd hH ha rfl kE_sI ?_ z oq) hl hr hF
  rw [kE_arr hs]
  show H1[θ.1 + a]? = some (vp_cell _ _)
  rw [ee]
  show some _ = some (vp_cell (θ.2.2.2.2.1 .int) (n, .inl (zI (sI σ a i.toNatClampNeg x) a)))
  rw [vp_cell_i, vp_cell_i, arrV_store]
  congr 2
  funext q
  rw [kI_eq]
  by_cases hq : q = i.toNatClampNeg
  · subst hq
    simp [updV, vp_nar]
    try rfl
  · simp [updV, hq]
theorem kv_bast {μ : kM} {d mc ms pc : Nat} {ls : List (Option Value)} {st : List Value} {σ : kS} {Q : Option Value → kS → Prop} {a n : Nat} {i x : Int32} (hd : decode μ.2.1 pc = .ok (.bastore, 1)) (ha : a < zN σ) (hs : kSh a = .inl (.byte, n)) (hi : vp_in i n) (h : kV μ d mc ms (pc + 1) ls st (sI σ a i.toNatClampNeg (vp_nar .byte x)) Q) : kV μ d mc ms pc ls (.int x :: .int i :: .ref a :: st) σ Q := by
  intro θ p l e R s m args below meth c FQ H locs cells slots lr hC hH hl hr hF
  have he : (kW θ σ)[a]? = some (θ.1 + a, .inl (θ.2.2.2.2.1 .byte, n, .inl (zI σ a))) := by rw [kW_at ha, kE_arr hs]; rfl
  refine W.bast hC.1 hC.2.1 (hH.1 a _ he) ((hC.2.2.2.2.2.1.1.2 1 _ rfl).1 n (fun j => .int (zI σ a j))) (fun q => by cases q) (by show ¬ (i < 0 ∨ (arrV _ _ _).slots.size ≤ _); rw [arrV_size]; exact hi) rfl rfl hd fun H1 ee z oq => ?_
  refine h θ p l e R s m args below meth c FQ H1 _ cells slots lr hC (kH_upd hH ha rfl kE_sI ?_ z oq) hl hr hF
  rw [kE_arr hs]
  show H1[θ.1 + a]? = some (vp_cell _ _)
  rw [ee]
  show some _ = some (vp_cell (θ.2.2.2.2.1 .byte) (n, .inl (zI (sI σ a i.toNatClampNeg (vp_nar .byte x)) a)))
  rw [vp_cell_i, vp_cell_i, arrV_store]
  congr 2
  funext q
  rw [kI_eq]
  by_cases hq : q = i.toNatClampNeg
  · subst hq
    simp [updV, vp_nar]
    try rfl
  · simp [updV, hq]
theorem kv_zast {μ : kM} {d mc ms pc : Nat} {ls : List (Option Value)} {st : List Value} {σ : kS} {Q : Option Value → kS → Prop} {a n : Nat} {i x : Int32} (hd : decode μ.2.1 pc = .ok (.bastore, 1)) (ha : a < zN σ) (hs : kSh a = .inl (.boolean, n)) (hi : vp_in i n) (h : kV μ d mc ms (pc + 1) ls st (sI σ a i.toNatClampNeg (vp_nar .boolean x)) Q) : kV μ d mc ms pc ls (.int x :: .int i :: .ref a :: st) σ Q := by
  intro θ p l e R s m args below meth c FQ H locs cells slots lr hC hH hl hr hF
  have he : (kW θ σ)[a]? = some (θ.1 + a, .inl (θ.2.2.2.2.1 .boolean, n, .inl (zI σ a))) := by rw [kW_at ha, kE_arr hs]; rfl
  refine W.zast hC.1 hC.2.1 (hH.1 a _ he) ((hC.2.2.2.2.2.1.1.2 2 _ rfl).1 n (fun j => .int (zI σ a j))) (fun q => by cases q) (by show ¬ (i < 0 ∨ (arrV _ _ _).slots.size ≤ _); rw [arrV_size]; exact hi) rfl rfl hd fun H1 ee z oq => ?_
  refine h θ p l e R s m args below meth c FQ H1 _ cells slots lr hC (kH_upd hH ha rfl kE_sI ?_ z oq) hl hr hF
  rw [kE_arr hs]
  show H1[θ.1 + a]? = some (vp_cell _ _)
  rw [ee]
  show some _ = some (vp_cell (θ.2.2.2.2.1 .boolean) (n, .inl (zI (sI σ a i.toNatClampNeg (vp_nar .boolean x)) a)))
  rw [vp_cell_i, vp_cell_i, arrV_store]
  congr 2
  funext q
  rw [kI_eq]
  by_cases hq : q = i.toNatClampNeg
  · subst hq
    simp [updV, vp_nar]
    try rfl
  · simp [updV, hq]
theorem kv_last {μ : kM} {d mc ms pc : Nat} {ls : List (Option Value)} {st : List Value} {σ : kS} {Q : Option Value → kS → Prop} {a n : Nat} {i : Int32} {x : Int64} (hd : decode μ.2.1 pc = .ok (.lastore, 1)) (ha : a < zN σ) (hs : kSh a = .inl (.long, n)) (hi : vp_in i n) (h : kV μ d mc ms (pc + 1) ls st (sL σ a i.toNatClampNeg x) Q) : kV μ d mc ms pc ls (.long x :: .int i :: .ref a :: st) σ Q := by
  intro θ p l e R s m args below meth c FQ H locs cells slots lr hC hH hl hr hF
  have he : (kW θ σ)[a]? = some (θ.1 + a, .inl (θ.2.2.2.2.1 .long, n, .inr (.inl (zL σ a)))) := by rw [kW_at ha, kE_arr hs]; rfl
  refine W.last hC.1 hC.2.1 (hH.1 a _ he) ((hC.2.2.2.2.2.1.1.2 3 _ rfl).1 n (fun j => .long (zL σ a j))) (fun q => by cases q) (by show ¬ (i < 0 ∨ (arrV _ _ _).slots.size ≤ _); rw [arrV_size]; exact hi) rfl rfl hd fun H1 ee z oq => ?_
  refine h θ p l e R s m args below meth c FQ H1 _ cells slots lr hC (kH_upd hH ha rfl kE_sL ?_ z oq) hl hr hF
  rw [kE_arr hs]
  show H1[θ.1 + a]? = some (vp_cell _ _)
  rw [ee]
  show some _ = some (vp_cell (θ.2.2.2.2.1 .long) (n, .inr (.inl (zL (sL σ a i.toNatClampNeg x) a))))
  rw [vp_cell_l, vp_cell_l, arrV_store]
  congr 2
  funext q
  rw [kL_eq]
  by_cases hq : q = i.toNatClampNeg
  · subst hq
    simp [updV]
  · simp [updV, hq]
theorem kv_aast {μ : kM} {d mc ms pc : Nat} {ls : List (Option Value)} {st : List Value} {σ : kS} {Q : Option Value → kS → Prop} {a n b : Nat} {i : Int32} (hd : decode μ.2.1 pc = .ok (.aastore, 1)) (ha : a < zN σ) (hs : kSh a = .inl (.object RX1, n)) (hb : b < zN σ) (hsb : kSh b = .inr 1) (hi : vp_in i n) (h : kV μ d mc ms (pc + 1) ls st (sR σ a i.toNatClampNeg (some b)) Q) : kV μ d mc ms pc ls (.ref b :: .int i :: .ref a :: st) σ Q := by
  intro θ p l e R s m args below meth c FQ H locs cells slots lr hC hH hl hr hF
  have he : (kW θ σ)[a]? = some (θ.1 + a, .inl (θ.2.2.2.2.1 (.object RX1), n, .inr (.inr (.inr (.inr (fun j => (zR σ a j).map (θ.1 + ·))))))) := by rw [kW_at ha, kE_arr hs]; rfl
  have hev : (kW θ σ)[b]? = some (θ.1 + b, .inr (1, kF θ σ 1 b)) := by rw [kW_at hb, kE_obj hsb]
  have hK := hC.2.2.2.2.2.1.1
  have hlt : i.toNatClampNeg < n := Nat.not_le.mp fun q => hi (Or.inr q)
  have h0 : ¬ i < 0 := fun q => hi (Or.inl q)
  obtain ⟨r', hr', cellV, g1, g2, g3, -⟩ := hH.1 b _ hev
  have hcls := (hK.1 1 _ (kcl_at 1 (by decide))).2
  obtain ⟨kA2, comp, k1, k2, k3, -⟩ := (hK.2 4 _ rfl).2
  have hcomp : comp = θ.2.2.2.2.2.1 1 := Option.some.inj (k3.symm.trans hcls.1)
  subst hcomp
  obtain ⟨kC, hkC, -⟩ := hcls.2
  refine W.aast hC.1 hC.2.1 (hH.1 a _ he) (fun q h => by cases h) (fun h => by cases h) k1 k2 rfl hkC ⟨h0, by show _ < (arrV _ _ _).slots.size; rw [arrV_size]; exact hlt⟩ g1 (fun q h => by rw [g3] at h; cases h) (by rw [g2]; exact hkC) (by rw [g2]; exact va_assign hcls) rfl rfl hd fun H1 ee z oq => ?_
  refine h θ p l e R s m args below meth c FQ H1 _ cells slots lr hC (kH_upd hH ha rfl kE_sR ?_ z oq) hl hr hF
  rw [kE_arr hs]
  show H1[θ.1 + a]? = some (vp_cell _ _)
  rw [ee]
  show some _ = some (vp_cell (θ.2.2.2.2.1 (.object RX1)) (n, .inr (.inr (.inr (.inr (fun j => (zR (sR σ a i.toNatClampNeg (some b)) a j).map (θ.1 + ·)))))))
  rw [vp_cell_q, vp_cell_q, arrV_store]
  congr 2
  funext q
  rw [kR_eq]
  by_cases hq : q = i.toNatClampNeg
  · subst hq
    simp [updV, va_rf, kr]
  · simp [updV, hq]
end
section
/-! THE MINI MACHINE: rows that make cells, calls by their number of arguments, Math, the script, the text; generated by wip/gen/part07.py -/
theorem kH_new {θ : kT} {σ : kS} {s : State} {H H' : Heap} {locs : List Loc} (hH : kH θ σ s H locs) (hat : va_at θ.2.2.2.2.2 kl_cl (θ.1 + zN σ, kE θ (sW σ) (zN σ)) H') (e2 : H'.size = H.size + 1) (e3 : ∀ q, q < H.size → H'[q]? = H[q]?) : kH θ (sW σ) s H' locs := by
  refine ⟨?_, ⟨Nat.le_trans hH.2.1.1 (by omega), fun q h1 h2 => (e3 q (Nat.lt_of_lt_of_le h1 hH.2.1.1)).trans (hH.2.1.2.1 q h1 h2), hH.2.1.2.2⟩, ?_⟩
  · rw [kW_new kE_sW]
    refine va_P.app (hH.1.kept (fun k q hq => e3 q.1 ((hH.1 k q hq).lt))) (fun k q hq => ?_)
    have hz : k < 1 := (List.getElem?_eq_some_iff.mp hq).1
    rw [show k = 0 by omega] at hq
    cases hq
    exact hat
  · have h3 := hH.2.2
    show H'.size = θ.1 + (zN σ + 1)
    omega
def kok (ty : FieldType) : Bool := match ty with
  | .float => false
  | .double => false
  | _ => true
theorem kok_0 : ∀ j, j < kNn 0 → kok (ktY 0 j) = true := by decide +kernel
theorem kok_1 : ∀ j, j < kNn 1 → kok (ktY 1 j) = true := by decide +kernel
theorem kok_2 : ∀ j, j < kNn 2 → kok (ktY 2 j) = true := by decide +kernel
theorem kok_3 : ∀ j, j < kNn 3 → kok (ktY 3 j) = true := by decide +kernel
theorem kok_4 : ∀ j, j < kNn 4 → kok (ktY 4 j) = true := by decide +kernel
theorem kok_5 : ∀ j, j < kNn 5 → kok (ktY 5 j) = true := by decide +kernel
theorem kok_6 : ∀ j, j < kNn 6 → kok (ktY 6 j) = true := by decide +kernel
theorem kok_7 : ∀ j, j < kNn 7 → kok (ktY 7 j) = true := by decide +kernel
theorem kcl_ok : ∀ ci, ci < 8 → ∀ j, j < kNn ci → kok (ktY ci j) = true := by
  intro ci h
  rcases (show ci = 0 ∨ ci = 1 ∨ ci = 2 ∨ ci = 3 ∨ ci = 4 ∨ ci = 5 ∨ ci = 6 ∨ ci = 7 by omega) with rfl | rfl | rfl | rfl | rfl | rfl | rfl | rfl
  · exact kok_0
  · exact kok_1
  · exact kok_2
  · exact kok_3
  · exact kok_4
  · exact kok_5
  · exact kok_6
  · exact kok_7
theorem kz_I {σ : kS} {j : Nat} : zI (sW σ) (zN σ) j = 0 := by simp [zI, zN, sW, u1]
theorem kz_L {σ : kS} {j : Nat} : zL (sW σ) (zN σ) j = 0 := by simp [zL, zN, sW, u1]
theorem kz_R {σ : kS} {j : Nat} : zR (sW σ) (zN σ) j = none := by simp [zR, zN, sW, u1]
theorem kdef {θ : kT} {σ : kS} {ty : FieldType} {j : Nat} (h : kok ty = true) : defaultValue ty = kr θ (kv (sW σ) (kd ty) (zN σ) j) := by
  cases ty with
  | float => cases h
  | double => cases h
  | _ => simp only [kd, kv, kz_I, kz_L, kz_R]; try rfl
theorem kv_new {μ : kM} {d mc ms pc : Nat} {ls : List (Option Value)} {st : List Value} {σ : kS} {Q : Option Value → kS → Prop} {ci idx : Nat} (hd : decode μ.2.1 pc = .ok (.new idx, 3)) (hci : ci < 8) (hk : Cond.classLink μ.1 idx (kCn ci) ∈ kl_ws) (hx : Cond.instantiable (kCn ci) (kNn ci) ∈ kl_ws) (hi : Cond.initialized (kCn ci) ∈ kl_ws) (hs : kSh (zN σ) = .inr ci) (hm : 1 ≤ mc) (hms : kNn ci ≤ ms) (h : kV μ d (mc - 1) (ms - kNn ci) (pc + 3) ls (.ref (zN σ) :: st) (sW σ) Q) : kV μ d mc ms pc ls st σ Q := by
  intro θ p l e R s m args below meth c FQ H locs cells slots lr hC hH hl hr hF
  have hts := hC.2.2.2.2.1
  have hK := hC.2.2.2.2.2.1.1
  have hc := kcl_at ci hci
  have hKn := hK.1 ci _ hc
  refine W.newcK hC.1 hC.2.1 hC.2.2.2.1 (hts _ hk) (hts _ hx) (hts _ hi) rfl hd (by omega) (by omega) hKn.2.1 hH.2.2 fun H1 kC hkC e1 z1 o1 => ?_
  have c1 : cells + 1 + (mc - 1) = cells + mc := by omega
  have c2 : slots + kNn ci + (ms - kNn ci) = slots + ms := by omega
  refine h θ p l e R s m args below meth c FQ H1 locs (cells + 1) (slots + kNn ci) lr hC (kH_new hH ?_ (by rw [hH.2.2]; exact z1) (by rw [hH.2.2]; exact o1)) hl ⟨by rw [c1]; exact hr.1, by rw [c2]; exact hr.2⟩ (by rw [c1, c2]; exact hF)
  rw [kE_obj hs]
  refine ⟨_, hc, (u_born (ktY ci) hts (kcl_ws ci hci) hKn hkC e1 (kcl_ty ci hci)).to (fun j hj => ?_)⟩
  show defaultValue (ktY ci j) = (kF θ (sW σ) ci (zN σ)).getD j .null
  rw [List.getD_eq_getElem?_getD, kF_get hj]
  exact kdef (kcl_ok ci hci j hj)
theorem kv_newa_int {μ : kM} {d mc ms pc : Nat} {ls : List (Option Value)} {st : List Value} {σ : kS} {Q : Option Value → kS → Prop} {n : Nat} {x : Int32} (hd : decode μ.2.1 pc = .ok (.newarray .int, 2)) (hs : kSh (zN σ) = .inl (.int, n)) (hx : ¬ x < 0) (hn : x.toNatClampNeg = n) (hbt : n * 8 ≤ 536870912) (hm : 1 ≤ mc) (hms : n ≤ ms) (h : kV μ d (mc - 1) (ms - n) (pc + 2) ls (.ref (zN σ) :: st) (sW σ) Q) : kV μ d mc ms pc ls (.int x :: st) σ Q := by
  intro θ p l e R s m args below meth c FQ H locs cells slots lr hC hH hl hr hF
  have hts := hC.2.2.2.2.1
  have hK := hC.2.2.2.2.2.1.1
  have c1 : cells + 1 + (mc - 1) = cells + mc := by omega
  have c2 : slots + n + (ms - n) = slots + ms := by omega
  refine va_newaK (atype := .int) hC.1 hC.2.1 (hts _ kr_int) rfl hd rfl hx hn (by show n * 4 ≤ _; omega) (by omega) (by omega) hH.2.2 fun H1 cA e1 z1 o1 hAr hNm => ?_
  have hcA : cA = θ.2.2.2.2.1 .int := Option.some.inj (hNm.symm.trans (hK.2 0 _ rfl).2)
  subst hcA
  refine h θ p l e R s m args below meth c FQ H1 locs (cells + 1) (slots + n) lr hC (kH_new hH ?_ (by rw [hH.2.2]; exact z1) (by rw [hH.2.2]; exact o1)) hl ⟨by rw [c1]; exact hr.1, by rw [c2]; exact hr.2⟩ (by rw [c1, c2]; exact hF)
  rw [kE_arr hs]
  refine e1.trans ?_
  show some (arrV _ n _) = some (arrV _ n (fun j => Value.int (zI (sW σ) (zN σ) j)))
  simp only [kz_I]
  try rfl
theorem kv_newa_byte {μ : kM} {d mc ms pc : Nat} {ls : List (Option Value)} {st : List Value} {σ : kS} {Q : Option Value → kS → Prop} {n : Nat} {x : Int32} (hd : decode μ.2.1 pc = .ok (.newarray .byte, 2)) (hs : kSh (zN σ) = .inl (.byte, n)) (hx : ¬ x < 0) (hn : x.toNatClampNeg = n) (hbt : n * 8 ≤ 536870912) (hm : 1 ≤ mc) (hms : n ≤ ms) (h : kV μ d (mc - 1) (ms - n) (pc + 2) ls (.ref (zN σ) :: st) (sW σ) Q) : kV μ d mc ms pc ls (.int x :: st) σ Q := by
  intro θ p l e R s m args below meth c FQ H locs cells slots lr hC hH hl hr hF
  have hts := hC.2.2.2.2.1
  have hK := hC.2.2.2.2.2.1.1
  have c1 : cells + 1 + (mc - 1) = cells + mc := by omega
  have c2 : slots + n + (ms - n) = slots + ms := by omega
  refine va_newaK (atype := .byte) hC.1 hC.2.1 (hts _ kr_byte) rfl hd rfl hx hn (by show n * 1 ≤ _; omega) (by omega) (by omega) hH.2.2 fun H1 cA e1 z1 o1 hAr hNm => ?_
  have hcA : cA = θ.2.2.2.2.1 .byte := Option.some.inj (hNm.symm.trans (hK.2 1 _ rfl).2)
  subst hcA
  refine h θ p l e R s m args below meth c FQ H1 locs (cells + 1) (slots + n) lr hC (kH_new hH ?_ (by rw [hH.2.2]; exact z1) (by rw [hH.2.2]; exact o1)) hl ⟨by rw [c1]; exact hr.1, by rw [c2]; exact hr.2⟩ (by rw [c1, c2]; exact hF)
  rw [kE_arr hs]
  refine e1.trans ?_
  show some (arrV _ n _) = some (arrV _ n (fun j => Value.int (zI (sW σ) (zN σ) j)))
  simp only [kz_I]
  try rfl
theorem kv_newa_boolean {μ : kM} {d mc ms pc : Nat} {ls : List (Option Value)} {st : List Value} {σ : kS} {Q : Option Value → kS → Prop} {n : Nat} {x : Int32} (hd : decode μ.2.1 pc = .ok (.newarray .boolean, 2)) (hs : kSh (zN σ) = .inl (.boolean, n)) (hx : ¬ x < 0) (hn : x.toNatClampNeg = n) (hbt : n * 8 ≤ 536870912) (hm : 1 ≤ mc) (hms : n ≤ ms) (h : kV μ d (mc - 1) (ms - n) (pc + 2) ls (.ref (zN σ) :: st) (sW σ) Q) : kV μ d mc ms pc ls (.int x :: st) σ Q := by
  intro θ p l e R s m args below meth c FQ H locs cells slots lr hC hH hl hr hF
  have hts := hC.2.2.2.2.1
  have hK := hC.2.2.2.2.2.1.1
  have c1 : cells + 1 + (mc - 1) = cells + mc := by omega
  have c2 : slots + n + (ms - n) = slots + ms := by omega
  refine va_newaK (atype := .boolean) hC.1 hC.2.1 (hts _ kr_boolean) rfl hd rfl hx hn (by show n * 1 ≤ _; omega) (by omega) (by omega) hH.2.2 fun H1 cA e1 z1 o1 hAr hNm => ?_
  have hcA : cA = θ.2.2.2.2.1 .boolean := Option.some.inj (hNm.symm.trans (hK.2 2 _ rfl).2)
  subst hcA
  refine h θ p l e R s m args below meth c FQ H1 locs (cells + 1) (slots + n) lr hC (kH_new hH ?_ (by rw [hH.2.2]; exact z1) (by rw [hH.2.2]; exact o1)) hl ⟨by rw [c1]; exact hr.1, by rw [c2]; exact hr.2⟩ (by rw [c1, c2]; exact hF)
  rw [kE_arr hs]
  refine e1.trans ?_
  show some (arrV _ n _) = some (arrV _ n (fun j => Value.int (zI (sW σ) (zN σ) j)))
  simp only [kz_I]
  try rfl
theorem kv_newa_long {μ : kM} {d mc ms pc : Nat} {ls : List (Option Value)} {st : List Value} {σ : kS} {Q : Option Value → kS → Prop} {n : Nat} {x : Int32} (hd : decode μ.2.1 pc = .ok (.newarray .long, 2)) (hs : kSh (zN σ) = .inl (.long, n)) (hx : ¬ x < 0) (hn : x.toNatClampNeg = n) (hbt : n * 8 ≤ 536870912) (hm : 1 ≤ mc) (hms : n ≤ ms) (h : kV μ d (mc - 1) (ms - n) (pc + 2) ls (.ref (zN σ) :: st) (sW σ) Q) : kV μ d mc ms pc ls (.int x :: st) σ Q := by
  intro θ p l e R s m args below meth c FQ H locs cells slots lr hC hH hl hr hF
  have hts := hC.2.2.2.2.1
  have hK := hC.2.2.2.2.2.1.1
  have c1 : cells + 1 + (mc - 1) = cells + mc := by omega
  have c2 : slots + n + (ms - n) = slots + ms := by omega
  refine va_newaK (atype := .long) hC.1 hC.2.1 (hts _ kr_long) rfl hd rfl hx hn (by show n * 8 ≤ _; omega) (by omega) (by omega) hH.2.2 fun H1 cA e1 z1 o1 hAr hNm => ?_
  have hcA : cA = θ.2.2.2.2.1 .long := Option.some.inj (hNm.symm.trans (hK.2 3 _ rfl).2)
  subst hcA
  refine h θ p l e R s m args below meth c FQ H1 locs (cells + 1) (slots + n) lr hC (kH_new hH ?_ (by rw [hH.2.2]; exact z1) (by rw [hH.2.2]; exact o1)) hl ⟨by rw [c1]; exact hr.1, by rw [c2]; exact hr.2⟩ (by rw [c1, c2]; exact hF)
  rw [kE_arr hs]
  refine e1.trans ?_
  show some (arrV _ n _) = some (arrV _ n (fun j => Value.long (zL (sW σ) (zN σ) j)))
  simp only [kz_L]
  try rfl
theorem kv_newq {μ : kM} {d mc ms pc : Nat} {ls : List (Option Value)} {st : List Value} {σ : kS} {Q : Option Value → kS → Prop} {n idx : Nat} {x : Int32} (hd : decode μ.2.1 pc = .ok (.anewarray idx, 3)) (hk : Cond.classLink μ.1 idx RX1 ∈ kl_ws) (hs : kSh (zN σ) = .inl (.object RX1, n)) (hx : ¬ x < 0) (hn : x.toNatClampNeg = n) (hbt : n * 8 ≤ 536870912) (hm : 1 ≤ mc) (hms : n ≤ ms) (h : kV μ d (mc - 1) (ms - n) (pc + 3) ls (.ref (zN σ) :: st) (sW σ) Q) : kV μ d mc ms pc ls (.int x :: st) σ Q := by
  intro θ p l e R s m args below meth c FQ H locs cells slots lr hC hH hl hr hF
  have hts := hC.2.2.2.2.1
  have hK := hC.2.2.2.2.2.1.1
  subst hn
  have c1 : cells + 1 + (mc - 1) = cells + mc := by omega
  have c2 : slots + x.toNatClampNeg + (ms - x.toNatClampNeg) = slots + ms := by omega
  refine W.anew hC.1 hC.2.1 hC.2.2.2.1 (hts _ hk) (va_AO.use hC.2.2.2.2.2.1.2.2) rfl hd rfl hx (by omega) (by omega) (by omega) fun cA kA2 comp f1 f2 f3 f4 => ?_
  obtain ⟨kA3, comp3, -, -, -, f5⟩ := (hK.2 4 _ rfl).2
  have hcA : cA = θ.2.2.2.2.1 (.object RX1) := Option.some.inj (f1.symm.trans f5)
  subst hcA
  rw [show H.size = θ.1 + zN σ from hH.2.2]
  refine h θ p l e R s m args below meth c FQ _ locs (cells + 1) (slots + x.toNatClampNeg) lr hC (kH_new hH ?_ (by rw [Array.size_push]) (fun q hq => by rw [Array.getElem?_push, if_neg (Nat.ne_of_lt hq)])) hl ⟨by rw [c1]; exact hr.1, by rw [c2]; exact hr.2⟩ (by rw [c1, c2]; exact hF)
  rw [kE_arr hs]
  show (H.push _)[θ.1 + zN σ]? = _
  rw [← hH.2.2, Array.getElem?_push_size, arrV_new]
  show some (arrV _ _ _) = some (arrV _ _ (fun j => va_rf ((zR (sW σ) (zN σ) j).map (θ.1 + ·))))
  simp only [kz_R]
  try rfl
theorem kv_cV0 {μ : kM} {d mc ms pc : Nat} {ls : List (Option Value)} {st : List Value} {σ : kS} {Q : Option Value → kS → Prop} {μ1 : kM} {y : MethodName} {idx a ci : Nat}  (hd : decode μ.2.1 pc = .ok (.invokevirtual idx, 3)) (hk : kMl μ.1 idx y) (hy : kYv y μ1 0) (ha : a < zN σ) (hs : kSh a = .inr ci) (hci : ci < 8) (hcn : kCn ci = y.cls) (hr8 : (st.map Value.category).sum ≤ 8) (hc : kCt y μ1 d 0 0 (.ref a :: []) σ (fun r σ' => kV μ (d + 1) mc ms (pc + 3) ls (r.toList ++ st) σ' Q)) : kV μ (d + 1) mc ms pc ls (.ref a :: st) σ Q := kv_callV' (As := []) (mc1 := 0) (ms1 := 0) hd hk hy ha hs hci hcn hr8 ⟨Nat.zero_le _, Nat.zero_le _⟩ hc
theorem kv_cVm0 {μ : kM} {d mc ms pc : Nat} {ls : List (Option Value)} {st : List Value} {σ : kS} {Q : Option Value → kS → Prop} {μ1 : kM} {y : MethodName} {idx a ci : Nat} (mc1 ms1 : Nat)  (hd : decode μ.2.1 pc = .ok (.invokevirtual idx, 3)) (hk : kMl μ.1 idx y) (hy : kYv y μ1 0) (ha : a < zN σ) (hs : kSh a = .inr ci) (hci : ci < 8) (hcn : kCn ci = y.cls) (hr8 : (st.map Value.category).sum ≤ 8) (hm : mc1 ≤ mc ∧ ms1 ≤ ms) (hc : kCt y μ1 d mc1 ms1 (.ref a :: []) σ (fun r σ' => kV μ (d + 1) (mc - mc1) (ms - ms1) (pc + 3) ls (r.toList ++ st) σ' Q)) : kV μ (d + 1) mc ms pc ls (.ref a :: st) σ Q := kv_callV' (As := []) hd hk hy ha hs hci hcn hr8 hm hc
theorem kv_cS0 {μ : kM} {d mc ms pc : Nat} {ls : List (Option Value)} {st : List Value} {σ : kS} {Q : Option Value → kS → Prop} {μ1 : kM} {y : MethodName} {idx : Nat}  (hd : decode μ.2.1 pc = .ok (.invokestatic idx, 3)) (hk : kMl μ.1 idx y) (hy : kYs y μ1 0) (hr8 : (st.map Value.category).sum ≤ 8) (hc : kCt y μ1 d 0 0 [] σ (fun r σ' => kV μ (d + 1) mc ms (pc + 3) ls (r.toList ++ st) σ' Q)) : kV μ (d + 1) mc ms pc ls (st) σ Q := kv_callS' (As := []) (mc1 := 0) (ms1 := 0) hd hk hy hr8 ⟨Nat.zero_le _, Nat.zero_le _⟩ hc
theorem kv_cI0 {μ : kM} {d mc ms pc : Nat} {ls : List (Option Value)} {st : List Value} {σ : kS} {Q : Option Value → kS → Prop} {μ1 : kM} {y : MethodName} {idx a : Nat} (mc1 ms1 : Nat)  (hd : decode μ.2.1 pc = .ok (.invokespecial idx, 3)) (hk : kMl μ.1 idx y) (hy : kYi y μ1 0) (hrt : μ1.2.2.2.1 = none) (hr8 : (st.map Value.category).sum ≤ 8) (hm : mc1 ≤ mc ∧ ms1 ≤ ms) (hc : kCt y μ1 d mc1 ms1 (.ref a :: []) σ (fun r σ' => kV μ (d + 1) (mc - mc1) (ms - ms1) (pc + 3) ls (r.toList ++ st) σ' Q)) : kV μ (d + 1) mc ms pc ls (.ref a :: st) σ Q := kv_callI' (As := []) hd hk hy hrt hr8 hm hc
theorem kv_cV1 {μ : kM} {d mc ms pc : Nat} {ls : List (Option Value)} {st : List Value} {σ : kS} {Q : Option Value → kS → Prop} {μ1 : kM} {y : MethodName} {idx a ci : Nat} {x1 : Value} (hd : decode μ.2.1 pc = .ok (.invokevirtual idx, 3)) (hk : kMl μ.1 idx y) (hy : kYv y μ1 1) (ha : a < zN σ) (hs : kSh a = .inr ci) (hci : ci < 8) (hcn : kCn ci = y.cls) (hr8 : (st.map Value.category).sum ≤ 8) (hc : kCt y μ1 d 0 0 (.ref a :: [x1]) σ (fun r σ' => kV μ (d + 1) mc ms (pc + 3) ls (r.toList ++ st) σ' Q)) : kV μ (d + 1) mc ms pc ls (x1 :: .ref a :: st) σ Q := kv_callV' (As := [x1]) (mc1 := 0) (ms1 := 0) hd hk hy ha hs hci hcn hr8 ⟨Nat.zero_le _, Nat.zero_le _⟩ hc
theorem kv_cVm1 {μ : kM} {d mc ms pc : Nat} {ls : List (Option Value)} {st : List Value} {σ : kS} {Q : Option Value → kS → Prop} {μ1 : kM} {y : MethodName} {idx a ci : Nat} (mc1 ms1 : Nat) {x1 : Value} (hd : decode μ.2.1 pc = .ok (.invokevirtual idx, 3)) (hk : kMl μ.1 idx y) (hy : kYv y μ1 1) (ha : a < zN σ) (hs : kSh a = .inr ci) (hci : ci < 8) (hcn : kCn ci = y.cls) (hr8 : (st.map Value.category).sum ≤ 8) (hm : mc1 ≤ mc ∧ ms1 ≤ ms) (hc : kCt y μ1 d mc1 ms1 (.ref a :: [x1]) σ (fun r σ' => kV μ (d + 1) (mc - mc1) (ms - ms1) (pc + 3) ls (r.toList ++ st) σ' Q)) : kV μ (d + 1) mc ms pc ls (x1 :: .ref a :: st) σ Q := kv_callV' (As := [x1]) hd hk hy ha hs hci hcn hr8 hm hc
theorem kv_cS1 {μ : kM} {d mc ms pc : Nat} {ls : List (Option Value)} {st : List Value} {σ : kS} {Q : Option Value → kS → Prop} {μ1 : kM} {y : MethodName} {idx : Nat} {x1 : Value} (hd : decode μ.2.1 pc = .ok (.invokestatic idx, 3)) (hk : kMl μ.1 idx y) (hy : kYs y μ1 1) (hr8 : (st.map Value.category).sum ≤ 8) (hc : kCt y μ1 d 0 0 [x1] σ (fun r σ' => kV μ (d + 1) mc ms (pc + 3) ls (r.toList ++ st) σ' Q)) : kV μ (d + 1) mc ms pc ls (x1 :: st) σ Q := kv_callS' (As := [x1]) (mc1 := 0) (ms1 := 0) hd hk hy hr8 ⟨Nat.zero_le _, Nat.zero_le _⟩ hc
theorem kv_cI1 {μ : kM} {d mc ms pc : Nat} {ls : List (Option Value)} {st : List Value} {σ : kS} {Q : Option Value → kS → Prop} {μ1 : kM} {y : MethodName} {idx a : Nat} (mc1 ms1 : Nat) {x1 : Value} (hd : decode μ.2.1 pc = .ok (.invokespecial idx, 3)) (hk : kMl μ.1 idx y) (hy : kYi y μ1 1) (hrt : μ1.2.2.2.1 = none) (hr8 : (st.map Value.category).sum ≤ 8) (hm : mc1 ≤ mc ∧ ms1 ≤ ms) (hc : kCt y μ1 d mc1 ms1 (.ref a :: [x1]) σ (fun r σ' => kV μ (d + 1) (mc - mc1) (ms - ms1) (pc + 3) ls (r.toList ++ st) σ' Q)) : kV μ (d + 1) mc ms pc ls (x1 :: .ref a :: st) σ Q := kv_callI' (As := [x1]) hd hk hy hrt hr8 hm hc
theorem kv_cV2 {μ : kM} {d mc ms pc : Nat} {ls : List (Option Value)} {st : List Value} {σ : kS} {Q : Option Value → kS → Prop} {μ1 : kM} {y : MethodName} {idx a ci : Nat} {x1 x2 : Value} (hd : decode μ.2.1 pc = .ok (.invokevirtual idx, 3)) (hk : kMl μ.1 idx y) (hy : kYv y μ1 2) (ha : a < zN σ) (hs : kSh a = .inr ci) (hci : ci < 8) (hcn : kCn ci = y.cls) (hr8 : (st.map Value.category).sum ≤ 8) (hc : kCt y μ1 d 0 0 (.ref a :: [x1, x2]) σ (fun r σ' => kV μ (d + 1) mc ms (pc + 3) ls (r.toList ++ st) σ' Q)) : kV μ (d + 1) mc ms pc ls (x2 :: x1 :: .ref a :: st) σ Q := kv_callV' (As := [x1, x2]) (mc1 := 0) (ms1 := 0) hd hk hy ha hs hci hcn hr8 ⟨Nat.zero_le _, Nat.zero_le _⟩ hc
theorem kv_cVm2 {μ : kM} {d mc ms pc : Nat} {ls : List (Option Value)} {st : List Value} {σ : kS} {Q : Option Value → kS → Prop} {μ1 : kM} {y : MethodName} {idx a ci : Nat} (mc1 ms1 : Nat) {x1 x2 : Value} (hd : decode μ.2.1 pc = .ok (.invokevirtual idx, 3)) (hk : kMl μ.1 idx y) (hy : kYv y μ1 2) (ha : a < zN σ) (hs : kSh a = .inr ci) (hci : ci < 8) (hcn : kCn ci = y.cls) (hr8 : (st.map Value.category).sum ≤ 8) (hm : mc1 ≤ mc ∧ ms1 ≤ ms) (hc : kCt y μ1 d mc1 ms1 (.ref a :: [x1, x2]) σ (fun r σ' => kV μ (d + 1) (mc - mc1) (ms - ms1) (pc + 3) ls (r.toList ++ st) σ' Q)) : kV μ (d + 1) mc ms pc ls (x2 :: x1 :: .ref a :: st) σ Q := kv_callV' (As := [x1, x2]) hd hk hy ha hs hci hcn hr8 hm hc
theorem kv_cS2 {μ : kM} {d mc ms pc : Nat} {ls : List (Option Value)} {st : List Value} {σ : kS} {Q : Option Value → kS → Prop} {μ1 : kM} {y : MethodName} {idx : Nat} {x1 x2 : Value} (hd : decode μ.2.1 pc = .ok (.invokestatic idx, 3)) (hk : kMl μ.1 idx y) (hy : kYs y μ1 2) (hr8 : (st.map Value.category).sum ≤ 8) (hc : kCt y μ1 d 0 0 [x1, x2] σ (fun r σ' => kV μ (d + 1) mc ms (pc + 3) ls (r.toList ++ st) σ' Q)) : kV μ (d + 1) mc ms pc ls (x2 :: x1 :: st) σ Q := kv_callS' (As := [x1, x2]) (mc1 := 0) (ms1 := 0) hd hk hy hr8 ⟨Nat.zero_le _, Nat.zero_le _⟩ hc
theorem kv_cI2 {μ : kM} {d mc ms pc : Nat} {ls : List (Option Value)} {st : List Value} {σ : kS} {Q : Option Value → kS → Prop} {μ1 : kM} {y : MethodName} {idx a : Nat} (mc1 ms1 : Nat) {x1 x2 : Value} (hd : decode μ.2.1 pc = .ok (.invokespecial idx, 3)) (hk : kMl μ.1 idx y) (hy : kYi y μ1 2) (hrt : μ1.2.2.2.1 = none) (hr8 : (st.map Value.category).sum ≤ 8) (hm : mc1 ≤ mc ∧ ms1 ≤ ms) (hc : kCt y μ1 d mc1 ms1 (.ref a :: [x1, x2]) σ (fun r σ' => kV μ (d + 1) (mc - mc1) (ms - ms1) (pc + 3) ls (r.toList ++ st) σ' Q)) : kV μ (d + 1) mc ms pc ls (x2 :: x1 :: .ref a :: st) σ Q := kv_callI' (As := [x1, x2]) hd hk hy hrt hr8 hm hc
theorem kv_cV3 {μ : kM} {d mc ms pc : Nat} {ls : List (Option Value)} {st : List Value} {σ : kS} {Q : Option Value → kS → Prop} {μ1 : kM} {y : MethodName} {idx a ci : Nat} {x1 x2 x3 : Value} (hd : decode μ.2.1 pc = .ok (.invokevirtual idx, 3)) (hk : kMl μ.1 idx y) (hy : kYv y μ1 3) (ha : a < zN σ) (hs : kSh a = .inr ci) (hci : ci < 8) (hcn : kCn ci = y.cls) (hr8 : (st.map Value.category).sum ≤ 8) (hc : kCt y μ1 d 0 0 (.ref a :: [x1, x2, x3]) σ (fun r σ' => kV μ (d + 1) mc ms (pc + 3) ls (r.toList ++ st) σ' Q)) : kV μ (d + 1) mc ms pc ls (x3 :: x2 :: x1 :: .ref a :: st) σ Q := kv_callV' (As := [x1, x2, x3]) (mc1 := 0) (ms1 := 0) hd hk hy ha hs hci hcn hr8 ⟨Nat.zero_le _, Nat.zero_le _⟩ hc
theorem kv_cVm3 {μ : kM} {d mc ms pc : Nat} {ls : List (Option Value)} {st : List Value} {σ : kS} {Q : Option Value → kS → Prop} {μ1 : kM} {y : MethodName} {idx a ci : Nat} (mc1 ms1 : Nat) {x1 x2 x3 : Value} (hd : decode μ.2.1 pc = .ok (.invokevirtual idx, 3)) (hk : kMl μ.1 idx y) (hy : kYv y μ1 3) (ha : a < zN σ) (hs : kSh a = .inr ci) (hci : ci < 8) (hcn : kCn ci = y.cls) (hr8 : (st.map Value.category).sum ≤ 8) (hm : mc1 ≤ mc ∧ ms1 ≤ ms) (hc : kCt y μ1 d mc1 ms1 (.ref a :: [x1, x2, x3]) σ (fun r σ' => kV μ (d + 1) (mc - mc1) (ms - ms1) (pc + 3) ls (r.toList ++ st) σ' Q)) : kV μ (d + 1) mc ms pc ls (x3 :: x2 :: x1 :: .ref a :: st) σ Q := kv_callV' (As := [x1, x2, x3]) hd hk hy ha hs hci hcn hr8 hm hc
theorem kv_cS3 {μ : kM} {d mc ms pc : Nat} {ls : List (Option Value)} {st : List Value} {σ : kS} {Q : Option Value → kS → Prop} {μ1 : kM} {y : MethodName} {idx : Nat} {x1 x2 x3 : Value} (hd : decode μ.2.1 pc = .ok (.invokestatic idx, 3)) (hk : kMl μ.1 idx y) (hy : kYs y μ1 3) (hr8 : (st.map Value.category).sum ≤ 8) (hc : kCt y μ1 d 0 0 [x1, x2, x3] σ (fun r σ' => kV μ (d + 1) mc ms (pc + 3) ls (r.toList ++ st) σ' Q)) : kV μ (d + 1) mc ms pc ls (x3 :: x2 :: x1 :: st) σ Q := kv_callS' (As := [x1, x2, x3]) (mc1 := 0) (ms1 := 0) hd hk hy hr8 ⟨Nat.zero_le _, Nat.zero_le _⟩ hc
theorem kv_cI3 {μ : kM} {d mc ms pc : Nat} {ls : List (Option Value)} {st : List Value} {σ : kS} {Q : Option Value → kS → Prop} {μ1 : kM} {y : MethodName} {idx a : Nat} (mc1 ms1 : Nat) {x1 x2 x3 : Value} (hd : decode μ.2.1 pc = .ok (.invokespecial idx, 3)) (hk : kMl μ.1 idx y) (hy : kYi y μ1 3) (hrt : μ1.2.2.2.1 = none) (hr8 : (st.map Value.category).sum ≤ 8) (hm : mc1 ≤ mc ∧ ms1 ≤ ms) (hc : kCt y μ1 d mc1 ms1 (.ref a :: [x1, x2, x3]) σ (fun r σ' => kV μ (d + 1) (mc - mc1) (ms - ms1) (pc + 3) ls (r.toList ++ st) σ' Q)) : kV μ (d + 1) mc ms pc ls (x3 :: x2 :: x1 :: .ref a :: st) σ Q := kv_callI' (As := [x1, x2, x3]) hd hk hy hrt hr8 hm hc
theorem kv_cV4 {μ : kM} {d mc ms pc : Nat} {ls : List (Option Value)} {st : List Value} {σ : kS} {Q : Option Value → kS → Prop} {μ1 : kM} {y : MethodName} {idx a ci : Nat} {x1 x2 x3 x4 : Value} (hd : decode μ.2.1 pc = .ok (.invokevirtual idx, 3)) (hk : kMl μ.1 idx y) (hy : kYv y μ1 4) (ha : a < zN σ) (hs : kSh a = .inr ci) (hci : ci < 8) (hcn : kCn ci = y.cls) (hr8 : (st.map Value.category).sum ≤ 8) (hc : kCt y μ1 d 0 0 (.ref a :: [x1, x2, x3, x4]) σ (fun r σ' => kV μ (d + 1) mc ms (pc + 3) ls (r.toList ++ st) σ' Q)) : kV μ (d + 1) mc ms pc ls (x4 :: x3 :: x2 :: x1 :: .ref a :: st) σ Q := kv_callV' (As := [x1, x2, x3, x4]) (mc1 := 0) (ms1 := 0) hd hk hy ha hs hci hcn hr8 ⟨Nat.zero_le _, Nat.zero_le _⟩ hc
theorem kv_cVm4 {μ : kM} {d mc ms pc : Nat} {ls : List (Option Value)} {st : List Value} {σ : kS} {Q : Option Value → kS → Prop} {μ1 : kM} {y : MethodName} {idx a ci : Nat} (mc1 ms1 : Nat) {x1 x2 x3 x4 : Value} (hd : decode μ.2.1 pc = .ok (.invokevirtual idx, 3)) (hk : kMl μ.1 idx y) (hy : kYv y μ1 4) (ha : a < zN σ) (hs : kSh a = .inr ci) (hci : ci < 8) (hcn : kCn ci = y.cls) (hr8 : (st.map Value.category).sum ≤ 8) (hm : mc1 ≤ mc ∧ ms1 ≤ ms) (hc : kCt y μ1 d mc1 ms1 (.ref a :: [x1, x2, x3, x4]) σ (fun r σ' => kV μ (d + 1) (mc - mc1) (ms - ms1) (pc + 3) ls (r.toList ++ st) σ' Q)) : kV μ (d + 1) mc ms pc ls (x4 :: x3 :: x2 :: x1 :: .ref a :: st) σ Q := kv_callV' (As := [x1, x2, x3, x4]) hd hk hy ha hs hci hcn hr8 hm hc
theorem kv_cS4 {μ : kM} {d mc ms pc : Nat} {ls : List (Option Value)} {st : List Value} {σ : kS} {Q : Option Value → kS → Prop} {μ1 : kM} {y : MethodName} {idx : Nat} {x1 x2 x3 x4 : Value} (hd : decode μ.2.1 pc = .ok (.invokestatic idx, 3)) (hk : kMl μ.1 idx y) (hy : kYs y μ1 4) (hr8 : (st.map Value.category).sum ≤ 8) (hc : kCt y μ1 d 0 0 [x1, x2, x3, x4] σ (fun r σ' => kV μ (d + 1) mc ms (pc + 3) ls (r.toList ++ st) σ' Q)) : kV μ (d + 1) mc ms pc ls (x4 :: x3 :: x2 :: x1 :: st) σ Q := kv_callS' (As := [x1, x2, x3, x4]) (mc1 := 0) (ms1 := 0) hd hk hy hr8 ⟨Nat.zero_le _, Nat.zero_le _⟩ hc
theorem kv_cI4 {μ : kM} {d mc ms pc : Nat} {ls : List (Option Value)} {st : List Value} {σ : kS} {Q : Option Value → kS → Prop} {μ1 : kM} {y : MethodName} {idx a : Nat} (mc1 ms1 : Nat) {x1 x2 x3 x4 : Value} (hd : decode μ.2.1 pc = .ok (.invokespecial idx, 3)) (hk : kMl μ.1 idx y) (hy : kYi y μ1 4) (hrt : μ1.2.2.2.1 = none) (hr8 : (st.map Value.category).sum ≤ 8) (hm : mc1 ≤ mc ∧ ms1 ≤ ms) (hc : kCt y μ1 d mc1 ms1 (.ref a :: [x1, x2, x3, x4]) σ (fun r σ' => kV μ (d + 1) (mc - mc1) (ms - ms1) (pc + 3) ls (r.toList ++ st) σ' Q)) : kV μ (d + 1) mc ms pc ls (x4 :: x3 :: x2 :: x1 :: .ref a :: st) σ Q := kv_callI' (As := [x1, x2, x3, x4]) hd hk hy hrt hr8 hm hc
theorem kv_cV5 {μ : kM} {d mc ms pc : Nat} {ls : List (Option Value)} {st : List Value} {σ : kS} {Q : Option Value → kS → Prop} {μ1 : kM} {y : MethodName} {idx a ci : Nat} {x1 x2 x3 x4 x5 : Value} (hd : decode μ.2.1 pc = .ok (.invokevirtual idx, 3)) (hk : kMl μ.1 idx y) (hy : kYv y μ1 5) (ha : a < zN σ) (hs : kSh a = .inr ci) (hci : ci < 8) (hcn : kCn ci = y.cls) (hr8 : (st.map Value.category).sum ≤ 8) (hc : kCt y μ1 d 0 0 (.ref a :: [x1, x2, x3, x4, x5]) σ (fun r σ' => kV μ (d + 1) mc ms (pc + 3) ls (r.toList ++ st) σ' Q)) : kV μ (d + 1) mc ms pc ls (x5 :: x4 :: x3 :: x2 :: x1 :: .ref a :: st) σ Q := kv_callV' (As := [x1, x2, x3, x4, x5]) (mc1 := 0) (ms1 := 0) hd hk hy ha hs hci hcn hr8 ⟨Nat.zero_le _, Nat.zero_le _⟩ hc
theorem kv_cVm5 {μ : kM} {d mc ms pc : Nat} {ls : List (Option Value)} {st : List Value} {σ : kS} {Q : Option Value → kS → Prop} {μ1 : kM} {y : MethodName} {idx a ci : Nat} (mc1 ms1 : Nat) {x1 x2 x3 x4 x5 : Value} (hd : decode μ.2.1 pc = .ok (.invokevirtual idx, 3)) (hk : kMl μ.1 idx y) (hy : kYv y μ1 5) (ha : a < zN σ) (hs : kSh a = .inr ci) (hci : ci < 8) (hcn : kCn ci = y.cls) (hr8 : (st.map Value.category).sum ≤ 8) (hm : mc1 ≤ mc ∧ ms1 ≤ ms) (hc : kCt y μ1 d mc1 ms1 (.ref a :: [x1, x2, x3, x4, x5]) σ (fun r σ' => kV μ (d + 1) (mc - mc1) (ms - ms1) (pc + 3) ls (r.toList ++ st) σ' Q)) : kV μ (d + 1) mc ms pc ls (x5 :: x4 :: x3 :: x2 :: x1 :: .ref a :: st) σ Q := kv_callV' (As := [x1, x2, x3, x4, x5]) hd hk hy ha hs hci hcn hr8 hm hc
theorem kv_cS5 {μ : kM} {d mc ms pc : Nat} {ls : List (Option Value)} {st : List Value} {σ : kS} {Q : Option Value → kS → Prop} {μ1 : kM} {y : MethodName} {idx : Nat} {x1 x2 x3 x4 x5 : Value} (hd : decode μ.2.1 pc = .ok (.invokestatic idx, 3)) (hk : kMl μ.1 idx y) (hy : kYs y μ1 5) (hr8 : (st.map Value.category).sum ≤ 8) (hc : kCt y μ1 d 0 0 [x1, x2, x3, x4, x5] σ (fun r σ' => kV μ (d + 1) mc ms (pc + 3) ls (r.toList ++ st) σ' Q)) : kV μ (d + 1) mc ms pc ls (x5 :: x4 :: x3 :: x2 :: x1 :: st) σ Q := kv_callS' (As := [x1, x2, x3, x4, x5]) (mc1 := 0) (ms1 := 0) hd hk hy hr8 ⟨Nat.zero_le _, Nat.zero_le _⟩ hc
theorem kv_cI5 {μ : kM} {d mc ms pc : Nat} {ls : List (Option Value)} {st : List Value} {σ : kS} {Q : Option Value → kS → Prop} {μ1 : kM} {y : MethodName} {idx a : Nat} (mc1 ms1 : Nat) {x1 x2 x3 x4 x5 : Value} (hd : decode μ.2.1 pc = .ok (.invokespecial idx, 3)) (hk : kMl μ.1 idx y) (hy : kYi y μ1 5) (hrt : μ1.2.2.2.1 = none) (hr8 : (st.map Value.category).sum ≤ 8) (hm : mc1 ≤ mc ∧ ms1 ≤ ms) (hc : kCt y μ1 d mc1 ms1 (.ref a :: [x1, x2, x3, x4, x5]) σ (fun r σ' => kV μ (d + 1) (mc - mc1) (ms - ms1) (pc + 3) ls (r.toList ++ st) σ' Q)) : kV μ (d + 1) mc ms pc ls (x5 :: x4 :: x3 :: x2 :: x1 :: .ref a :: st) σ Q := kv_callI' (As := [x1, x2, x3, x4, x5]) hd hk hy hrt hr8 hm hc
theorem kv_cV6 {μ : kM} {d mc ms pc : Nat} {ls : List (Option Value)} {st : List Value} {σ : kS} {Q : Option Value → kS → Prop} {μ1 : kM} {y : MethodName} {idx a ci : Nat} {x1 x2 x3 x4 x5 x6 : Value} (hd : decode μ.2.1 pc = .ok (.invokevirtual idx, 3)) (hk : kMl μ.1 idx y) (hy : kYv y μ1 6) (ha : a < zN σ) (hs : kSh a = .inr ci) (hci : ci < 8) (hcn : kCn ci = y.cls) (hr8 : (st.map Value.category).sum ≤ 8) (hc : kCt y μ1 d 0 0 (.ref a :: [x1, x2, x3, x4, x5, x6]) σ (fun r σ' => kV μ (d + 1) mc ms (pc + 3) ls (r.toList ++ st) σ' Q)) : kV μ (d + 1) mc ms pc ls (x6 :: x5 :: x4 :: x3 :: x2 :: x1 :: .ref a :: st) σ Q := kv_callV' (As := [x1, x2, x3, x4, x5, x6]) (mc1 := 0) (ms1 := 0) hd hk hy ha hs hci hcn hr8 ⟨Nat.zero_le _, Nat.zero_le _⟩ hc
theorem kv_cVm6 {μ : kM} {d mc ms pc : Nat} {ls : List (Option Value)} {st : List Value} {σ : kS} {Q : Option Value → kS → Prop} {μ1 : kM} {y : MethodName} {idx a ci : Nat} (mc1 ms1 : Nat) {x1 x2 x3 x4 x5 x6 : Value} (hd : decode μ.2.1 pc = .ok (.invokevirtual idx, 3)) (hk : kMl μ.1 idx y) (hy : kYv y μ1 6) (ha : a < zN σ) (hs : kSh a = .inr ci) (hci : ci < 8) (hcn : kCn ci = y.cls) (hr8 : (st.map Value.category).sum ≤ 8) (hm : mc1 ≤ mc ∧ ms1 ≤ ms) (hc : kCt y μ1 d mc1 ms1 (.ref a :: [x1, x2, x3, x4, x5, x6]) σ (fun r σ' => kV μ (d + 1) (mc - mc1) (ms - ms1) (pc + 3) ls (r.toList ++ st) σ' Q)) : kV μ (d + 1) mc ms pc ls (x6 :: x5 :: x4 :: x3 :: x2 :: x1 :: .ref a :: st) σ Q := kv_callV' (As := [x1, x2, x3, x4, x5, x6]) hd hk hy ha hs hci hcn hr8 hm hc
theorem kv_cS6 {μ : kM} {d mc ms pc : Nat} {ls : List (Option Value)} {st : List Value} {σ : kS} {Q : Option Value → kS → Prop} {μ1 : kM} {y : MethodName} {idx : Nat} {x1 x2 x3 x4 x5 x6 : Value} (hd : decode μ.2.1 pc = .ok (.invokestatic idx, 3)) (hk : kMl μ.1 idx y) (hy : kYs y μ1 6) (hr8 : (st.map Value.category).sum ≤ 8) (hc : kCt y μ1 d 0 0 [x1, x2, x3, x4, x5, x6] σ (fun r σ' => kV μ (d + 1) mc ms (pc + 3) ls (r.toList ++ st) σ' Q)) : kV μ (d + 1) mc ms pc ls (x6 :: x5 :: x4 :: x3 :: x2 :: x1 :: st) σ Q := kv_callS' (As := [x1, x2, x3, x4, x5, x6]) (mc1 := 0) (ms1 := 0) hd hk hy hr8 ⟨Nat.zero_le _, Nat.zero_le _⟩ hc
theorem kv_cI6 {μ : kM} {d mc ms pc : Nat} {ls : List (Option Value)} {st : List Value} {σ : kS} {Q : Option Value → kS → Prop} {μ1 : kM} {y : MethodName} {idx a : Nat} (mc1 ms1 : Nat) {x1 x2 x3 x4 x5 x6 : Value} (hd : decode μ.2.1 pc = .ok (.invokespecial idx, 3)) (hk : kMl μ.1 idx y) (hy : kYi y μ1 6) (hrt : μ1.2.2.2.1 = none) (hr8 : (st.map Value.category).sum ≤ 8) (hm : mc1 ≤ mc ∧ ms1 ≤ ms) (hc : kCt y μ1 d mc1 ms1 (.ref a :: [x1, x2, x3, x4, x5, x6]) σ (fun r σ' => kV μ (d + 1) (mc - mc1) (ms - ms1) (pc + 3) ls (r.toList ++ st) σ' Q)) : kV μ (d + 1) mc ms pc ls (x6 :: x5 :: x4 :: x3 :: x2 :: x1 :: .ref a :: st) σ Q := kv_callI' (As := [x1, x2, x3, x4, x5, x6]) hd hk hy hrt hr8 hm hc
theorem kv_s1 {μ : kM} {d mc ms pc : Nat} {ls : List (Option Value)} {st : List Value} {σ : kS} {Q : Option Value → kS → Prop} {v : Value} (h : kV μ d mc ms pc ls (v :: st) σ Q) : kV μ d mc ms pc ls ((some v).toList ++ st) σ Q := h
theorem kv_s0 {μ : kM} {d mc ms pc : Nat} {ls : List (Option Value)} {st : List Value} {σ : kS} {Q : Option Value → kS → Prop} (h : kV μ d mc ms pc ls st σ Q) : kV μ d mc ms pc ls ((none : Option Value).toList ++ st) σ Q := h
theorem kmt_max : Cond.static Lib.Math.max.name ∈ kl_ws ∧ Cond.initialized "java/lang/Math" ∈ kl_ws ∧ Cond.code Lib.Math.max.name Lib.Math.max.code 2 (some .int) ∈ kl_ws := ⟨kl_in 933 (by decide +kernel) (by decide +kernel), kl_in 85 (by decide +kernel) (by decide +kernel), kl_in 934 (by decide +kernel) (by decide +kernel)⟩
theorem kv_mmax {μ : kM} {d mc ms pc : Nat} {ls : List (Option Value)} {st : List Value} {σ : kS} {Q : Option Value → kS → Prop} {idx : Nat} {x y : Int32} (hd : decode μ.2.1 pc = .ok (.invokestatic idx, 3)) (hk : Cond.methodLink μ.1 idx Lib.Math.max.name ∈ kl_ws) (hr8 : (st.map Value.category).sum ≤ 8) (h : kV μ (d + 1) mc ms (pc + 3) ls (.int (if x < y then y else x) :: st) σ Q) : kV μ (d + 1) mc ms pc ls (.int y :: .int x :: st) σ Q := by
  intro θ p l e R s m args below meth c FQ H locs cells slots lr hC hH hl hr hF
  have hts := hC.2.2.2.2.1
  have hR := hC.2.2.2.2.2.2.2.2.1
  exact va_mmax hC.1 hC.2.1 (by rw [hC.2.2.1]; exact hl.1.1.symm) hC.2.2.2.1 (hts _ hk) (hts _ kmt_max.1) (hts _ kmt_max.2.1) (hts _ kmt_max.2.2) (by omega) (by rw [kcat]; omega) (by omega) (by omega) hd (h θ p l e R s m args below meth c FQ H locs cells slots lr hC hH hl hr hF)
theorem kl_X6_283 : Cond.methodLink RX6 283 Lib.Math.max.name ∈ kl_ws := kl_in 949 (by decide +kernel) (by decide +kernel)
theorem kl_X3_87 : Cond.methodLink RX3 87 Lib.Math.max.name ∈ kl_ws := kl_in 948 (by decide +kernel) (by decide +kernel)
theorem kl_X4_125 : Cond.methodLink RX4 125 Lib.Math.max.name ∈ kl_ws := kl_in 939 (by decide +kernel) (by decide +kernel)
theorem kl_X5_77 : Cond.methodLink RX5 77 Lib.Math.max.name ∈ kl_ws := kl_in 932 (by decide +kernel) (by decide +kernel)
theorem kmt_min : Cond.static Lib.Math.min.name ∈ kl_ws ∧ Cond.initialized "java/lang/Math" ∈ kl_ws ∧ Cond.code Lib.Math.min.name Lib.Math.min.code 2 (some .int) ∈ kl_ws := ⟨kl_in 829 (by decide +kernel) (by decide +kernel), kl_in 85 (by decide +kernel) (by decide +kernel), kl_in 830 (by decide +kernel) (by decide +kernel)⟩
theorem kv_mmin {μ : kM} {d mc ms pc : Nat} {ls : List (Option Value)} {st : List Value} {σ : kS} {Q : Option Value → kS → Prop} {idx : Nat} {x y : Int32} (hd : decode μ.2.1 pc = .ok (.invokestatic idx, 3)) (hk : Cond.methodLink μ.1 idx Lib.Math.min.name ∈ kl_ws) (hr8 : (st.map Value.category).sum ≤ 8) (h : kV μ (d + 1) mc ms (pc + 3) ls (.int (if y < x then y else x) :: st) σ Q) : kV μ (d + 1) mc ms pc ls (.int y :: .int x :: st) σ Q := by
  intro θ p l e R s m args below meth c FQ H locs cells slots lr hC hH hl hr hF
  have hts := hC.2.2.2.2.1
  have hR := hC.2.2.2.2.2.2.2.2.1
  exact va_mmin hC.1 hC.2.1 (by rw [hC.2.2.1]; exact hl.1.1.symm) hC.2.2.2.1 (hts _ hk) (hts _ kmt_min.1) (hts _ kmt_min.2.1) (hts _ kmt_min.2.2) (by omega) (by rw [kcat]; omega) (by omega) (by omega) hd (h θ p l e R s m args below meth c FQ H locs cells slots lr hC hH hl hr hF)
theorem kl_X4_98 : Cond.methodLink RX4 98 Lib.Math.min.name ∈ kl_ws := kl_in 828 (by decide +kernel) (by decide +kernel)
end
