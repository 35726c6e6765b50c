section
-- ===== PART A: goes FIRST, ahead of the names: the tables' words, and 'selects' of the private methods out of them =====
/-- a private method of a class that the tables say can be made, by its rows of tables_1 -/
def lw_okq (q : MethodName × Nat) : Prop := (q.1.cls ≠ "java/lang/invoke/MethodHandle" ∧ q.1.cls ≠ "java/lang/invoke/VarHandle") ∧ Cond.instantiable q.1.cls q.2 ∈ tables_1 ∧ Cond.privateMethod q.1 ∈ tables_1 ∧ Cond.instanceMethod q.1 ∈ tables_1
theorem lw_p0 : lw_okq (⟨"GeeseSums$Tape", "partOne", "(I)I"⟩, 11) := ⟨⟨by decide +kernel, by decide +kernel⟩, List.mem_of_getElem? (i := 141) (by decide +kernel), List.mem_of_getElem? (i := 584) (by decide +kernel), List.mem_of_getElem? (i := 585) (by decide +kernel)⟩
theorem lw_p1 : lw_okq (⟨"GeeseSums$Tape", "partWord", "(I)I"⟩, 11) := ⟨⟨by decide +kernel, by decide +kernel⟩, List.mem_of_getElem? (i := 141) (by decide +kernel), List.mem_of_getElem? (i := 591) (by decide +kernel), List.mem_of_getElem? (i := 592) (by decide +kernel)⟩
theorem lw_p2 : lw_okq (⟨"GeeseSums$Tape", "partBad", "(I)I"⟩, 11) := ⟨⟨by decide +kernel, by decide +kernel⟩, List.mem_of_getElem? (i := 141) (by decide +kernel), List.mem_of_getElem? (i := 595) (by decide +kernel), List.mem_of_getElem? (i := 596) (by decide +kernel)⟩
theorem lw_p3 : lw_okq (⟨"GeeseSums$Tape", "add", "(IIJ)V"⟩, 11) := ⟨⟨by decide +kernel, by decide +kernel⟩, List.mem_of_getElem? (i := 141) (by decide +kernel), List.mem_of_getElem? (i := 599) (by decide +kernel), List.mem_of_getElem? (i := 600) (by decide +kernel)⟩
theorem lw_p4 : lw_okq (⟨"GeeseSums$Tape", "partNumber", "(I)I"⟩, 11) := ⟨⟨by decide +kernel, by decide +kernel⟩, List.mem_of_getElem? (i := 141) (by decide +kernel), List.mem_of_getElem? (i := 606) (by decide +kernel), List.mem_of_getElem? (i := 607) (by decide +kernel)⟩
theorem lw_p5 : lw_okq (⟨"GeeseSums$Parser", "line", "()Z"⟩, 9) := ⟨⟨by decide +kernel, by decide +kernel⟩, List.mem_of_getElem? (i := 240) (by decide +kernel), List.mem_of_getElem? (i := 674) (by decide +kernel), List.mem_of_getElem? (i := 675) (by decide +kernel)⟩
theorem lw_p6 : lw_okq (⟨"GeeseSums$Parser", "fail", "(I)Z"⟩, 9) := ⟨⟨by decide +kernel, by decide +kernel⟩, List.mem_of_getElem? (i := 240) (by decide +kernel), List.mem_of_getElem? (i := 678) (by decide +kernel), List.mem_of_getElem? (i := 679) (by decide +kernel)⟩
theorem lw_p7 : lw_okq (⟨"GeeseSums$Parser", "towerLine", "(I)Z"⟩, 9) := ⟨⟨by decide +kernel, by decide +kernel⟩, List.mem_of_getElem? (i := 240) (by decide +kernel), List.mem_of_getElem? (i := 682) (by decide +kernel), List.mem_of_getElem? (i := 683) (by decide +kernel)⟩
theorem lw_p8 : lw_okq (⟨"GeeseSums$Parser", "towerHere", "()I"⟩, 9) := ⟨⟨by decide +kernel, by decide +kernel⟩, List.mem_of_getElem? (i := 240) (by decide +kernel), List.mem_of_getElem? (i := 687) (by decide +kernel), List.mem_of_getElem? (i := 688) (by decide +kernel)⟩
theorem lw_p9 : lw_okq (⟨"GeeseSums$Parser", "find", "([JI)I"⟩, 9) := ⟨⟨by decide +kernel, by decide +kernel⟩, List.mem_of_getElem? (i := 240) (by decide +kernel), List.mem_of_getElem? (i := 691) (by decide +kernel), List.mem_of_getElem? (i := 692) (by decide +kernel)⟩
theorem lw_p10 : lw_okq (⟨"GeeseSums$Parser", "takeNumber", "(II)Z"⟩, 9) := ⟨⟨by decide +kernel, by decide +kernel⟩, List.mem_of_getElem? (i := 240) (by decide +kernel), List.mem_of_getElem? (i := 695) (by decide +kernel), List.mem_of_getElem? (i := 696) (by decide +kernel)⟩
theorem lw_p11 : lw_okq (⟨"GeeseSums$Parser", "takeSign", "(I)Z"⟩, 9) := ⟨⟨by decide +kernel, by decide +kernel⟩, List.mem_of_getElem? (i := 240) (by decide +kernel), List.mem_of_getElem? (i := 703) (by decide +kernel), List.mem_of_getElem? (i := 704) (by decide +kernel)⟩
theorem lw_p12 : lw_okq (⟨"GeeseSums$Parser", "wayLine", "()Z"⟩, 9) := ⟨⟨by decide +kernel, by decide +kernel⟩, List.mem_of_getElem? (i := 240) (by decide +kernel), List.mem_of_getElem? (i := 711) (by decide +kernel), List.mem_of_getElem? (i := 712) (by decide +kernel)⟩
theorem lw_p13 : lw_okq (⟨"GeeseSums$Parser", "isTowerHere", "(I)Z"⟩, 9) := ⟨⟨by decide +kernel, by decide +kernel⟩, List.mem_of_getElem? (i := 240) (by decide +kernel), List.mem_of_getElem? (i := 715) (by decide +kernel), List.mem_of_getElem? (i := 716) (by decide +kernel)⟩
theorem lw_p14 : lw_okq (⟨"GeeseSums$Parser", "takeWord", "(I)Z"⟩, 9) := ⟨⟨by decide +kernel, by decide +kernel⟩, List.mem_of_getElem? (i := 240) (by decide +kernel), List.mem_of_getElem? (i := 723) (by decide +kernel), List.mem_of_getElem? (i := 724) (by decide +kernel)⟩
theorem lw_p15 : lw_okq (⟨"GeeseSums$Parser", "claimLine", "()Z"⟩, 9) := ⟨⟨by decide +kernel, by decide +kernel⟩, List.mem_of_getElem? (i := 240) (by decide +kernel), List.mem_of_getElem? (i := 735) (by decide +kernel), List.mem_of_getElem? (i := 736) (by decide +kernel)⟩
def lw_privs_1 : List (MethodName × Nat) := [(⟨"GeeseSums$Tape", "partOne", "(I)I"⟩, 11), (⟨"GeeseSums$Tape", "partWord", "(I)I"⟩, 11), (⟨"GeeseSums$Tape", "partBad", "(I)I"⟩, 11), (⟨"GeeseSums$Tape", "add", "(IIJ)V"⟩, 11), (⟨"GeeseSums$Tape", "partNumber", "(I)I"⟩, 11), (⟨"GeeseSums$Parser", "line", "()Z"⟩, 9), (⟨"GeeseSums$Parser", "fail", "(I)Z"⟩, 9), (⟨"GeeseSums$Parser", "towerLine", "(I)Z"⟩, 9), (⟨"GeeseSums$Parser", "towerHere", "()I"⟩, 9), (⟨"GeeseSums$Parser", "find", "([JI)I"⟩, 9), (⟨"GeeseSums$Parser", "takeNumber", "(II)Z"⟩, 9), (⟨"GeeseSums$Parser", "takeSign", "(I)Z"⟩, 9), (⟨"GeeseSums$Parser", "wayLine", "()Z"⟩, 9), (⟨"GeeseSums$Parser", "isTowerHere", "(I)Z"⟩, 9), (⟨"GeeseSums$Parser", "takeWord", "(I)Z"⟩, 9), (⟨"GeeseSums$Parser", "claimLine", "()Z"⟩, 9)]
theorem lw_r1 : ∀ q ∈ lw_privs_1, lw_okq q := List.forall_mem_cons.mpr ⟨lw_p0, List.forall_mem_cons.mpr ⟨lw_p1, List.forall_mem_cons.mpr ⟨lw_p2, List.forall_mem_cons.mpr ⟨lw_p3, List.forall_mem_cons.mpr ⟨lw_p4, List.forall_mem_cons.mpr ⟨lw_p5, List.forall_mem_cons.mpr ⟨lw_p6, List.forall_mem_cons.mpr ⟨lw_p7, List.forall_mem_cons.mpr ⟨lw_p8, List.forall_mem_cons.mpr ⟨lw_p9, List.forall_mem_cons.mpr ⟨lw_p10, List.forall_mem_cons.mpr ⟨lw_p11, List.forall_mem_cons.mpr ⟨lw_p12, List.forall_mem_cons.mpr ⟨lw_p13, List.forall_mem_cons.mpr ⟨lw_p14, List.forall_mem_cons.mpr ⟨lw_p15, fun _ h => absurd h List.not_mem_nil⟩⟩⟩⟩⟩⟩⟩⟩⟩⟩⟩⟩⟩⟩⟩⟩
theorem lw_p16 : lw_okq (⟨"GeeseSums$Parser", "formula", "(II)Z"⟩, 9) := ⟨⟨by decide +kernel, by decide +kernel⟩, List.mem_of_getElem? (i := 240) (by decide +kernel), List.mem_of_getElem? (i := 739) (by decide +kernel), List.mem_of_getElem? (i := 740) (by decide +kernel)⟩
theorem lw_p17 : lw_okq (⟨"GeeseSums$Parser", "unit", "(I)Z"⟩, 9) := ⟨⟨by decide +kernel, by decide +kernel⟩, List.mem_of_getElem? (i := 240) (by decide +kernel), List.mem_of_getElem? (i := 743) (by decide +kernel), List.mem_of_getElem? (i := 744) (by decide +kernel)⟩
theorem lw_p18 : lw_okq (⟨"GeeseSums$Parser", "startHere", "()I"⟩, 9) := ⟨⟨by decide +kernel, by decide +kernel⟩, List.mem_of_getElem? (i := 240) (by decide +kernel), List.mem_of_getElem? (i := 751) (by decide +kernel), List.mem_of_getElem? (i := 752) (by decide +kernel)⟩
theorem lw_p19 : lw_okq (⟨"GeeseSums$Parser", "negated", "(I)Z"⟩, 9) := ⟨⟨by decide +kernel, by decide +kernel⟩, List.mem_of_getElem? (i := 240) (by decide +kernel), List.mem_of_getElem? (i := 755) (by decide +kernel), List.mem_of_getElem? (i := 756) (by decide +kernel)⟩
theorem lw_p20 : lw_okq (⟨"GeeseSums$Parser", "isOperator", "(I)Z"⟩, 9) := ⟨⟨by decide +kernel, by decide +kernel⟩, List.mem_of_getElem? (i := 240) (by decide +kernel), List.mem_of_getElem? (i := 759) (by decide +kernel), List.mem_of_getElem? (i := 760) (by decide +kernel)⟩
theorem lw_p21 : lw_okq (⟨"GeeseSums$Parser", "drawLine", "()Z"⟩, 9) := ⟨⟨by decide +kernel, by decide +kernel⟩, List.mem_of_getElem? (i := 240) (by decide +kernel), List.mem_of_getElem? (i := 767) (by decide +kernel), List.mem_of_getElem? (i := 768) (by decide +kernel)⟩
theorem lw_p22 : lw_okq (⟨"GeeseSums", "isTower", "(I)Z"⟩, 15) := ⟨⟨by decide +kernel, by decide +kernel⟩, List.mem_of_getElem? (i := 22) (by decide +kernel), List.mem_of_getElem? (i := 787) (by decide +kernel), List.mem_of_getElem? (i := 788) (by decide +kernel)⟩
theorem lw_p23 : lw_okq (⟨"GeeseSums", "isWay", "(I)Z"⟩, 15) := ⟨⟨by decide +kernel, by decide +kernel⟩, List.mem_of_getElem? (i := 22) (by decide +kernel), List.mem_of_getElem? (i := 802) (by decide +kernel), List.mem_of_getElem? (i := 803) (by decide +kernel)⟩
theorem lw_p24 : lw_okq (⟨"GeeseSums$Sky", "slot", "(II)I"⟩, 11) := ⟨⟨by decide +kernel, by decide +kernel⟩, List.mem_of_getElem? (i := 283) (by decide +kernel), List.mem_of_getElem? (i := 810) (by decide +kernel), List.mem_of_getElem? (i := 811) (by decide +kernel)⟩
theorem lw_p25 : lw_okq (⟨"GeeseSums", "isStart", "(I)Z"⟩, 15) := ⟨⟨by decide +kernel, by decide +kernel⟩, List.mem_of_getElem? (i := 22) (by decide +kernel), List.mem_of_getElem? (i := 834) (by decide +kernel), List.mem_of_getElem? (i := 835) (by decide +kernel)⟩
theorem lw_p26 : lw_okq (⟨"GeeseSums$Sky", "gather", "(LGeeseSums$Net;)V"⟩, 11) := ⟨⟨by decide +kernel, by decide +kernel⟩, List.mem_of_getElem? (i := 283) (by decide +kernel), List.mem_of_getElem? (i := 863) (by decide +kernel), List.mem_of_getElem? (i := 864) (by decide +kernel)⟩
theorem lw_p27 : lw_okq (⟨"GeeseSums$Sky", "work", "(LGeeseSums$Net;I)V"⟩, 11) := ⟨⟨by decide +kernel, by decide +kernel⟩, List.mem_of_getElem? (i := 283) (by decide +kernel), List.mem_of_getElem? (i := 867) (by decide +kernel), List.mem_of_getElem? (i := 868) (by decide +kernel)⟩
theorem lw_p28 : lw_okq (⟨"GeeseSums$Sky", "setOut", "(LGeeseSums$Net;II)V"⟩, 11) := ⟨⟨by decide +kernel, by decide +kernel⟩, List.mem_of_getElem? (i := 283) (by decide +kernel), List.mem_of_getElem? (i := 871) (by decide +kernel), List.mem_of_getElem? (i := 872) (by decide +kernel)⟩
theorem lw_p29 : lw_okq (⟨"GeeseSums", "isTried", "(II)Z"⟩, 15) := ⟨⟨by decide +kernel, by decide +kernel⟩, List.mem_of_getElem? (i := 22) (by decide +kernel), List.mem_of_getElem? (i := 909) (by decide +kernel), List.mem_of_getElem? (i := 910) (by decide +kernel)⟩
theorem lw_p30 : lw_okq (⟨"GeeseSums", "isDusk", "(I)Z"⟩, 15) := ⟨⟨by decide +kernel, by decide +kernel⟩, List.mem_of_getElem? (i := 22) (by decide +kernel), List.mem_of_getElem? (i := 913) (by decide +kernel), List.mem_of_getElem? (i := 914) (by decide +kernel)⟩
theorem lw_p31 : lw_okq (⟨"GeeseSums", "isClaim", "(I)Z"⟩, 15) := ⟨⟨by decide +kernel, by decide +kernel⟩, List.mem_of_getElem? (i := 22) (by decide +kernel), List.mem_of_getElem? (i := 944) (by decide +kernel), List.mem_of_getElem? (i := 945) (by decide +kernel)⟩
def lw_privs_2 : List (MethodName × Nat) := [(⟨"GeeseSums$Parser", "formula", "(II)Z"⟩, 9), (⟨"GeeseSums$Parser", "unit", "(I)Z"⟩, 9), (⟨"GeeseSums$Parser", "startHere", "()I"⟩, 9), (⟨"GeeseSums$Parser", "negated", "(I)Z"⟩, 9), (⟨"GeeseSums$Parser", "isOperator", "(I)Z"⟩, 9), (⟨"GeeseSums$Parser", "drawLine", "()Z"⟩, 9), (⟨"GeeseSums", "isTower", "(I)Z"⟩, 15), (⟨"GeeseSums", "isWay", "(I)Z"⟩, 15), (⟨"GeeseSums$Sky", "slot", "(II)I"⟩, 11), (⟨"GeeseSums", "isStart", "(I)Z"⟩, 15), (⟨"GeeseSums$Sky", "gather", "(LGeeseSums$Net;)V"⟩, 11), (⟨"GeeseSums$Sky", "work", "(LGeeseSums$Net;I)V"⟩, 11), (⟨"GeeseSums$Sky", "setOut", "(LGeeseSums$Net;II)V"⟩, 11), (⟨"GeeseSums", "isTried", "(II)Z"⟩, 15), (⟨"GeeseSums", "isDusk", "(I)Z"⟩, 15), (⟨"GeeseSums", "isClaim", "(I)Z"⟩, 15)]
theorem lw_r2 : ∀ q ∈ lw_privs_2, lw_okq q := List.forall_mem_cons.mpr ⟨lw_p16, List.forall_mem_cons.mpr ⟨lw_p17, List.forall_mem_cons.mpr ⟨lw_p18, List.forall_mem_cons.mpr ⟨lw_p19, List.forall_mem_cons.mpr ⟨lw_p20, List.forall_mem_cons.mpr ⟨lw_p21, List.forall_mem_cons.mpr ⟨lw_p22, List.forall_mem_cons.mpr ⟨lw_p23, List.forall_mem_cons.mpr ⟨lw_p24, List.forall_mem_cons.mpr ⟨lw_p25, List.forall_mem_cons.mpr ⟨lw_p26, List.forall_mem_cons.mpr ⟨lw_p27, List.forall_mem_cons.mpr ⟨lw_p28, List.forall_mem_cons.mpr ⟨lw_p29, List.forall_mem_cons.mpr ⟨lw_p30, List.forall_mem_cons.mpr ⟨lw_p31, fun _ h => absurd h List.not_mem_nil⟩⟩⟩⟩⟩⟩⟩⟩⟩⟩⟩⟩⟩⟩⟩⟩
theorem lw_p32 : lw_okq (⟨"GeeseSums", "isClaimTried", "(III)Z"⟩, 15) := ⟨⟨by decide +kernel, by decide +kernel⟩, List.mem_of_getElem? (i := 22) (by decide +kernel), List.mem_of_getElem? (i := 959) (by decide +kernel), List.mem_of_getElem? (i := 960) (by decide +kernel)⟩
theorem lw_p33 : lw_okq (⟨"GeeseSums$Paths", "close", "(LGeeseSums$Net;)V"⟩, 2) := ⟨⟨by decide +kernel, by decide +kernel⟩, List.mem_of_getElem? (i := 374) (by decide +kernel), List.mem_of_getElem? (i := 975) (by decide +kernel), List.mem_of_getElem? (i := 976) (by decide +kernel)⟩
theorem lw_p34 : lw_okq (⟨"GeeseSums$Claims", "wrongFrom", "(LGeeseSums$Net;II)I"⟩, 10) := ⟨⟨by decide +kernel, by decide +kernel⟩, List.mem_of_getElem? (i := 405) (by decide +kernel), List.mem_of_getElem? (i := 983) (by decide +kernel), List.mem_of_getElem? (i := 984) (by decide +kernel)⟩
theorem lw_p35 : lw_okq (⟨"GeeseSums$Claims", "mendFrom", "(LGeeseSums$Net;II)Z"⟩, 10) := ⟨⟨by decide +kernel, by decide +kernel⟩, List.mem_of_getElem? (i := 405) (by decide +kernel), List.mem_of_getElem? (i := 1014) (by decide +kernel), List.mem_of_getElem? (i := 1015) (by decide +kernel)⟩
theorem lw_p36 : lw_okq (⟨"GeeseSums$Trial", "hasSetOut", "(LGeeseSums$Net;I)Z"⟩, 4) := ⟨⟨by decide +kernel, by decide +kernel⟩, List.mem_of_getElem? (i := 351) (by decide +kernel), List.mem_of_getElem? (i := 1027) (by decide +kernel), List.mem_of_getElem? (i := 1028) (by decide +kernel)⟩
theorem lw_p37 : lw_okq (⟨"GeeseSums$Trial", "reckonedWithout", "(LGeeseSums$Net;III)I"⟩, 4) := ⟨⟨by decide +kernel, by decide +kernel⟩, List.mem_of_getElem? (i := 351) (by decide +kernel), List.mem_of_getElem? (i := 1032) (by decide +kernel), List.mem_of_getElem? (i := 1033) (by decide +kernel)⟩
theorem lw_p38 : lw_okq (⟨"GeeseSums$Paths", "fill", "(LGeeseSums$Net;I)V"⟩, 2) := ⟨⟨by decide +kernel, by decide +kernel⟩, List.mem_of_getElem? (i := 374) (by decide +kernel), List.mem_of_getElem? (i := 1065) (by decide +kernel), List.mem_of_getElem? (i := 1066) (by decide +kernel)⟩
theorem lw_p39 : lw_okq (⟨"GeeseSums$Chain", "search", "(II)Z"⟩, 5) := ⟨⟨by decide +kernel, by decide +kernel⟩, List.mem_of_getElem? (i := 442) (by decide +kernel), List.mem_of_getElem? (i := 1115) (by decide +kernel), List.mem_of_getElem? (i := 1116) (by decide +kernel)⟩
theorem lw_p40 : lw_okq (⟨"GeeseSums$Chain", "isInReach", "(II)Z"⟩, 5) := ⟨⟨by decide +kernel, by decide +kernel⟩, List.mem_of_getElem? (i := 442) (by decide +kernel), List.mem_of_getElem? (i := 1119) (by decide +kernel), List.mem_of_getElem? (i := 1120) (by decide +kernel)⟩
theorem lw_p41 : lw_okq (⟨"GeeseSums$Sights", "isSo", "(LGeeseSums$Net;I)Z"⟩, 11) := ⟨⟨by decide +kernel, by decide +kernel⟩, List.mem_of_getElem? (i := 466) (by decide +kernel), List.mem_of_getElem? (i := 1164) (by decide +kernel), List.mem_of_getElem? (i := 1165) (by decide +kernel)⟩
theorem lw_p42 : lw_okq (⟨"GeeseSums$Sights", "isKnown", "(II)Z"⟩, 11) := ⟨⟨by decide +kernel, by decide +kernel⟩, List.mem_of_getElem? (i := 466) (by decide +kernel), List.mem_of_getElem? (i := 1169) (by decide +kernel), List.mem_of_getElem? (i := 1170) (by decide +kernel)⟩
theorem lw_p43 : lw_okq (⟨"GeeseSumsModel", "clearBank", "()V"⟩, 74) := ⟨⟨by decide +kernel, by decide +kernel⟩, List.mem_of_getElem? (i := 1198) (by decide +kernel), List.mem_of_getElem? (i := 1204) (by decide +kernel), List.mem_of_getElem? (i := 1205) (by decide +kernel)⟩
theorem lw_p44 : lw_okq (⟨"GeeseSumsModel", "startAnew", "()V"⟩, 74) := ⟨⟨by decide +kernel, by decide +kernel⟩, List.mem_of_getElem? (i := 1198) (by decide +kernel), List.mem_of_getElem? (i := 1208) (by decide +kernel), List.mem_of_getElem? (i := 1209) (by decide +kernel)⟩
theorem lw_p45 : lw_okq (⟨"GeeseSumsModel", "clearSky", "()V"⟩, 74) := ⟨⟨by decide +kernel, by decide +kernel⟩, List.mem_of_getElem? (i := 1198) (by decide +kernel), List.mem_of_getElem? (i := 1212) (by decide +kernel), List.mem_of_getElem? (i := 1213) (by decide +kernel)⟩
theorem lw_p46 : lw_okq (⟨"GeeseSumsModel", "goOn", "()V"⟩, 74) := ⟨⟨by decide +kernel, by decide +kernel⟩, List.mem_of_getElem? (i := 1198) (by decide +kernel), List.mem_of_getElem? (i := 1443) (by decide +kernel), List.mem_of_getElem? (i := 1444) (by decide +kernel)⟩
theorem lw_p47 : lw_okq (⟨"GeeseSumsModel", "sign", "(I)I"⟩, 74) := ⟨⟨by decide +kernel, by decide +kernel⟩, List.mem_of_getElem? (i := 1198) (by decide +kernel), List.mem_of_getElem? (i := 1447) (by decide +kernel), List.mem_of_getElem? (i := 1448) (by decide +kernel)⟩
def lw_privs_3 : List (MethodName × Nat) := [(⟨"GeeseSums", "isClaimTried", "(III)Z"⟩, 15), (⟨"GeeseSums$Paths", "close", "(LGeeseSums$Net;)V"⟩, 2), (⟨"GeeseSums$Claims", "wrongFrom", "(LGeeseSums$Net;II)I"⟩, 10), (⟨"GeeseSums$Claims", "mendFrom", "(LGeeseSums$Net;II)Z"⟩, 10), (⟨"GeeseSums$Trial", "hasSetOut", "(LGeeseSums$Net;I)Z"⟩, 4), (⟨"GeeseSums$Trial", "reckonedWithout", "(LGeeseSums$Net;III)I"⟩, 4), (⟨"GeeseSums$Paths", "fill", "(LGeeseSums$Net;I)V"⟩, 2), (⟨"GeeseSums$Chain", "search", "(II)Z"⟩, 5), (⟨"GeeseSums$Chain", "isInReach", "(II)Z"⟩, 5), (⟨"GeeseSums$Sights", "isSo", "(LGeeseSums$Net;I)Z"⟩, 11), (⟨"GeeseSums$Sights", "isKnown", "(II)Z"⟩, 11), (⟨"GeeseSumsModel", "clearBank", "()V"⟩, 74), (⟨"GeeseSumsModel", "startAnew", "()V"⟩, 74), (⟨"GeeseSumsModel", "clearSky", "()V"⟩, 74), (⟨"GeeseSumsModel", "goOn", "()V"⟩, 74), (⟨"GeeseSumsModel", "sign", "(I)I"⟩, 74)]
theorem lw_r3 : ∀ q ∈ lw_privs_3, lw_okq q := List.forall_mem_cons.mpr ⟨lw_p32, List.forall_mem_cons.mpr ⟨lw_p33, List.forall_mem_cons.mpr ⟨lw_p34, List.forall_mem_cons.mpr ⟨lw_p35, List.forall_mem_cons.mpr ⟨lw_p36, List.forall_mem_cons.mpr ⟨lw_p37, List.forall_mem_cons.mpr ⟨lw_p38, List.forall_mem_cons.mpr ⟨lw_p39, List.forall_mem_cons.mpr ⟨lw_p40, List.forall_mem_cons.mpr ⟨lw_p41, List.forall_mem_cons.mpr ⟨lw_p42, List.forall_mem_cons.mpr ⟨lw_p43, List.forall_mem_cons.mpr ⟨lw_p44, List.forall_mem_cons.mpr ⟨lw_p45, List.forall_mem_cons.mpr ⟨lw_p46, List.forall_mem_cons.mpr ⟨lw_p47, fun _ h => absurd h List.not_mem_nil⟩⟩⟩⟩⟩⟩⟩⟩⟩⟩⟩⟩⟩⟩⟩⟩
theorem lw_p48 : lw_okq (⟨"GeeseSumsModel", "isGood", "()Z"⟩, 74) := ⟨⟨by decide +kernel, by decide +kernel⟩, List.mem_of_getElem? (i := 1198) (by decide +kernel), List.mem_of_getElem? (i := 1481) (by decide +kernel), List.mem_of_getElem? (i := 1482) (by decide +kernel)⟩
theorem lw_p49 : lw_okq (⟨"GeeseSumsModel", "readLine", "()V"⟩, 74) := ⟨⟨by decide +kernel, by decide +kernel⟩, List.mem_of_getElem? (i := 1198) (by decide +kernel), List.mem_of_getElem? (i := 1485) (by decide +kernel), List.mem_of_getElem? (i := 1486) (by decide +kernel)⟩
theorem lw_p50 : lw_okq (⟨"GeeseSumsModel", "isFull", "()Z"⟩, 74) := ⟨⟨by decide +kernel, by decide +kernel⟩, List.mem_of_getElem? (i := 1198) (by decide +kernel), List.mem_of_getElem? (i := 1489) (by decide +kernel), List.mem_of_getElem? (i := 1490) (by decide +kernel)⟩
theorem lw_p51 : lw_okq (⟨"GeeseSumsModel", "sortHere", "()I"⟩, 74) := ⟨⟨by decide +kernel, by decide +kernel⟩, List.mem_of_getElem? (i := 1198) (by decide +kernel), List.mem_of_getElem? (i := 1493) (by decide +kernel), List.mem_of_getElem? (i := 1494) (by decide +kernel)⟩
theorem lw_p52 : lw_okq (⟨"GeeseSumsModel", "isWord", "(J)Z"⟩, 74) := ⟨⟨by decide +kernel, by decide +kernel⟩, List.mem_of_getElem? (i := 1198) (by decide +kernel), List.mem_of_getElem? (i := 1497) (by decide +kernel), List.mem_of_getElem? (i := 1498) (by decide +kernel)⟩
theorem lw_p53 : lw_okq (⟨"GeeseSumsModel", "misplaced", "()V"⟩, 74) := ⟨⟨by decide +kernel, by decide +kernel⟩, List.mem_of_getElem? (i := 1198) (by decide +kernel), List.mem_of_getElem? (i := 1501) (by decide +kernel), List.mem_of_getElem? (i := 1502) (by decide +kernel)⟩
theorem lw_p54 : lw_okq (⟨"GeeseSumsModel", "fails", "(II)V"⟩, 74) := ⟨⟨by decide +kernel, by decide +kernel⟩, List.mem_of_getElem? (i := 1198) (by decide +kernel), List.mem_of_getElem? (i := 1505) (by decide +kernel), List.mem_of_getElem? (i := 1506) (by decide +kernel)⟩
theorem lw_p55 : lw_okq (⟨"GeeseSumsModel", "readTower", "(I)V"⟩, 74) := ⟨⟨by decide +kernel, by decide +kernel⟩, List.mem_of_getElem? (i := 1198) (by decide +kernel), List.mem_of_getElem? (i := 1509) (by decide +kernel), List.mem_of_getElem? (i := 1510) (by decide +kernel)⟩
theorem lw_p56 : lw_okq (⟨"GeeseSumsModel", "towerHere", "()I"⟩, 74) := ⟨⟨by decide +kernel, by decide +kernel⟩, List.mem_of_getElem? (i := 1198) (by decide +kernel), List.mem_of_getElem? (i := 1513) (by decide +kernel), List.mem_of_getElem? (i := 1514) (by decide +kernel)⟩
theorem lw_p57 : lw_okq (⟨"GeeseSumsModel", "here", "([JII)I"⟩, 74) := ⟨⟨by decide +kernel, by decide +kernel⟩, List.mem_of_getElem? (i := 1198) (by decide +kernel), List.mem_of_getElem? (i := 1517) (by decide +kernel), List.mem_of_getElem? (i := 1518) (by decide +kernel)⟩
theorem lw_p58 : lw_okq (⟨"GeeseSumsModel", "fresh", "(I)J"⟩, 74) := ⟨⟨by decide +kernel, by decide +kernel⟩, List.mem_of_getElem? (i := 1198) (by decide +kernel), List.mem_of_getElem? (i := 1521) (by decide +kernel), List.mem_of_getElem? (i := 1522) (by decide +kernel)⟩
theorem lw_p59 : lw_okq (⟨"GeeseSumsModel", "numeral", "(II)I"⟩, 74) := ⟨⟨by decide +kernel, by decide +kernel⟩, List.mem_of_getElem? (i := 1198) (by decide +kernel), List.mem_of_getElem? (i := 1525) (by decide +kernel), List.mem_of_getElem? (i := 1526) (by decide +kernel)⟩
theorem lw_p60 : lw_okq (⟨"GeeseSumsModel", "readWay", "()V"⟩, 74) := ⟨⟨by decide +kernel, by decide +kernel⟩, List.mem_of_getElem? (i := 1198) (by decide +kernel), List.mem_of_getElem? (i := 1529) (by decide +kernel), List.mem_of_getElem? (i := 1530) (by decide +kernel)⟩
theorem lw_p61 : lw_okq (⟨"GeeseSumsModel", "known", "()I"⟩, 74) := ⟨⟨by decide +kernel, by decide +kernel⟩, List.mem_of_getElem? (i := 1198) (by decide +kernel), List.mem_of_getElem? (i := 1533) (by decide +kernel), List.mem_of_getElem? (i := 1534) (by decide +kernel)⟩
theorem lw_p62 : lw_okq (⟨"GeeseSumsModel", "canBegin", "(I)Z"⟩, 74) := ⟨⟨by decide +kernel, by decide +kernel⟩, List.mem_of_getElem? (i := 1198) (by decide +kernel), List.mem_of_getElem? (i := 1537) (by decide +kernel), List.mem_of_getElem? (i := 1538) (by decide +kernel)⟩
theorem lw_p63 : lw_okq (⟨"GeeseSumsModel", "must", "(Z)V"⟩, 74) := ⟨⟨by decide +kernel, by decide +kernel⟩, List.mem_of_getElem? (i := 1198) (by decide +kernel), List.mem_of_getElem? (i := 1541) (by decide +kernel), List.mem_of_getElem? (i := 1542) (by decide +kernel)⟩
def lw_privs_4 : List (MethodName × Nat) := [(⟨"GeeseSumsModel", "isGood", "()Z"⟩, 74), (⟨"GeeseSumsModel", "readLine", "()V"⟩, 74), (⟨"GeeseSumsModel", "isFull", "()Z"⟩, 74), (⟨"GeeseSumsModel", "sortHere", "()I"⟩, 74), (⟨"GeeseSumsModel", "isWord", "(J)Z"⟩, 74), (⟨"GeeseSumsModel", "misplaced", "()V"⟩, 74), (⟨"GeeseSumsModel", "fails", "(II)V"⟩, 74), (⟨"GeeseSumsModel", "readTower", "(I)V"⟩, 74), (⟨"GeeseSumsModel", "towerHere", "()I"⟩, 74), (⟨"GeeseSumsModel", "here", "([JII)I"⟩, 74), (⟨"GeeseSumsModel", "fresh", "(I)J"⟩, 74), (⟨"GeeseSumsModel", "numeral", "(II)I"⟩, 74), (⟨"GeeseSumsModel", "readWay", "()V"⟩, 74), (⟨"GeeseSumsModel", "known", "()I"⟩, 74), (⟨"GeeseSumsModel", "canBegin", "(I)Z"⟩, 74), (⟨"GeeseSumsModel", "must", "(Z)V"⟩, 74)]
theorem lw_r4 : ∀ q ∈ lw_privs_4, lw_okq q := List.forall_mem_cons.mpr ⟨lw_p48, List.forall_mem_cons.mpr ⟨lw_p49, List.forall_mem_cons.mpr ⟨lw_p50, List.forall_mem_cons.mpr ⟨lw_p51, List.forall_mem_cons.mpr ⟨lw_p52, List.forall_mem_cons.mpr ⟨lw_p53, List.forall_mem_cons.mpr ⟨lw_p54, List.forall_mem_cons.mpr ⟨lw_p55, List.forall_mem_cons.mpr ⟨lw_p56, List.forall_mem_cons.mpr ⟨lw_p57, List.forall_mem_cons.mpr ⟨lw_p58, List.forall_mem_cons.mpr ⟨lw_p59, List.forall_mem_cons.mpr ⟨lw_p60, List.forall_mem_cons.mpr ⟨lw_p61, List.forall_mem_cons.mpr ⟨lw_p62, List.forall_mem_cons.mpr ⟨lw_p63, fun _ h => absurd h List.not_mem_nil⟩⟩⟩⟩⟩⟩⟩⟩⟩⟩⟩⟩⟩⟩⟩⟩
theorem lw_p64 : lw_okq (⟨"GeeseSumsModel", "after", "(JII)I"⟩, 74) := ⟨⟨by decide +kernel, by decide +kernel⟩, List.mem_of_getElem? (i := 1198) (by decide +kernel), List.mem_of_getElem? (i := 1545) (by decide +kernel), List.mem_of_getElem? (i := 1546) (by decide +kernel)⟩
theorem lw_p65 : lw_okq (⟨"GeeseSumsModel", "readClaim", "()V"⟩, 74) := ⟨⟨by decide +kernel, by decide +kernel⟩, List.mem_of_getElem? (i := 1198) (by decide +kernel), List.mem_of_getElem? (i := 1549) (by decide +kernel), List.mem_of_getElem? (i := 1550) (by decide +kernel)⟩
theorem lw_p66 : lw_okq (⟨"GeeseSumsModel", "readRule", "(I)V"⟩, 74) := ⟨⟨by decide +kernel, by decide +kernel⟩, List.mem_of_getElem? (i := 1198) (by decide +kernel), List.mem_of_getElem? (i := 1553) (by decide +kernel), List.mem_of_getElem? (i := 1554) (by decide +kernel)⟩
theorem lw_p67 : lw_okq (⟨"GeeseSumsModel", "e", "()V"⟩, 74) := ⟨⟨by decide +kernel, by decide +kernel⟩, List.mem_of_getElem? (i := 1198) (by decide +kernel), List.mem_of_getElem? (i := 1557) (by decide +kernel), List.mem_of_getElem? (i := 1558) (by decide +kernel)⟩
theorem lw_p68 : lw_okq (⟨"GeeseSumsModel", "pushE", "(II)V"⟩, 74) := ⟨⟨by decide +kernel, by decide +kernel⟩, List.mem_of_getElem? (i := 1198) (by decide +kernel), List.mem_of_getElem? (i := 1561) (by decide +kernel), List.mem_of_getElem? (i := 1562) (by decide +kernel)⟩
theorem lw_p69 : lw_okq (⟨"GeeseSumsModel", "unit", "()Z"⟩, 74) := ⟨⟨by decide +kernel, by decide +kernel⟩, List.mem_of_getElem? (i := 1198) (by decide +kernel), List.mem_of_getElem? (i := 1565) (by decide +kernel), List.mem_of_getElem? (i := 1566) (by decide +kernel)⟩
theorem lw_p70 : lw_okq (⟨"GeeseSumsModel", "isSignHere", "(I)Z"⟩, 74) := ⟨⟨by decide +kernel, by decide +kernel⟩, List.mem_of_getElem? (i := 1198) (by decide +kernel), List.mem_of_getElem? (i := 1569) (by decide +kernel), List.mem_of_getElem? (i := 1570) (by decide +kernel)⟩
theorem lw_p71 : lw_okq (⟨"GeeseSumsModel", "startHere", "()I"⟩, 74) := ⟨⟨by decide +kernel, by decide +kernel⟩, List.mem_of_getElem? (i := 1198) (by decide +kernel), List.mem_of_getElem? (i := 1573) (by decide +kernel), List.mem_of_getElem? (i := 1574) (by decide +kernel)⟩
theorem lw_p72 : lw_okq (⟨"GeeseSumsModel", "emit", "(II)V"⟩, 74) := ⟨⟨by decide +kernel, by decide +kernel⟩, List.mem_of_getElem? (i := 1198) (by decide +kernel), List.mem_of_getElem? (i := 1577) (by decide +kernel), List.mem_of_getElem? (i := 1578) (by decide +kernel)⟩
theorem lw_p73 : lw_okq (⟨"GeeseSumsModel", "behindUnit", "()Z"⟩, 74) := ⟨⟨by decide +kernel, by decide +kernel⟩, List.mem_of_getElem? (i := 1198) (by decide +kernel), List.mem_of_getElem? (i := 1581) (by decide +kernel), List.mem_of_getElem? (i := 1582) (by decide +kernel)⟩
theorem lw_p74 : lw_okq (⟨"GeeseSumsModel", "rankHere", "()I"⟩, 74) := ⟨⟨by decide +kernel, by decide +kernel⟩, List.mem_of_getElem? (i := 1198) (by decide +kernel), List.mem_of_getElem? (i := 1585) (by decide +kernel), List.mem_of_getElem? (i := 1586) (by decide +kernel)⟩
theorem lw_p75 : lw_okq (⟨"GeeseSumsModel", "isCompared", "()Z"⟩, 74) := ⟨⟨by decide +kernel, by decide +kernel⟩, List.mem_of_getElem? (i := 1198) (by decide +kernel), List.mem_of_getElem? (i := 1589) (by decide +kernel), List.mem_of_getElem? (i := 1590) (by decide +kernel)⟩
theorem lw_p76 : lw_okq (⟨"GeeseSumsModel", "readDraw", "()V"⟩, 74) := ⟨⟨by decide +kernel, by decide +kernel⟩, List.mem_of_getElem? (i := 1198) (by decide +kernel), List.mem_of_getElem? (i := 1593) (by decide +kernel), List.mem_of_getElem? (i := 1594) (by decide +kernel)⟩
theorem lw_p77 : lw_okq (⟨"GeeseSumsModel", "isTower", "(I)Z"⟩, 74) := ⟨⟨by decide +kernel, by decide +kernel⟩, List.mem_of_getElem? (i := 1198) (by decide +kernel), List.mem_of_getElem? (i := 1605) (by decide +kernel), List.mem_of_getElem? (i := 1606) (by decide +kernel)⟩
theorem lw_p78 : lw_okq (⟨"GeeseSumsModel", "towerMany", "()I"⟩, 74) := ⟨⟨by decide +kernel, by decide +kernel⟩, List.mem_of_getElem? (i := 1198) (by decide +kernel), List.mem_of_getElem? (i := 1609) (by decide +kernel), List.mem_of_getElem? (i := 1610) (by decide +kernel)⟩
theorem lw_p79 : lw_okq (⟨"GeeseSumsModel", "sortOf", "(I)I"⟩, 74) := ⟨⟨by decide +kernel, by decide +kernel⟩, List.mem_of_getElem? (i := 1198) (by decide +kernel), List.mem_of_getElem? (i := 1616) (by decide +kernel), List.mem_of_getElem? (i := 1617) (by decide +kernel)⟩
def lw_privs_5 : List (MethodName × Nat) := [(⟨"GeeseSumsModel", "after", "(JII)I"⟩, 74), (⟨"GeeseSumsModel", "readClaim", "()V"⟩, 74), (⟨"GeeseSumsModel", "readRule", "(I)V"⟩, 74), (⟨"GeeseSumsModel", "e", "()V"⟩, 74), (⟨"GeeseSumsModel", "pushE", "(II)V"⟩, 74), (⟨"GeeseSumsModel", "unit", "()Z"⟩, 74), (⟨"GeeseSumsModel", "isSignHere", "(I)Z"⟩, 74), (⟨"GeeseSumsModel", "startHere", "()I"⟩, 74), (⟨"GeeseSumsModel", "emit", "(II)V"⟩, 74), (⟨"GeeseSumsModel", "behindUnit", "()Z"⟩, 74), (⟨"GeeseSumsModel", "rankHere", "()I"⟩, 74), (⟨"GeeseSumsModel", "isCompared", "()Z"⟩, 74), (⟨"GeeseSumsModel", "readDraw", "()V"⟩, 74), (⟨"GeeseSumsModel", "isTower", "(I)Z"⟩, 74), (⟨"GeeseSumsModel", "towerMany", "()I"⟩, 74), (⟨"GeeseSumsModel", "sortOf", "(I)I"⟩, 74)]
theorem lw_r5 : ∀ q ∈ lw_privs_5, lw_okq q := List.forall_mem_cons.mpr ⟨lw_p64, List.forall_mem_cons.mpr ⟨lw_p65, List.forall_mem_cons.mpr ⟨lw_p66, List.forall_mem_cons.mpr ⟨lw_p67, List.forall_mem_cons.mpr ⟨lw_p68, List.forall_mem_cons.mpr ⟨lw_p69, List.forall_mem_cons.mpr ⟨lw_p70, List.forall_mem_cons.mpr ⟨lw_p71, List.forall_mem_cons.mpr ⟨lw_p72, List.forall_mem_cons.mpr ⟨lw_p73, List.forall_mem_cons.mpr ⟨lw_p74, List.forall_mem_cons.mpr ⟨lw_p75, List.forall_mem_cons.mpr ⟨lw_p76, List.forall_mem_cons.mpr ⟨lw_p77, List.forall_mem_cons.mpr ⟨lw_p78, List.forall_mem_cons.mpr ⟨lw_p79, fun _ h => absurd h List.not_mem_nil⟩⟩⟩⟩⟩⟩⟩⟩⟩⟩⟩⟩⟩⟩⟩⟩
theorem lw_p80 : lw_okq (⟨"GeeseSumsModel", "isWay", "(I)Z"⟩, 74) := ⟨⟨by decide +kernel, by decide +kernel⟩, List.mem_of_getElem? (i := 1198) (by decide +kernel), List.mem_of_getElem? (i := 1624) (by decide +kernel), List.mem_of_getElem? (i := 1625) (by decide +kernel)⟩
theorem lw_p81 : lw_okq (⟨"GeeseSumsModel", "wayMany", "()I"⟩, 74) := ⟨⟨by decide +kernel, by decide +kernel⟩, List.mem_of_getElem? (i := 1198) (by decide +kernel), List.mem_of_getElem? (i := 1628) (by decide +kernel), List.mem_of_getElem? (i := 1629) (by decide +kernel)⟩
theorem lw_p82 : lw_okq (⟨"GeeseSumsModel", "onWay", "(I)I"⟩, 74) := ⟨⟨by decide +kernel, by decide +kernel⟩, List.mem_of_getElem? (i := 1198) (by decide +kernel), List.mem_of_getElem? (i := 1632) (by decide +kernel), List.mem_of_getElem? (i := 1633) (by decide +kernel)⟩
theorem lw_p83 : lw_okq (⟨"GeeseSumsModel", "onWays", "()I"⟩, 74) := ⟨⟨by decide +kernel, by decide +kernel⟩, List.mem_of_getElem? (i := 1198) (by decide +kernel), List.mem_of_getElem? (i := 1644) (by decide +kernel), List.mem_of_getElem? (i := 1645) (by decide +kernel)⟩
theorem lw_p84 : lw_okq (⟨"GeeseSumsModel", "staying", "()I"⟩, 74) := ⟨⟨by decide +kernel, by decide +kernel⟩, List.mem_of_getElem? (i := 1198) (by decide +kernel), List.mem_of_getElem? (i := 1648) (by decide +kernel), List.mem_of_getElem? (i := 1649) (by decide +kernel)⟩
theorem lw_p85 : lw_okq (⟨"GeeseSumsModel", "startMany", "()I"⟩, 74) := ⟨⟨by decide +kernel, by decide +kernel⟩, List.mem_of_getElem? (i := 1198) (by decide +kernel), List.mem_of_getElem? (i := 1656) (by decide +kernel), List.mem_of_getElem? (i := 1657) (by decide +kernel)⟩
theorem lw_p86 : lw_okq (⟨"GeeseSumsModel", "keepAct", "()V"⟩, 74) := ⟨⟨by decide +kernel, by decide +kernel⟩, List.mem_of_getElem? (i := 1198) (by decide +kernel), List.mem_of_getElem? (i := 1661) (by decide +kernel), List.mem_of_getElem? (i := 1662) (by decide +kernel)⟩
theorem lw_p87 : lw_okq (⟨"GeeseSumsModel", "beat", "()V"⟩, 74) := ⟨⟨by decide +kernel, by decide +kernel⟩, List.mem_of_getElem? (i := 1198) (by decide +kernel), List.mem_of_getElem? (i := 1669) (by decide +kernel), List.mem_of_getElem? (i := 1670) (by decide +kernel)⟩
theorem lw_p88 : lw_okq (⟨"GeeseSumsModel", "comeNearer", "()V"⟩, 74) := ⟨⟨by decide +kernel, by decide +kernel⟩, List.mem_of_getElem? (i := 1198) (by decide +kernel), List.mem_of_getElem? (i := 1673) (by decide +kernel), List.mem_of_getElem? (i := 1674) (by decide +kernel)⟩
theorem lw_p89 : lw_okq (⟨"GeeseSumsModel", "does", "(I)V"⟩, 74) := ⟨⟨by decide +kernel, by decide +kernel⟩, List.mem_of_getElem? (i := 1198) (by decide +kernel), List.mem_of_getElem? (i := 1677) (by decide +kernel), List.mem_of_getElem? (i := 1678) (by decide +kernel)⟩
theorem lw_p90 : lw_okq (⟨"GeeseSumsModel", "setOut", "(II)V"⟩, 74) := ⟨⟨by decide +kernel, by decide +kernel⟩, List.mem_of_getElem? (i := 1198) (by decide +kernel), List.mem_of_getElem? (i := 1681) (by decide +kernel), List.mem_of_getElem? (i := 1682) (by decide +kernel)⟩
theorem lw_p91 : lw_okq (⟨"GeeseSumsModel", "exchange", "()V"⟩, 74) := ⟨⟨by decide +kernel, by decide +kernel⟩, List.mem_of_getElem? (i := 1198) (by decide +kernel), List.mem_of_getElem? (i := 1693) (by decide +kernel), List.mem_of_getElem? (i := 1694) (by decide +kernel)⟩
theorem lw_p92 : lw_okq (⟨"GeeseSumsModel", "isDusk", "(I)Z"⟩, 74) := ⟨⟨by decide +kernel, by decide +kernel⟩, List.mem_of_getElem? (i := 1198) (by decide +kernel), List.mem_of_getElem? (i := 1713) (by decide +kernel), List.mem_of_getElem? (i := 1714) (by decide +kernel)⟩
theorem lw_p93 : lw_okq (⟨"GeeseSumsModel", "putAside", "()V"⟩, 74) := ⟨⟨by decide +kernel, by decide +kernel⟩, List.mem_of_getElem? (i := 1198) (by decide +kernel), List.mem_of_getElem? (i := 1720) (by decide +kernel), List.mem_of_getElem? (i := 1721) (by decide +kernel)⟩
theorem lw_p94 : lw_okq (⟨"GeeseSumsModel", "reckoned", "(II)I"⟩, 74) := ⟨⟨by decide +kernel, by decide +kernel⟩, List.mem_of_getElem? (i := 1198) (by decide +kernel), List.mem_of_getElem? (i := 1724) (by decide +kernel), List.mem_of_getElem? (i := 1725) (by decide +kernel)⟩
theorem lw_p95 : lw_okq (⟨"GeeseSumsModel", "clearFor", "()V"⟩, 74) := ⟨⟨by decide +kernel, by decide +kernel⟩, List.mem_of_getElem? (i := 1198) (by decide +kernel), List.mem_of_getElem? (i := 1728) (by decide +kernel), List.mem_of_getElem? (i := 1729) (by decide +kernel)⟩
def lw_privs_6 : List (MethodName × Nat) := [(⟨"GeeseSumsModel", "isWay", "(I)Z"⟩, 74), (⟨"GeeseSumsModel", "wayMany", "()I"⟩, 74), (⟨"GeeseSumsModel", "onWay", "(I)I"⟩, 74), (⟨"GeeseSumsModel", "onWays", "()I"⟩, 74), (⟨"GeeseSumsModel", "staying", "()I"⟩, 74), (⟨"GeeseSumsModel", "startMany", "()I"⟩, 74), (⟨"GeeseSumsModel", "keepAct", "()V"⟩, 74), (⟨"GeeseSumsModel", "beat", "()V"⟩, 74), (⟨"GeeseSumsModel", "comeNearer", "()V"⟩, 74), (⟨"GeeseSumsModel", "does", "(I)V"⟩, 74), (⟨"GeeseSumsModel", "setOut", "(II)V"⟩, 74), (⟨"GeeseSumsModel", "exchange", "()V"⟩, 74), (⟨"GeeseSumsModel", "isDusk", "(I)Z"⟩, 74), (⟨"GeeseSumsModel", "putAside", "()V"⟩, 74), (⟨"GeeseSumsModel", "reckoned", "(II)I"⟩, 74), (⟨"GeeseSumsModel", "clearFor", "()V"⟩, 74)]
theorem lw_r6 : ∀ q ∈ lw_privs_6, lw_okq q := List.forall_mem_cons.mpr ⟨lw_p80, List.forall_mem_cons.mpr ⟨lw_p81, List.forall_mem_cons.mpr ⟨lw_p82, List.forall_mem_cons.mpr ⟨lw_p83, List.forall_mem_cons.mpr ⟨lw_p84, List.forall_mem_cons.mpr ⟨lw_p85, List.forall_mem_cons.mpr ⟨lw_p86, List.forall_mem_cons.mpr ⟨lw_p87, List.forall_mem_cons.mpr ⟨lw_p88, List.forall_mem_cons.mpr ⟨lw_p89, List.forall_mem_cons.mpr ⟨lw_p90, List.forall_mem_cons.mpr ⟨lw_p91, List.forall_mem_cons.mpr ⟨lw_p92, List.forall_mem_cons.mpr ⟨lw_p93, List.forall_mem_cons.mpr ⟨lw_p94, List.forall_mem_cons.mpr ⟨lw_p95, fun _ h => absurd h List.not_mem_nil⟩⟩⟩⟩⟩⟩⟩⟩⟩⟩⟩⟩⟩⟩⟩⟩
theorem lw_p96 : lw_okq (⟨"GeeseSumsModel", "bringBack", "()V"⟩, 74) := ⟨⟨by decide +kernel, by decide +kernel⟩, List.mem_of_getElem? (i := 1198) (by decide +kernel), List.mem_of_getElem? (i := 1732) (by decide +kernel), List.mem_of_getElem? (i := 1733) (by decide +kernel)⟩
theorem lw_p97 : lw_okq (⟨"GeeseSumsModel", "isStill", "()Z"⟩, 74) := ⟨⟨by decide +kernel, by decide +kernel⟩, List.mem_of_getElem? (i := 1198) (by decide +kernel), List.mem_of_getElem? (i := 1740) (by decide +kernel), List.mem_of_getElem? (i := 1741) (by decide +kernel)⟩
theorem lw_p98 : lw_okq (⟨"GeeseSumsModel", "isClaim", "(I)Z"⟩, 74) := ⟨⟨by decide +kernel, by decide +kernel⟩, List.mem_of_getElem? (i := 1198) (by decide +kernel), List.mem_of_getElem? (i := 1748) (by decide +kernel), List.mem_of_getElem? (i := 1749) (by decide +kernel)⟩
theorem lw_p99 : lw_okq (⟨"GeeseSumsModel", "comes", "(I)I"⟩, 74) := ⟨⟨by decide +kernel, by decide +kernel⟩, List.mem_of_getElem? (i := 1198) (by decide +kernel), List.mem_of_getElem? (i := 1752) (by decide +kernel), List.mem_of_getElem? (i := 1753) (by decide +kernel)⟩
theorem lw_p100 : lw_okq (⟨"GeeseSumsModel", "canAsk", "(III)Z"⟩, 74) := ⟨⟨by decide +kernel, by decide +kernel⟩, List.mem_of_getElem? (i := 1198) (by decide +kernel), List.mem_of_getElem? (i := 1763) (by decide +kernel), List.mem_of_getElem? (i := 1764) (by decide +kernel)⟩
theorem lw_p101 : lw_okq (⟨"GeeseSumsModel", "rowsOf", "(I)I"⟩, 74) := ⟨⟨by decide +kernel, by decide +kernel⟩, List.mem_of_getElem? (i := 1198) (by decide +kernel), List.mem_of_getElem? (i := 1767) (by decide +kernel), List.mem_of_getElem? (i := 1768) (by decide +kernel)⟩
theorem lw_p102 : lw_okq (⟨"GeeseSumsModel", "wrongRows", "(IIIZ)I"⟩, 74) := ⟨⟨by decide +kernel, by decide +kernel⟩, List.mem_of_getElem? (i := 1198) (by decide +kernel), List.mem_of_getElem? (i := 1771) (by decide +kernel), List.mem_of_getElem? (i := 1772) (by decide +kernel)⟩
theorem lw_p103 : lw_okq (⟨"GeeseSumsModel", "keepRow", "()V"⟩, 74) := ⟨⟨by decide +kernel, by decide +kernel⟩, List.mem_of_getElem? (i := 1198) (by decide +kernel), List.mem_of_getElem? (i := 1775) (by decide +kernel), List.mem_of_getElem? (i := 1776) (by decide +kernel)⟩
theorem lw_p104 : lw_okq (⟨"GeeseSumsModel", "layRow", "(II)V"⟩, 74) := ⟨⟨by decide +kernel, by decide +kernel⟩, List.mem_of_getElem? (i := 1198) (by decide +kernel), List.mem_of_getElem? (i := 1779) (by decide +kernel), List.mem_of_getElem? (i := 1780) (by decide +kernel)⟩
theorem lw_p105 : lw_okq (⟨"GeeseSumsModel", "isRight", "(II)Z"⟩, 74) := ⟨⟨by decide +kernel, by decide +kernel⟩, List.mem_of_getElem? (i := 1198) (by decide +kernel), List.mem_of_getElem? (i := 1783) (by decide +kernel), List.mem_of_getElem? (i := 1784) (by decide +kernel)⟩
theorem lw_p106 : lw_okq (⟨"GeeseSumsModel", "bringRow", "()V"⟩, 74) := ⟨⟨by decide +kernel, by decide +kernel⟩, List.mem_of_getElem? (i := 1198) (by decide +kernel), List.mem_of_getElem? (i := 1787) (by decide +kernel), List.mem_of_getElem? (i := 1788) (by decide +kernel)⟩
theorem lw_p107 : lw_okq (⟨"GeeseSumsModel", "areAllRight", "(III)Z"⟩, 74) := ⟨⟨by decide +kernel, by decide +kernel⟩, List.mem_of_getElem? (i := 1198) (by decide +kernel), List.mem_of_getElem? (i := 1799) (by decide +kernel), List.mem_of_getElem? (i := 1800) (by decide +kernel)⟩
theorem lw_p108 : lw_okq (⟨"GeeseSumsModel", "mendsOne", "(IIIZ)Z"⟩, 74) := ⟨⟨by decide +kernel, by decide +kernel⟩, List.mem_of_getElem? (i := 1198) (by decide +kernel), List.mem_of_getElem? (i := 1803) (by decide +kernel), List.mem_of_getElem? (i := 1804) (by decide +kernel)⟩
theorem lw_p109 : lw_okq (⟨"GeeseSumsModel", "told", "(I)I"⟩, 74) := ⟨⟨by decide +kernel, by decide +kernel⟩, List.mem_of_getElem? (i := 1198) (by decide +kernel), List.mem_of_getElem? (i := 1807) (by decide +kernel), List.mem_of_getElem? (i := 1808) (by decide +kernel)⟩
theorem lw_p110 : lw_okq (⟨"GeeseSumsModel", "mendsTwo", "(IIII)Z"⟩, 74) := ⟨⟨by decide +kernel, by decide +kernel⟩, List.mem_of_getElem? (i := 1198) (by decide +kernel), List.mem_of_getElem? (i := 1811) (by decide +kernel), List.mem_of_getElem? (i := 1812) (by decide +kernel)⟩
theorem lw_p111 : lw_okq (⟨"GeeseSumsModel", "lossOf", "(IIIII)I"⟩, 74) := ⟨⟨by decide +kernel, by decide +kernel⟩, List.mem_of_getElem? (i := 1198) (by decide +kernel), List.mem_of_getElem? (i := 1819) (by decide +kernel), List.mem_of_getElem? (i := 1820) (by decide +kernel)⟩
def lw_privs_7 : List (MethodName × Nat) := [(⟨"GeeseSumsModel", "bringBack", "()V"⟩, 74), (⟨"GeeseSumsModel", "isStill", "()Z"⟩, 74), (⟨"GeeseSumsModel", "isClaim", "(I)Z"⟩, 74), (⟨"GeeseSumsModel", "comes", "(I)I"⟩, 74), (⟨"GeeseSumsModel", "canAsk", "(III)Z"⟩, 74), (⟨"GeeseSumsModel", "rowsOf", "(I)I"⟩, 74), (⟨"GeeseSumsModel", "wrongRows", "(IIIZ)I"⟩, 74), (⟨"GeeseSumsModel", "keepRow", "()V"⟩, 74), (⟨"GeeseSumsModel", "layRow", "(II)V"⟩, 74), (⟨"GeeseSumsModel", "isRight", "(II)Z"⟩, 74), (⟨"GeeseSumsModel", "bringRow", "()V"⟩, 74), (⟨"GeeseSumsModel", "areAllRight", "(III)Z"⟩, 74), (⟨"GeeseSumsModel", "mendsOne", "(IIIZ)Z"⟩, 74), (⟨"GeeseSumsModel", "told", "(I)I"⟩, 74), (⟨"GeeseSumsModel", "mendsTwo", "(IIII)Z"⟩, 74), (⟨"GeeseSumsModel", "lossOf", "(IIIII)I"⟩, 74)]
theorem lw_r7 : ∀ q ∈ lw_privs_7, lw_okq q := List.forall_mem_cons.mpr ⟨lw_p96, List.forall_mem_cons.mpr ⟨lw_p97, List.forall_mem_cons.mpr ⟨lw_p98, List.forall_mem_cons.mpr ⟨lw_p99, List.forall_mem_cons.mpr ⟨lw_p100, List.forall_mem_cons.mpr ⟨lw_p101, List.forall_mem_cons.mpr ⟨lw_p102, List.forall_mem_cons.mpr ⟨lw_p103, List.forall_mem_cons.mpr ⟨lw_p104, List.forall_mem_cons.mpr ⟨lw_p105, List.forall_mem_cons.mpr ⟨lw_p106, List.forall_mem_cons.mpr ⟨lw_p107, List.forall_mem_cons.mpr ⟨lw_p108, List.forall_mem_cons.mpr ⟨lw_p109, List.forall_mem_cons.mpr ⟨lw_p110, List.forall_mem_cons.mpr ⟨lw_p111, fun _ h => absurd h List.not_mem_nil⟩⟩⟩⟩⟩⟩⟩⟩⟩⟩⟩⟩⟩⟩⟩⟩
theorem lw_p112 : lw_okq (⟨"GeeseSumsModel", "layPaths", "(I)V"⟩, 74) := ⟨⟨by decide +kernel, by decide +kernel⟩, List.mem_of_getElem? (i := 1198) (by decide +kernel), List.mem_of_getElem? (i := 1835) (by decide +kernel), List.mem_of_getElem? (i := 1836) (by decide +kernel)⟩
theorem lw_p113 : lw_okq (⟨"GeeseSumsModel", "isInRing", "(I)Z"⟩, 74) := ⟨⟨by decide +kernel, by decide +kernel⟩, List.mem_of_getElem? (i := 1198) (by decide +kernel), List.mem_of_getElem? (i := 1853) (by decide +kernel), List.mem_of_getElem? (i := 1854) (by decide +kernel)⟩
theorem lw_p114 : lw_okq (⟨"GeeseSumsModel", "wider", "(I)I"⟩, 74) := ⟨⟨by decide +kernel, by decide +kernel⟩, List.mem_of_getElem? (i := 1198) (by decide +kernel), List.mem_of_getElem? (i := 1857) (by decide +kernel), List.mem_of_getElem? (i := 1858) (by decide +kernel)⟩
theorem lw_p115 : lw_okq (⟨"GeeseSumsModel", "doesChain", "(II)Z"⟩, 74) := ⟨⟨by decide +kernel, by decide +kernel⟩, List.mem_of_getElem? (i := 1198) (by decide +kernel), List.mem_of_getElem? (i := 1873) (by decide +kernel), List.mem_of_getElem? (i := 1874) (by decide +kernel)⟩
theorem lw_p116 : lw_okq (⟨"GeeseSumsModel", "countBegun", "(II)I"⟩, 74) := ⟨⟨by decide +kernel, by decide +kernel⟩, List.mem_of_getElem? (i := 1198) (by decide +kernel), List.mem_of_getElem? (i := 1897) (by decide +kernel), List.mem_of_getElem? (i := 1898) (by decide +kernel)⟩
theorem lw_p117 : lw_okq (⟨"GeeseSumsModel", "areSo", "(I)Z"⟩, 74) := ⟨⟨by decide +kernel, by decide +kernel⟩, List.mem_of_getElem? (i := 1198) (by decide +kernel), List.mem_of_getElem? (i := 1901) (by decide +kernel), List.mem_of_getElem? (i := 1902) (by decide +kernel)⟩
theorem lw_p118 : lw_okq (⟨"GeeseSumsModel", "lastBeat", "(I)I"⟩, 74) := ⟨⟨by decide +kernel, by decide +kernel⟩, List.mem_of_getElem? (i := 1198) (by decide +kernel), List.mem_of_getElem? (i := 1905) (by decide +kernel), List.mem_of_getElem? (i := 1906) (by decide +kernel)⟩
theorem lw_p119 : lw_okq (⟨"GeeseSumsModel", "counts", "(II)Z"⟩, 74) := ⟨⟨by decide +kernel, by decide +kernel⟩, List.mem_of_getElem? (i := 1198) (by decide +kernel), List.mem_of_getElem? (i := 1909) (by decide +kernel), List.mem_of_getElem? (i := 1910) (by decide +kernel)⟩
def lw_privs_8 : List (MethodName × Nat) := [(⟨"GeeseSumsModel", "layPaths", "(I)V"⟩, 74), (⟨"GeeseSumsModel", "isInRing", "(I)Z"⟩, 74), (⟨"GeeseSumsModel", "wider", "(I)I"⟩, 74), (⟨"GeeseSumsModel", "doesChain", "(II)Z"⟩, 74), (⟨"GeeseSumsModel", "countBegun", "(II)I"⟩, 74), (⟨"GeeseSumsModel", "areSo", "(I)Z"⟩, 74), (⟨"GeeseSumsModel", "lastBeat", "(I)I"⟩, 74), (⟨"GeeseSumsModel", "counts", "(II)Z"⟩, 74)]
theorem lw_r8 : ∀ q ∈ lw_privs_8, lw_okq q := List.forall_mem_cons.mpr ⟨lw_p112, List.forall_mem_cons.mpr ⟨lw_p113, List.forall_mem_cons.mpr ⟨lw_p114, List.forall_mem_cons.mpr ⟨lw_p115, List.forall_mem_cons.mpr ⟨lw_p116, List.forall_mem_cons.mpr ⟨lw_p117, List.forall_mem_cons.mpr ⟨lw_p118, List.forall_mem_cons.mpr ⟨lw_p119, fun _ h => absurd h List.not_mem_nil⟩⟩⟩⟩⟩⟩⟩⟩
def lw_privs : List (MethodName × Nat) := lw_privs_1 ++ (lw_privs_2 ++ (lw_privs_3 ++ (lw_privs_4 ++ (lw_privs_5 ++ (lw_privs_6 ++ (lw_privs_7 ++ (lw_privs_8)))))))
def lw_tbl : List Cond := k2_sels lw_privs ++ tables_1
theorem lw_privs_ok : ∀ q ∈ lw_privs, lw_okq q := by
  show ∀ q ∈ lw_privs_1 ++ (lw_privs_2 ++ (lw_privs_3 ++ (lw_privs_4 ++ (lw_privs_5 ++ (lw_privs_6 ++ (lw_privs_7 ++ (lw_privs_8))))))), lw_okq q
  exact List.forall_mem_append.mpr ⟨lw_r1, List.forall_mem_append.mpr ⟨lw_r2, List.forall_mem_append.mpr ⟨lw_r3, List.forall_mem_append.mpr ⟨lw_r4, List.forall_mem_append.mpr ⟨lw_r5, List.forall_mem_append.mpr ⟨lw_r6, List.forall_mem_append.mpr ⟨lw_r7, lw_r8⟩⟩⟩⟩⟩⟩⟩
end
section
def RX0 : String := "GeeseSums$Acts"
def TX0 : u_T := fun k => match k with
  | 0 => ("GeeseSums$Acts", "skies", "[LGeeseSums$Sky;", true)
  | 1 => ("GeeseSums$Acts", "here", "I", false)
  | 2 => ("GeeseSums$Acts", "undoable", "I", false)
  | _ => ("GeeseSums$Acts", "redoable", "I", false)
def tyX0 : Nat → FieldType := fun k => match k with
  | 0 => .array (.object "GeeseSums$Sky")
  | 1 => .int
  | 2 => .int
  | _ => .int
abbrev wsX00 : List Cond := u_ws RX0 TX0 4
theorem nmX0 : ∀ a, a < 4 → ∀ b, b < 4 → a ≠ b → (TX0 a).2.1 ≠ (TX0 b).2.1 := by decide +kernel
theorem tyX0_ok : ∀ k, k < 4 → parseFieldDescriptor (TX0 k).2.2.1 = some (tyX0 k) := by decide +kernel
abbrev cX0_init : ByteArray := prog_2_method_1_code
def yX0_init : MethodName := ⟨RX0, "<init>", "()V"⟩
abbrev cX0_now : ByteArray := prog_2_method_2_code
def yX0_now : MethodName := ⟨RX0, "now", "()LGeeseSums$Sky;"⟩
abbrev cX0_goOn : ByteArray := prog_2_method_3_code
def yX0_goOn : MethodName := ⟨RX0, "goOn", "()LGeeseSums$Sky;"⟩
abbrev cX0_takeBack : ByteArray := prog_2_method_4_code
def yX0_takeBack : MethodName := ⟨RX0, "takeBack", "()Z"⟩
abbrev cX0_doAgain : ByteArray := prog_2_method_5_code
def yX0_doAgain : MethodName := ⟨RX0, "doAgain", "()Z"⟩
abbrev cX0_restart : ByteArray := prog_2_method_6_code
def yX0_restart : MethodName := ⟨RX0, "restart", "(I)V"⟩
abbrev cX0_restartFrom : ByteArray := prog_2_method_7_code
def yX0_restartFrom : MethodName := ⟨RX0, "restartFrom", "(LGeeseSums$Sky;)V"⟩
def RX1 : String := "GeeseSums$Chain"
def TX1 : u_T := fun k => match k with
  | 0 => ("GeeseSums$Chain", "many", "I", false)
  | 1 => ("GeeseSums$Chain", "wanted", "[I", true)
  | 2 => ("GeeseSums$Chain", "values", "[[I", true)
  | 3 => ("GeeseSums$Chain", "sorts", "[I", true)
  | _ => ("GeeseSums$Chain", "lying", "LGeeseSums$Lying;", true)
def tyX1 : Nat → FieldType := fun k => match k with
  | 0 => .int
  | 1 => .array .int
  | 2 => .array (.array .int)
  | 3 => .array .int
  | _ => .object "GeeseSums$Lying"
abbrev wsX10 : List Cond := u_ws RX1 TX1 5
theorem nmX1 : ∀ a, a < 5 → ∀ b, b < 5 → a ≠ b → (TX1 a).2.1 ≠ (TX1 b).2.1 := by decide +kernel
theorem tyX1_ok : ∀ k, k < 5 → parseFieldDescriptor (TX1 k).2.2.1 = some (tyX1 k) := by decide +kernel
abbrev cX1_init : ByteArray := prog_3_method_1_code
def yX1_init : MethodName := ⟨RX1, "<init>", "(LGeeseSums$Lying;)V"⟩
abbrev cX1_want : ByteArray := prog_3_method_2_code
def yX1_want : MethodName := ⟨RX1, "want", "(II)I"⟩
abbrev cX1_shortest : ByteArray := prog_3_method_3_code
def yX1_shortest : MethodName := ⟨RX1, "shortest", "()I"⟩
abbrev cX1_search : ByteArray := prog_3_method_4_code
def yX1_search : MethodName := ⟨RX1, "search", "(II)Z"⟩
abbrev cX1_isInReach : ByteArray := prog_3_method_5_code
def yX1_isInReach : MethodName := ⟨RX1, "isInReach", "(II)Z"⟩
abbrev cX1_made : ByteArray := prog_3_method_6_code
def yX1_made : MethodName := ⟨RX1, "made", "(II)I"⟩
def RX2 : String := "GeeseSums$Claims"
def TX2 : u_T := fun k => match k with
  | 0 => ("GeeseSums$Claims", "trial", "LGeeseSums$Trial;", true)
  | 1 => ("GeeseSums$Claims", "paths", "LGeeseSums$Paths;", true)
  | 2 => ("GeeseSums$Claims", "lying", "LGeeseSums$Lying;", true)
  | 3 => ("GeeseSums$Claims", "row", "[I", true)
  | 4 => ("GeeseSums$Claims", "claim", "I", false)
  | 5 => ("GeeseSums$Claims", "m", "I", false)
  | 6 => ("GeeseSums$Claims", "beats", "I", false)
  | 7 => ("GeeseSums$Claims", "rows", "I", false)
  | 8 => ("GeeseSums$Claims", "suspect", "I", false)
  | _ => ("GeeseSums$Claims", "useful", "I", false)
def tyX2 : Nat → FieldType := fun k => match k with
  | 0 => .object "GeeseSums$Trial"
  | 1 => .object "GeeseSums$Paths"
  | 2 => .object "GeeseSums$Lying"
  | 3 => .array .int
  | 4 => .int
  | 5 => .int
  | 6 => .int
  | 7 => .int
  | 8 => .int
  | _ => .int
abbrev wsX20 : List Cond := u_ws RX2 TX2 10
theorem nmX2 : ∀ a, a < 10 → ∀ b, b < 10 → a ≠ b → (TX2 a).2.1 ≠ (TX2 b).2.1 := by decide +kernel
theorem tyX2_ok : ∀ k, k < 10 → parseFieldDescriptor (TX2 k).2.2.1 = some (tyX2 k) := by decide +kernel
abbrev cX2_init : ByteArray := prog_4_method_1_code
def yX2_init : MethodName := ⟨RX2, "<init>", "(LGeeseSums$Trial;LGeeseSums$Paths;LGeeseSums$Lying;)V"⟩
abbrev cX2_ask : ByteArray := prog_4_method_2_code
def yX2_ask : MethodName := ⟨RX2, "ask", "(LGeeseSums$Net;III)I"⟩
abbrev cX2_wrongFrom : ByteArray := prog_4_method_3_code
def yX2_wrongFrom : MethodName := ⟨RX2, "wrongFrom", "(LGeeseSums$Net;II)I"⟩
abbrev cX2_wrongOnes : ByteArray := prog_4_method_4_code
def yX2_wrongOnes : MethodName := ⟨RX2, "wrongOnes", "(LGeeseSums$Net;)I"⟩
abbrev cX2_firstAgainst : ByteArray := prog_4_method_5_code
def yX2_firstAgainst : MethodName := ⟨RX2, "firstAgainst", "(LGeeseSums$Net;)I"⟩
abbrev cX2_fewestToMend : ByteArray := prog_4_method_6_code
def yX2_fewestToMend : MethodName := ⟨RX2, "fewestToMend", "(LGeeseSums$Net;)I"⟩
abbrev cX2_mendFrom : ByteArray := prog_4_method_7_code
def yX2_mendFrom : MethodName := ⟨RX2, "mendFrom", "(LGeeseSums$Net;II)Z"⟩
def RX3 : String := "GeeseSums$Lying"
def TX3 : u_T := fun k => match k with
  | 0 => ("GeeseSums$Lying", "numbers", "[I", true)
  | _ => ("GeeseSums$Lying", "many", "I", false)
def tyX3 : Nat → FieldType := fun k => match k with
  | 0 => .array .int
  | _ => .int
abbrev wsX30 : List Cond := u_ws RX3 TX3 2
theorem nmX3 : ∀ a, a < 2 → ∀ b, b < 2 → a ≠ b → (TX3 a).2.1 ≠ (TX3 b).2.1 := by decide +kernel
theorem tyX3_ok : ∀ k, k < 2 → parseFieldDescriptor (TX3 k).2.2.1 = some (tyX3 k) := by decide +kernel
abbrev cX3_init : ByteArray := prog_5_method_1_code
def yX3_init : MethodName := ⟨RX3, "<init>", "()V"⟩
abbrev cX3_put : ByteArray := prog_5_method_2_code
def yX3_put : MethodName := ⟨RX3, "put", "(I)V"⟩
def RX4 : String := "GeeseSums$Net"
def TX4 : u_T := fun k => match k with
  | 0 => ("GeeseSums$Net", "towers", "I", false)
  | 1 => ("GeeseSums$Net", "sorts", "[I", true)
  | 2 => ("GeeseSums$Net", "sizes", "[I", true)
  | 3 => ("GeeseSums$Net", "first", "[I", true)
  | 4 => ("GeeseSums$Net", "second", "[I", true)
  | 5 => ("GeeseSums$Net", "starts", "I", false)
  | 6 => ("GeeseSums$Net", "startTowers", "[I", true)
  | 7 => ("GeeseSums$Net", "ways", "I", false)
  | 8 => ("GeeseSums$Net", "from", "[I", true)
  | 9 => ("GeeseSums$Net", "to", "[I", true)
  | 10 => ("GeeseSums$Net", "beats", "[I", true)
  | 11 => ("GeeseSums$Net", "claims", "I", false)
  | 12 => ("GeeseSums$Net", "claimDusks", "[I", true)
  | 13 => ("GeeseSums$Net", "codeEnds", "[I", true)
  | 14 => ("GeeseSums$Net", "code", "[I", true)
  | 15 => ("GeeseSums$Net", "codes", "I", false)
  | 16 => ("GeeseSums$Net", "values", "[I", true)
  | 17 => ("GeeseSums$Net", "units", "I", false)
  | _ => ("GeeseSums$Net", "draw", "I", false)
def tyX4 : Nat → FieldType := fun k => match k with
  | 0 => .int
  | 1 => .array .int
  | 2 => .array .int
  | 3 => .array .int
  | 4 => .array .int
  | 5 => .int
  | 6 => .array .int
  | 7 => .int
  | 8 => .array .int
  | 9 => .array .int
  | 10 => .array .int
  | 11 => .int
  | 12 => .array .int
  | 13 => .array .int
  | 14 => .array .int
  | 15 => .int
  | 16 => .array .int
  | 17 => .int
  | _ => .int
abbrev wsX40 : List Cond := u_ws RX4 TX4 19
theorem nmX4 : ∀ a, a < 19 → ∀ b, b < 19 → a ≠ b → (TX4 a).2.1 ≠ (TX4 b).2.1 := by decide +kernel
theorem tyX4_ok : ∀ k, k < 19 → parseFieldDescriptor (TX4 k).2.2.1 = some (tyX4 k) := by decide +kernel
abbrev cX4_init : ByteArray := prog_6_method_1_code
def yX4_init : MethodName := ⟨RX4, "<init>", "()V"⟩
abbrev cX4_clear : ByteArray := prog_6_method_2_code
def yX4_clear : MethodName := ⟨RX4, "clear", "()V"⟩
abbrev cX4_addTower : ByteArray := prog_6_method_3_code
def yX4_addTower : MethodName := ⟨RX4, "addTower", "(II)V"⟩
abbrev cX4_hasRoomForWay : ByteArray := prog_6_method_4_code
def yX4_hasRoomForWay : MethodName := ⟨RX4, "hasRoomForWay", "(I)Z"⟩
abbrev cX4_addWay : ByteArray := prog_6_method_5_code
def yX4_addWay : MethodName := ⟨RX4, "addWay", "(III)V"⟩
abbrev cX4_addClaim : ByteArray := prog_6_method_6_code
def yX4_addClaim : MethodName := ⟨RX4, "addClaim", "(I)V"⟩
abbrev cX4_emit : ByteArray := prog_6_method_7_code
def yX4_emit : MethodName := ⟨RX4, "emit", "(I)V"⟩
abbrev cX4_rows : ByteArray := prog_6_method_8_code
def yX4_rows : MethodName := ⟨RX4, "rows", "(I)I"⟩
abbrev cX4_setRow : ByteArray := prog_6_method_9_code
def yX4_setRow : MethodName := ⟨RX4, "setRow", "([III)V"⟩
abbrev cX4_value : ByteArray := prog_6_method_10_code
def yX4_value : MethodName := ⟨RX4, "value", "(I[I)I"⟩
abbrev cX4_joined : ByteArray := prog_6_method_11_code
def yX4_joined : MethodName := ⟨RX4, "joined", "(III)I"⟩
def RX5 : String := "GeeseSums$Parser"
def TX5 : u_T := fun k => match k with
  | 0 => ("GeeseSums$Parser", "fault", "I", false)
  | 1 => ("GeeseSums$Parser", "place", "I", false)
  | 2 => ("GeeseSums$Parser", "tape", "LGeeseSums$Tape;", true)
  | 3 => ("GeeseSums$Parser", "towerNames", "[J", true)
  | 4 => ("GeeseSums$Parser", "claimNames", "[J", true)
  | 5 => ("GeeseSums$Parser", "net", "LGeeseSums$Net;", false)
  | 6 => ("GeeseSums$Parser", "drawn", "Z", false)
  | 7 => ("GeeseSums$Parser", "number", "I", false)
  | _ => ("GeeseSums$Parser", "unitsHere", "I", false)
def tyX5 : Nat → FieldType := fun k => match k with
  | 0 => .int
  | 1 => .int
  | 2 => .object "GeeseSums$Tape"
  | 3 => .array .long
  | 4 => .array .long
  | 5 => .object "GeeseSums$Net"
  | 6 => .boolean
  | 7 => .int
  | _ => .int
abbrev wsX50 : List Cond := u_ws RX5 TX5 9
theorem nmX5 : ∀ a, a < 9 → ∀ b, b < 9 → a ≠ b → (TX5 a).2.1 ≠ (TX5 b).2.1 := by decide +kernel
theorem tyX5_ok : ∀ k, k < 9 → parseFieldDescriptor (TX5 k).2.2.1 = some (tyX5 k) := by decide +kernel
abbrev cX5_init : ByteArray := prog_7_method_1_code
def yX5_init : MethodName := ⟨RX5, "<init>", "(LGeeseSums$Tape;LGeeseSums$Net;)V"⟩
abbrev cX5_read : ByteArray := prog_7_method_2_code
def yX5_read : MethodName := ⟨RX5, "read", "(LGeeseSums$Net;)Z"⟩
abbrev cX5_fail : ByteArray := prog_7_method_3_code
def yX5_fail : MethodName := ⟨RX5, "fail", "(I)Z"⟩
abbrev cX5_line : ByteArray := prog_7_method_4_code
def yX5_line : MethodName := ⟨RX5, "line", "()Z"⟩
abbrev cX5_towerLine : ByteArray := prog_7_method_5_code
def yX5_towerLine : MethodName := ⟨RX5, "towerLine", "(I)Z"⟩
abbrev cX5_wayLine : ByteArray := prog_7_method_6_code
def yX5_wayLine : MethodName := ⟨RX5, "wayLine", "()Z"⟩
abbrev cX5_claimLine : ByteArray := prog_7_method_7_code
def yX5_claimLine : MethodName := ⟨RX5, "claimLine", "()Z"⟩
abbrev cX5_drawLine : ByteArray := prog_7_method_8_code
def yX5_drawLine : MethodName := ⟨RX5, "drawLine", "()Z"⟩
abbrev cX5_formula : ByteArray := prog_7_method_9_code
def yX5_formula : MethodName := ⟨RX5, "formula", "(II)Z"⟩
abbrev cX5_negated : ByteArray := prog_7_method_10_code
def yX5_negated : MethodName := ⟨RX5, "negated", "(I)Z"⟩
abbrev cX5_isOperator : ByteArray := prog_7_method_11_code
def yX5_isOperator : MethodName := ⟨RX5, "isOperator", "(I)Z"⟩
abbrev cX5_unit : ByteArray := prog_7_method_12_code
def yX5_unit : MethodName := ⟨RX5, "unit", "(I)Z"⟩
abbrev cX5_find : ByteArray := prog_7_method_13_code
def yX5_find : MethodName := ⟨RX5, "find", "([JI)I"⟩
abbrev cX5_towerHere : ByteArray := prog_7_method_14_code
def yX5_towerHere : MethodName := ⟨RX5, "towerHere", "()I"⟩
abbrev cX5_startHere : ByteArray := prog_7_method_15_code
def yX5_startHere : MethodName := ⟨RX5, "startHere", "()I"⟩
abbrev cX5_isTowerHere : ByteArray := prog_7_method_16_code
def yX5_isTowerHere : MethodName := ⟨RX5, "isTowerHere", "(I)Z"⟩
abbrev cX5_takeWord : ByteArray := prog_7_method_17_code
def yX5_takeWord : MethodName := ⟨RX5, "takeWord", "(I)Z"⟩
abbrev cX5_takeSign : ByteArray := prog_7_method_18_code
def yX5_takeSign : MethodName := ⟨RX5, "takeSign", "(I)Z"⟩
abbrev cX5_takeNumber : ByteArray := prog_7_method_19_code
def yX5_takeNumber : MethodName := ⟨RX5, "takeNumber", "(II)Z"⟩
def RX6 : String := "GeeseSums$Paths"
def TX6 : u_T := fun k => match k with
  | 0 => ("GeeseSums$Paths", "counts", "[[I", true)
  | _ => ("GeeseSums$Paths", "reach", "[I", true)
def tyX6 : Nat → FieldType := fun k => match k with
  | 0 => .array (.array .int)
  | _ => .array .int
abbrev wsX60 : List Cond := u_ws RX6 TX6 2
theorem nmX6 : ∀ a, a < 2 → ∀ b, b < 2 → a ≠ b → (TX6 a).2.1 ≠ (TX6 b).2.1 := by decide +kernel
theorem tyX6_ok : ∀ k, k < 2 → parseFieldDescriptor (TX6 k).2.2.1 = some (tyX6 k) := by decide +kernel
abbrev cX6_init : ByteArray := prog_8_method_1_code
def yX6_init : MethodName := ⟨RX6, "<init>", "()V"⟩
abbrev cX6_fill : ByteArray := prog_8_method_2_code
def yX6_fill : MethodName := ⟨RX6, "fill", "(LGeeseSums$Net;I)V"⟩
abbrev cX6_count : ByteArray := prog_8_method_3_code
def yX6_count : MethodName := ⟨RX6, "count", "(LGeeseSums$Net;III)I"⟩
abbrev cX6_firstMeeting : ByteArray := prog_8_method_4_code
def yX6_firstMeeting : MethodName := ⟨RX6, "firstMeeting", "(LGeeseSums$Net;III)I"⟩
abbrev cX6_lengths : ByteArray := prog_8_method_5_code
def yX6_lengths : MethodName := ⟨RX6, "lengths", "(LGeeseSums$Net;II)I"⟩
abbrev cX6_close : ByteArray := prog_8_method_6_code
def yX6_close : MethodName := ⟨RX6, "close", "(LGeeseSums$Net;)V"⟩
abbrev cX6_returning : ByteArray := prog_8_method_7_code
def yX6_returning : MethodName := ⟨RX6, "returning", "(LGeeseSums$Net;)I"⟩
abbrev cX6_between : ByteArray := prog_8_method_8_code
def yX6_between : MethodName := ⟨RX6, "between", "(LGeeseSums$Net;I)I"⟩
def RX7 : String := "GeeseSums$Sights"
def TX7 : u_T := fun k => match k with
  | 0 => ("GeeseSums$Sights", "many", "I", false)
  | 1 => ("GeeseSums$Sights", "dusks", "[I", true)
  | 2 => ("GeeseSums$Sights", "beats", "[I", true)
  | 3 => ("GeeseSums$Sights", "seen", "[I", true)
  | 4 => ("GeeseSums$Sights", "told", "[I", true)
  | 5 => ("GeeseSums$Sights", "untold", "[I", true)
  | 6 => ("GeeseSums$Sights", "trial", "LGeeseSums$Trial;", true)
  | 7 => ("GeeseSums$Sights", "row", "[I", true)
  | 8 => ("GeeseSums$Sights", "rows", "I", false)
  | 9 => ("GeeseSums$Sights", "first", "[I", true)
  | _ => ("GeeseSums$Sights", "unlike", "[Z", true)
def tyX7 : Nat → FieldType := fun k => match k with
  | 0 => .int
  | 1 => .array .int
  | 2 => .array .int
  | 3 => .array .int
  | 4 => .array .int
  | 5 => .array .int
  | 6 => .object "GeeseSums$Trial"
  | 7 => .array .int
  | 8 => .int
  | 9 => .array .int
  | _ => .array .boolean
abbrev wsX70 : List Cond := u_ws RX7 TX7 11
theorem nmX7 : ∀ a, a < 11 → ∀ b, b < 11 → a ≠ b → (TX7 a).2.1 ≠ (TX7 b).2.1 := by decide +kernel
theorem tyX7_ok : ∀ k, k < 11 → parseFieldDescriptor (TX7 k).2.2.1 = some (tyX7 k) := by decide +kernel
abbrev cX7_init : ByteArray := prog_9_method_1_code
def yX7_init : MethodName := ⟨RX7, "<init>", "(LGeeseSums$Trial;)V"⟩
abbrev cX7_tell : ByteArray := prog_9_method_2_code
def yX7_tell : MethodName := ⟨RX7, "tell", "(IIII)I"⟩
abbrev cX7_takeBack : ByteArray := prog_9_method_3_code
def yX7_takeBack : MethodName := ⟨RX7, "takeBack", "(II)Z"⟩
abbrev cX7_isKnown : ByteArray := prog_9_method_4_code
def yX7_isKnown : MethodName := ⟨RX7, "isKnown", "(II)Z"⟩
abbrev cX7_survey : ByteArray := prog_9_method_5_code
def yX7_survey : MethodName := ⟨RX7, "survey", "(LGeeseSums$Net;II)V"⟩
abbrev cX7_isSo : ByteArray := prog_9_method_6_code
def yX7_isSo : MethodName := ⟨RX7, "isSo", "(LGeeseSums$Net;I)Z"⟩
def RX8 : String := "GeeseSums$Sky"
def TX8 : u_T := fun k => match k with
  | 0 => ("GeeseSums$Sky", "on", "[I", true)
  | 1 => ("GeeseSums$Sky", "arriving", "[I", true)
  | 2 => ("GeeseSums$Sky", "there", "[I", true)
  | 3 => ("GeeseSums$Sky", "came", "[I", true)
  | 4 => ("GeeseSums$Sky", "begun", "I", false)
  | 5 => ("GeeseSums$Sky", "bred", "I", false)
  | 6 => ("GeeseSums$Sky", "flying", "I", false)
  | 7 => ("GeeseSums$Sky", "lost", "I", false)
  | 8 => ("GeeseSums$Sky", "taken", "I", false)
  | 9 => ("GeeseSums$Sky", "seed", "I", false)
  | _ => ("GeeseSums$Sky", "beats", "I", false)
def tyX8 : Nat → FieldType := fun k => match k with
  | 0 => .array .int
  | 1 => .array .int
  | 2 => .array .int
  | 3 => .array .int
  | 4 => .int
  | 5 => .int
  | 6 => .int
  | 7 => .int
  | 8 => .int
  | 9 => .int
  | _ => .int
abbrev wsX80 : List Cond := u_ws RX8 TX8 11
theorem nmX8 : ∀ a, a < 11 → ∀ b, b < 11 → a ≠ b → (TX8 a).2.1 ≠ (TX8 b).2.1 := by decide +kernel
theorem tyX8_ok : ∀ k, k < 11 → parseFieldDescriptor (TX8 k).2.2.1 = some (tyX8 k) := by decide +kernel
abbrev cX8_init : ByteArray := prog_10_method_1_code
def yX8_init : MethodName := ⟨RX8, "<init>", "()V"⟩
abbrev cX8_clear : ByteArray := prog_10_method_2_code
def yX8_clear : MethodName := ⟨RX8, "clear", "(I)V"⟩
abbrev cX8_copy : ByteArray := prog_10_method_3_code
def yX8_copy : MethodName := ⟨RX8, "copy", "(LGeeseSums$Sky;)V"⟩
abbrev cX8_slot : ByteArray := prog_10_method_4_code
def yX8_slot : MethodName := ⟨RX8, "slot", "(II)I"⟩
abbrev cX8_left : ByteArray := prog_10_method_5_code
def yX8_left : MethodName := ⟨RX8, "left", "(II)I"⟩
abbrev cX8_onWay : ByteArray := prog_10_method_6_code
def yX8_onWay : MethodName := ⟨RX8, "onWay", "(I)I"⟩
abbrev cX8_atTowers : ByteArray := prog_10_method_7_code
def yX8_atTowers : MethodName := ⟨RX8, "atTowers", "()I"⟩
abbrev cX8_settle : ByteArray := prog_10_method_8_code
def yX8_settle : MethodName := ⟨RX8, "settle", "(II)V"⟩
abbrev cX8_lose : ByteArray := prog_10_method_9_code
def yX8_lose : MethodName := ⟨RX8, "lose", "(II)V"⟩
abbrev cX8_pass : ByteArray := prog_10_method_10_code
def yX8_pass : MethodName := ⟨RX8, "pass", "(LGeeseSums$Net;)V"⟩
abbrev cX8_gather : ByteArray := prog_10_method_11_code
def yX8_gather : MethodName := ⟨RX8, "gather", "(LGeeseSums$Net;)V"⟩
abbrev cX8_work : ByteArray := prog_10_method_12_code
def yX8_work : MethodName := ⟨RX8, "work", "(LGeeseSums$Net;I)V"⟩
abbrev cX8_setOut : ByteArray := prog_10_method_13_code
def yX8_setOut : MethodName := ⟨RX8, "setOut", "(LGeeseSums$Net;II)V"⟩
abbrev cX8_blow : ByteArray := prog_10_method_14_code
def yX8_blow : MethodName := ⟨RX8, "blow", "(I)I"⟩
abbrev cX8_isStill : ByteArray := prog_10_method_15_code
def yX8_isStill : MethodName := ⟨RX8, "isStill", "(LGeeseSums$Net;)Z"⟩
def RX9 : String := "GeeseSums$Tape"
def TX9 : u_T := fun k => match k with
  | 0 => ("GeeseSums$Tape", "bytes", "[I", true)
  | 1 => ("GeeseSums$Tape", "length", "I", false)
  | 2 => ("GeeseSums$Tape", "keywords", "[J", true)
  | 3 => ("GeeseSums$Tape", "kinds", "[I", true)
  | 4 => ("GeeseSums$Tape", "places", "[I", true)
  | 5 => ("GeeseSums$Tape", "values", "[J", true)
  | 6 => ("GeeseSums$Tape", "tokens", "I", false)
  | 7 => ("GeeseSums$Tape", "at", "I", false)
  | 8 => ("GeeseSums$Tape", "kind", "I", false)
  | 9 => ("GeeseSums$Tape", "place", "I", false)
  | _ => ("GeeseSums$Tape", "value", "J", false)
def tyX9 : Nat → FieldType := fun k => match k with
  | 0 => .array .int
  | 1 => .int
  | 2 => .array .long
  | 3 => .array .int
  | 4 => .array .int
  | 5 => .array .long
  | 6 => .int
  | 7 => .int
  | 8 => .int
  | 9 => .int
  | _ => .long
abbrev wsX90 : List Cond := u_ws RX9 TX9 11
theorem nmX9 : ∀ a, a < 11 → ∀ b, b < 11 → a ≠ b → (TX9 a).2.1 ≠ (TX9 b).2.1 := by decide +kernel
theorem tyX9_ok : ∀ k, k < 11 → parseFieldDescriptor (TX9 k).2.2.1 = some (tyX9 k) := by decide +kernel
abbrev cX9_init : ByteArray := prog_11_method_1_code
def yX9_init : MethodName := ⟨RX9, "<init>", "()V"⟩
abbrev cX9_put : ByteArray := prog_11_method_2_code
def yX9_put : MethodName := ⟨RX9, "put", "(I)V"⟩
abbrev cX9_part : ByteArray := prog_11_method_3_code
def yX9_part : MethodName := ⟨RX9, "part", "()V"⟩
abbrev cX9_partOne : ByteArray := prog_11_method_4_code
def yX9_partOne : MethodName := ⟨RX9, "partOne", "(I)I"⟩
abbrev cX9_partWord : ByteArray := prog_11_method_5_code
def yX9_partWord : MethodName := ⟨RX9, "partWord", "(I)I"⟩
abbrev cX9_partNumber : ByteArray := prog_11_method_6_code
def yX9_partNumber : MethodName := ⟨RX9, "partNumber", "(I)I"⟩
abbrev cX9_partBad : ByteArray := prog_11_method_7_code
def yX9_partBad : MethodName := ⟨RX9, "partBad", "(I)I"⟩
abbrev cX9_add : ByteArray := prog_11_method_8_code
def yX9_add : MethodName := ⟨RX9, "add", "(IIJ)V"⟩
abbrev cX9_isLetter : ByteArray := prog_11_method_9_code
def yX9_isLetter : MethodName := ⟨RX9, "isLetter", "(I)Z"⟩
abbrev cX9_isDigit : ByteArray := prog_11_method_10_code
def yX9_isDigit : MethodName := ⟨RX9, "isDigit", "(I)Z"⟩
abbrev cX9_withLetter : ByteArray := prog_11_method_11_code
def yX9_withLetter : MethodName := ⟨RX9, "withLetter", "(JI)J"⟩
abbrev cX9_isKeyword : ByteArray := prog_11_method_12_code
def yX9_isKeyword : MethodName := ⟨RX9, "isKeyword", "(I)Z"⟩
abbrev cX9_isSign : ByteArray := prog_11_method_13_code
def yX9_isSign : MethodName := ⟨RX9, "isSign", "(I)Z"⟩
abbrev cX9_step : ByteArray := prog_11_method_14_code
def yX9_step : MethodName := ⟨RX9, "step", "()V"⟩
def RX10 : String := "GeeseSums$Trial"
def TX10 : u_T := fun k => match k with
  | 0 => ("GeeseSums$Trial", "sky", "LGeeseSums$Sky;", true)
  | 1 => ("GeeseSums$Trial", "other", "LGeeseSums$Sky;", true)
  | 2 => ("GeeseSums$Trial", "lone", "[I", true)
  | _ => ("GeeseSums$Trial", "reckonings", "[I", true)
def tyX10 : Nat → FieldType := fun k => match k with
  | 0 => .object "GeeseSums$Sky"
  | 1 => .object "GeeseSums$Sky"
  | 2 => .array .int
  | _ => .array .int
abbrev wsX100 : List Cond := u_ws RX10 TX10 4
theorem nmX10 : ∀ a, a < 4 → ∀ b, b < 4 → a ≠ b → (TX10 a).2.1 ≠ (TX10 b).2.1 := by decide +kernel
theorem tyX10_ok : ∀ k, k < 4 → parseFieldDescriptor (TX10 k).2.2.1 = some (tyX10 k) := by decide +kernel
abbrev cX10_init : ByteArray := prog_12_method_1_code
def yX10_init : MethodName := ⟨RX10, "<init>", "()V"⟩
abbrev cX10_open : ByteArray := prog_12_method_2_code
def yX10_open : MethodName := ⟨RX10, "open", "(LGeeseSums$Net;[I)V"⟩
abbrev cX10_reckoned : ByteArray := prog_12_method_3_code
def yX10_reckoned : MethodName := ⟨RX10, "reckoned", "(LGeeseSums$Net;[III)I"⟩
abbrev cX10_stillAt : ByteArray := prog_12_method_4_code
def yX10_stillAt : MethodName := ⟨RX10, "stillAt", "(LGeeseSums$Net;[I)I"⟩
abbrev cX10_reckonedWithout : ByteArray := prog_12_method_5_code
def yX10_reckonedWithout : MethodName := ⟨RX10, "reckonedWithout", "(LGeeseSums$Net;III)I"⟩
abbrev cX10_hasSetOut : ByteArray := prog_12_method_6_code
def yX10_hasSetOut : MethodName := ⟨RX10, "hasSetOut", "(LGeeseSums$Net;I)Z"⟩
abbrev cX10_lossOf : ByteArray := prog_12_method_7_code
def yX10_lossOf : MethodName := ⟨RX10, "lossOf", "(LGeeseSums$Net;[IIIII)I"⟩
abbrev cX10_unseen : ByteArray := prog_12_method_8_code
def yX10_unseen : MethodName := ⟨RX10, "unseen", "(LGeeseSums$Net;[III)I"⟩
abbrev cX10_unadded : ByteArray := prog_12_method_9_code
def yX10_unadded : MethodName := ⟨RX10, "unadded", "(LGeeseSums$Net;IIIII)I"⟩
def RX11 : String := "GeeseSums"
def TX11 : u_T := fun k => match k with
  | 0 => ("GeeseSums", "tape", "LGeeseSums$Tape;", true)
  | 1 => ("GeeseSums", "parser", "LGeeseSums$Parser;", true)
  | 2 => ("GeeseSums", "acts", "LGeeseSums$Acts;", true)
  | 3 => ("GeeseSums", "boxes", "[LGeeseSums$Sky;", true)
  | 4 => ("GeeseSums", "kept", "[Z", true)
  | 5 => ("GeeseSums", "row", "[I", true)
  | 6 => ("GeeseSums", "trial", "LGeeseSums$Trial;", true)
  | 7 => ("GeeseSums", "claims", "LGeeseSums$Claims;", true)
  | 8 => ("GeeseSums", "paths", "LGeeseSums$Paths;", true)
  | 9 => ("GeeseSums", "chain", "LGeeseSums$Chain;", true)
  | 10 => ("GeeseSums", "sights", "LGeeseSums$Sights;", true)
  | 11 => ("GeeseSums", "lying", "LGeeseSums$Lying;", true)
  | 12 => ("GeeseSums", "net", "LGeeseSums$Net;", false)
  | 13 => ("GeeseSums", "spare", "LGeeseSums$Net;", false)
  | _ => ("GeeseSums", "time", "I", false)
def tyX11 : Nat → FieldType := fun k => match k with
  | 0 => .object "GeeseSums$Tape"
  | 1 => .object "GeeseSums$Parser"
  | 2 => .object "GeeseSums$Acts"
  | 3 => .array (.object "GeeseSums$Sky")
  | 4 => .array .boolean
  | 5 => .array .int
  | 6 => .object "GeeseSums$Trial"
  | 7 => .object "GeeseSums$Claims"
  | 8 => .object "GeeseSums$Paths"
  | 9 => .object "GeeseSums$Chain"
  | 10 => .object "GeeseSums$Sights"
  | 11 => .object "GeeseSums$Lying"
  | 12 => .object "GeeseSums$Net"
  | 13 => .object "GeeseSums$Net"
  | _ => .int
abbrev wsX110 : List Cond := u_ws RX11 TX11 15
theorem nmX11 : ∀ a, a < 15 → ∀ b, b < 15 → a ≠ b → (TX11 a).2.1 ≠ (TX11 b).2.1 := by decide +kernel
theorem tyX11_ok : ∀ k, k < 15 → parseFieldDescriptor (TX11 k).2.2.1 = some (tyX11 k) := by decide +kernel
abbrev cX11_init : ByteArray := prog_1_method_1_code
def yX11_init : MethodName := ⟨RX11, "<init>", "()V"⟩
abbrev cX11_feed : ByteArray := prog_1_method_2_code
def yX11_feed : MethodName := ⟨RX11, "feed", "(IIIII)I"⟩
abbrev cX11_end : ByteArray := prog_1_method_3_code
def yX11_end : MethodName := ⟨RX11, "end", "(I)I"⟩
abbrev cX11_net : ByteArray := prog_1_method_4_code
def yX11_net : MethodName := ⟨RX11, "net", "()I"⟩
abbrev cX11_fault : ByteArray := prog_1_method_5_code
def yX11_fault : MethodName := ⟨RX11, "fault", "(I)I"⟩
abbrev cX11_tower : ByteArray := prog_1_method_6_code
def yX11_tower : MethodName := ⟨RX11, "tower", "(II)I"⟩
abbrev cX11_way : ByteArray := prog_1_method_7_code
def yX11_way : MethodName := ⟨RX11, "way", "(II)I"⟩
abbrev cX11_flock : ByteArray := prog_1_method_8_code
def yX11_flock : MethodName := ⟨RX11, "flock", "(II)I"⟩
abbrev cX11_geese : ByteArray := prog_1_method_9_code
def yX11_geese : MethodName := ⟨RX11, "geese", "(I)I"⟩
abbrev cX11_begin : ByteArray := prog_1_method_10_code
def yX11_begin : MethodName := ⟨RX11, "begin", "(II)I"⟩
abbrev cX11_beats : ByteArray := prog_1_method_11_code
def yX11_beats : MethodName := ⟨RX11, "beats", "(I)I"⟩
abbrev cX11_gust : ByteArray := prog_1_method_12_code
def yX11_gust : MethodName := ⟨RX11, "gust", "()I"⟩
abbrev cX11_undo : ByteArray := prog_1_method_13_code
def yX11_undo : MethodName := ⟨RX11, "undo", "()Z"⟩
abbrev cX11_redo : ByteArray := prog_1_method_14_code
def yX11_redo : MethodName := ⟨RX11, "redo", "()Z"⟩
abbrev cX11_row : ByteArray := prog_1_method_15_code
def yX11_row : MethodName := ⟨RX11, "row", "(II)I"⟩
abbrev cX11_reckon : ByteArray := prog_1_method_16_code
def yX11_reckon : MethodName := ⟨RX11, "reckon", "(II)I"⟩
abbrev cX11_still : ByteArray := prog_1_method_17_code
def yX11_still : MethodName := ⟨RX11, "still", "()I"⟩
abbrev cX11_says : ByteArray := prog_1_method_18_code
def yX11_says : MethodName := ⟨RX11, "says", "(I)I"⟩
abbrev cX11_wrong : ByteArray := prog_1_method_19_code
def yX11_wrong : MethodName := ⟨RX11, "wrong", "(III)I"⟩
abbrev cX11_against : ByteArray := prog_1_method_20_code
def yX11_against : MethodName := ⟨RX11, "against", "(III)I"⟩
abbrev cX11_mend : ByteArray := prog_1_method_21_code
def yX11_mend : MethodName := ⟨RX11, "mend", "(III)I"⟩
abbrev cX11_loss : ByteArray := prog_1_method_22_code
def yX11_loss : MethodName := ⟨RX11, "loss", "(IIII)I"⟩
abbrev cX11_blind : ByteArray := prog_1_method_23_code
def yX11_blind : MethodName := ⟨RX11, "blind", "(II)I"⟩
abbrev cX11_adds : ByteArray := prog_1_method_24_code
def yX11_adds : MethodName := ⟨RX11, "adds", "(IIIII)I"⟩
abbrev cX11_paths : ByteArray := prog_1_method_25_code
def yX11_paths : MethodName := ⟨RX11, "paths", "(III)I"⟩
abbrev cX11_meet : ByteArray := prog_1_method_26_code
def yX11_meet : MethodName := ⟨RX11, "meet", "(III)I"⟩
abbrev cX11_spread : ByteArray := prog_1_method_27_code
def yX11_spread : MethodName := ⟨RX11, "spread", "(II)I"⟩
abbrev cX11_ring : ByteArray := prog_1_method_28_code
def yX11_ring : MethodName := ⟨RX11, "ring", "()I"⟩
abbrev cX11_pair : ByteArray := prog_1_method_29_code
def yX11_pair : MethodName := ⟨RX11, "pair", "(II)I"⟩
abbrev cX11_hush : ByteArray := prog_1_method_30_code
def yX11_hush : MethodName := ⟨RX11, "hush", "()I"⟩
abbrev cX11_chain : ByteArray := prog_1_method_31_code
def yX11_chain : MethodName := ⟨RX11, "chain", "()I"⟩
abbrev cX11_lies : ByteArray := prog_1_method_32_code
def yX11_lies : MethodName := ⟨RX11, "lies", "(I)I"⟩
abbrev cX11_sight : ByteArray := prog_1_method_33_code
def yX11_sight : MethodName := ⟨RX11, "sight", "(III)I"⟩
abbrev cX11_untell : ByteArray := prog_1_method_34_code
def yX11_untell : MethodName := ⟨RX11, "untell", "(I)Z"⟩
abbrev cX11_later : ByteArray := prog_1_method_35_code
def yX11_later : MethodName := ⟨RX11, "later", "(I)I"⟩
abbrev cX11_begun : ByteArray := prog_1_method_36_code
def yX11_begun : MethodName := ⟨RX11, "begun", "(II)I"⟩
abbrev cX11_sure : ByteArray := prog_1_method_37_code
def yX11_sure : MethodName := ⟨RX11, "sure", "(III)I"⟩
abbrev cX11_image : ByteArray := prog_1_method_38_code
def yX11_image : MethodName := ⟨RX11, "image", "(I)I"⟩
abbrev cX11_back : ByteArray := prog_1_method_39_code
def yX11_back : MethodName := ⟨RX11, "back", "(I)I"⟩
abbrev cX11_about : ByteArray := prog_1_method_40_code
def yX11_about : MethodName := ⟨RX11, "about", "(I)I"⟩
abbrev cX11_isWithin : ByteArray := prog_1_method_41_code
def yX11_isWithin : MethodName := ⟨RX11, "isWithin", "(III)Z"⟩
abbrev cX11_isTower : ByteArray := prog_1_method_42_code
def yX11_isTower : MethodName := ⟨RX11, "isTower", "(I)Z"⟩
abbrev cX11_isDusk : ByteArray := prog_1_method_43_code
def yX11_isDusk : MethodName := ⟨RX11, "isDusk", "(I)Z"⟩
abbrev cX11_isStart : ByteArray := prog_1_method_44_code
def yX11_isStart : MethodName := ⟨RX11, "isStart", "(I)Z"⟩
abbrev cX11_isWay : ByteArray := prog_1_method_45_code
def yX11_isWay : MethodName := ⟨RX11, "isWay", "(I)Z"⟩
abbrev cX11_isClaim : ByteArray := prog_1_method_46_code
def yX11_isClaim : MethodName := ⟨RX11, "isClaim", "(I)Z"⟩
abbrev cX11_isTried : ByteArray := prog_1_method_47_code
def yX11_isTried : MethodName := ⟨RX11, "isTried", "(II)Z"⟩
abbrev cX11_isClaimTried : ByteArray := prog_1_method_48_code
def yX11_isClaimTried : MethodName := ⟨RX11, "isClaimTried", "(III)Z"⟩
def RX12 : String := "GeeseSumsModel"
def TX12 : u_T := fun k => match k with
  | 0 => ("GeeseSumsModel", "tape", "[B", true)
  | 1 => ("GeeseSumsModel", "text", "[B", true)
  | 2 => ("GeeseSumsModel", "taped", "I", false)
  | 3 => ("GeeseSumsModel", "size", "I", false)
  | 4 => ("GeeseSumsModel", "faultKind", "I", false)
  | 5 => ("GeeseSumsModel", "faultPlace", "I", false)
  | 6 => ("GeeseSumsModel", "at", "I", false)
  | 7 => ("GeeseSumsModel", "end", "I", false)
  | 8 => ("GeeseSumsModel", "token", "I", false)
  | 9 => ("GeeseSumsModel", "number", "I", false)
  | 10 => ("GeeseSumsModel", "name", "J", false)
  | 11 => ("GeeseSumsModel", "towers", "[I", true)
  | 12 => ("GeeseSumsModel", "starts", "[I", true)
  | 13 => ("GeeseSumsModel", "ways", "[I", true)
  | 14 => ("GeeseSumsModel", "claims", "[I", true)
  | 15 => ("GeeseSumsModel", "units", "[I", true)
  | 16 => ("GeeseSumsModel", "draw", "[I", true)
  | 17 => ("GeeseSumsModel", "sort", "[I", true)
  | 18 => ("GeeseSumsModel", "many", "[I", true)
  | 19 => ("GeeseSumsModel", "startTower", "[I", true)
  | 20 => ("GeeseSumsModel", "wayFrom", "[I", true)
  | 21 => ("GeeseSumsModel", "wayTo", "[I", true)
  | 22 => ("GeeseSumsModel", "wayBeats", "[I", true)
  | 23 => ("GeeseSumsModel", "firstWay", "[I", true)
  | 24 => ("GeeseSumsModel", "secondWay", "[I", true)
  | 25 => ("GeeseSumsModel", "claimAt", "[I", true)
  | 26 => ("GeeseSumsModel", "ruleFrom", "[I", true)
  | 27 => ("GeeseSumsModel", "ruleTo", "[I", true)
  | 28 => ("GeeseSumsModel", "isDraw", "[Z", true)
  | 29 => ("GeeseSumsModel", "tName", "[J", true)
  | 30 => ("GeeseSumsModel", "cName", "[J", true)
  | 31 => ("GeeseSumsModel", "code", "[I", true)
  | 32 => ("GeeseSumsModel", "codeNumber", "[I", true)
  | 33 => ("GeeseSumsModel", "eWhat", "[I", true)
  | 34 => ("GeeseSumsModel", "eSign", "[I", true)
  | 35 => ("GeeseSumsModel", "pile", "[I", true)
  | 36 => ("GeeseSumsModel", "bank", "I", false)
  | 37 => ("GeeseSumsModel", "rb", "I", false)
  | 38 => ("GeeseSumsModel", "codes", "I", false)
  | 39 => ("GeeseSumsModel", "within", "I", false)
  | 40 => ("GeeseSumsModel", "piled", "I", false)
  | 41 => ("GeeseSumsModel", "unitsInRule", "I", false)
  | 42 => ("GeeseSumsModel", "all", "[I", true)
  | 43 => ("GeeseSumsModel", "aside", "[I", true)
  | 44 => ("GeeseSumsModel", "beatsOf", "[I", true)
  | 45 => ("GeeseSumsModel", "flocks", "[I", true)
  | 46 => ("GeeseSumsModel", "row", "[I", true)
  | 47 => ("GeeseSumsModel", "lossWay", "I", false)
  | 48 => ("GeeseSumsModel", "lossBeat", "I", false)
  | 49 => ("GeeseSumsModel", "didSetOut", "Z", false)
  | 50 => ("GeeseSumsModel", "was", "[I", true)
  | 51 => ("GeeseSumsModel", "acts", "I", false)
  | 52 => ("GeeseSumsModel", "undone", "I", false)
  | 53 => ("GeeseSumsModel", "laidRow", "[I", true)
  | 54 => ("GeeseSumsModel", "rowKept", "[I", true)
  | 55 => ("GeeseSumsModel", "laid", "I", false)
  | 56 => ("GeeseSumsModel", "sums", "[I", true)
  | 57 => ("GeeseSumsModel", "pathMany", "[I", true)
  | 58 => ("GeeseSumsModel", "isMet", "[Z", true)
  | 59 => ("GeeseSumsModel", "pairOf", "[I", true)
  | 60 => ("GeeseSumsModel", "pairWanted", "[I", true)
  | 61 => ("GeeseSumsModel", "pairs", "I", false)
  | 62 => ("GeeseSumsModel", "gDusk", "[I", true)
  | 63 => ("GeeseSumsModel", "gBeats", "[I", true)
  | 64 => ("GeeseSumsModel", "gMany", "[I", true)
  | 65 => ("GeeseSumsModel", "gTold", "[I", true)
  | 66 => ("GeeseSumsModel", "gUntold", "[I", true)
  | 67 => ("GeeseSumsModel", "firstRow", "[I", true)
  | 68 => ("GeeseSumsModel", "leastOf", "[I", true)
  | 69 => ("GeeseSumsModel", "mostOf", "[I", true)
  | 70 => ("GeeseSumsModel", "sights", "I", false)
  | 71 => ("GeeseSumsModel", "time", "I", false)
  | 72 => ("GeeseSumsModel", "boxAll", "[I", true)
  | _ => ("GeeseSumsModel", "isBoxed", "[Z", true)
def tyX12 : Nat → FieldType := fun k => match k with
  | 0 => .array .byte
  | 1 => .array .byte
  | 2 => .int
  | 3 => .int
  | 4 => .int
  | 5 => .int
  | 6 => .int
  | 7 => .int
  | 8 => .int
  | 9 => .int
  | 10 => .long
  | 11 => .array .int
  | 12 => .array .int
  | 13 => .array .int
  | 14 => .array .int
  | 15 => .array .int
  | 16 => .array .int
  | 17 => .array .int
  | 18 => .array .int
  | 19 => .array .int
  | 20 => .array .int
  | 21 => .array .int
  | 22 => .array .int
  | 23 => .array .int
  | 24 => .array .int
  | 25 => .array .int
  | 26 => .array .int
  | 27 => .array .int
  | 28 => .array .boolean
  | 29 => .array .long
  | 30 => .array .long
  | 31 => .array .int
  | 32 => .array .int
  | 33 => .array .int
  | 34 => .array .int
  | 35 => .array .int
  | 36 => .int
  | 37 => .int
  | 38 => .int
  | 39 => .int
  | 40 => .int
  | 41 => .int
  | 42 => .array .int
  | 43 => .array .int
  | 44 => .array .int
  | 45 => .array .int
  | 46 => .array .int
  | 47 => .int
  | 48 => .int
  | 49 => .boolean
  | 50 => .array .int
  | 51 => .int
  | 52 => .int
  | 53 => .array .int
  | 54 => .array .int
  | 55 => .int
  | 56 => .array .int
  | 57 => .array .int
  | 58 => .array .boolean
  | 59 => .array .int
  | 60 => .array .int
  | 61 => .int
  | 62 => .array .int
  | 63 => .array .int
  | 64 => .array .int
  | 65 => .array .int
  | 66 => .array .int
  | 67 => .array .int
  | 68 => .array .int
  | 69 => .array .int
  | 70 => .int
  | 71 => .int
  | 72 => .array .int
  | _ => .array .boolean
abbrev wsX120 : List Cond := u_ws RX12 TX12 74
theorem nmX12 : ∀ a, a < 74 → ∀ b, b < 74 → a ≠ b → (TX12 a).2.1 ≠ (TX12 b).2.1 := by decide +kernel
theorem tyX12_ok : ∀ k, k < 74 → parseFieldDescriptor (TX12 k).2.2.1 = some (tyX12 k) := by decide +kernel
abbrev cX12_init : ByteArray := prog_14_method_1_code
def yX12_init : MethodName := ⟨RX12, "<init>", "()V"⟩
abbrev cX12_sign : ByteArray := prog_14_method_2_code
def yX12_sign : MethodName := ⟨RX12, "sign", "(I)I"⟩
abbrev cX12_isLetter : ByteArray := prog_14_method_3_code
def yX12_isLetter : MethodName := ⟨RX12, "isLetter", "(I)Z"⟩
abbrev cX12_isDigit : ByteArray := prog_14_method_4_code
def yX12_isDigit : MethodName := ⟨RX12, "isDigit", "(I)Z"⟩
abbrev cX12_fails : ByteArray := prog_14_method_5_code
def yX12_fails : MethodName := ⟨RX12, "fails", "(II)V"⟩
abbrev cX12_isGood : ByteArray := prog_14_method_6_code
def yX12_isGood : MethodName := ⟨RX12, "isGood", "()Z"⟩
abbrev cX12_isKept : ByteArray := prog_14_method_7_code
def yX12_isKept : MethodName := ⟨RX12, "isKept", "(J)Z"⟩
abbrev cX12_isSign : ByteArray := prog_14_method_8_code
def yX12_isSign : MethodName := ⟨RX12, "isSign", "(I)Z"⟩
abbrev cX12_goOn : ByteArray := prog_14_method_9_code
def yX12_goOn : MethodName := ⟨RX12, "goOn", "()V"⟩
abbrev cX12_isSignHere : ByteArray := prog_14_method_10_code
def yX12_isSignHere : MethodName := ⟨RX12, "isSignHere", "(I)Z"⟩
abbrev cX12_isWord : ByteArray := prog_14_method_11_code
def yX12_isWord : MethodName := ⟨RX12, "isWord", "(J)Z"⟩
abbrev cX12_misplaced : ByteArray := prog_14_method_12_code
def yX12_misplaced : MethodName := ⟨RX12, "misplaced", "()V"⟩
abbrev cX12_must : ByteArray := prog_14_method_13_code
def yX12_must : MethodName := ⟨RX12, "must", "(Z)V"⟩
abbrev cX12_numeral : ByteArray := prog_14_method_14_code
def yX12_numeral : MethodName := ⟨RX12, "numeral", "(II)I"⟩
abbrev cX12_after : ByteArray := prog_14_method_15_code
def yX12_after : MethodName := ⟨RX12, "after", "(JII)I"⟩
abbrev cX12_clearBank : ByteArray := prog_14_method_16_code
def yX12_clearBank : MethodName := ⟨RX12, "clearBank", "()V"⟩
abbrev cX12_net : ByteArray := prog_14_method_17_code
def yX12_net : MethodName := ⟨RX12, "net", "()I"⟩
abbrev cX12_sortHere : ByteArray := prog_14_method_18_code
def yX12_sortHere : MethodName := ⟨RX12, "sortHere", "()I"⟩
abbrev cX12_isFull : ByteArray := prog_14_method_19_code
def yX12_isFull : MethodName := ⟨RX12, "isFull", "()Z"⟩
abbrev cX12_readLine : ByteArray := prog_14_method_20_code
def yX12_readLine : MethodName := ⟨RX12, "readLine", "()V"⟩
abbrev cX12_readDraw : ByteArray := prog_14_method_21_code
def yX12_readDraw : MethodName := ⟨RX12, "readDraw", "()V"⟩
abbrev cX12_here : ByteArray := prog_14_method_22_code
def yX12_here : MethodName := ⟨RX12, "here", "([JII)I"⟩
abbrev cX12_towerHere : ByteArray := prog_14_method_23_code
def yX12_towerHere : MethodName := ⟨RX12, "towerHere", "()I"⟩
abbrev cX12_fresh : ByteArray := prog_14_method_24_code
def yX12_fresh : MethodName := ⟨RX12, "fresh", "(I)J"⟩
abbrev cX12_known : ByteArray := prog_14_method_25_code
def yX12_known : MethodName := ⟨RX12, "known", "()I"⟩
abbrev cX12_readTower : ByteArray := prog_14_method_26_code
def yX12_readTower : MethodName := ⟨RX12, "readTower", "(I)V"⟩
abbrev cX12_canBegin : ByteArray := prog_14_method_27_code
def yX12_canBegin : MethodName := ⟨RX12, "canBegin", "(I)Z"⟩
abbrev cX12_readWay : ByteArray := prog_14_method_28_code
def yX12_readWay : MethodName := ⟨RX12, "readWay", "()V"⟩
abbrev cX12_readClaim : ByteArray := prog_14_method_29_code
def yX12_readClaim : MethodName := ⟨RX12, "readClaim", "()V"⟩
abbrev cX12_readRule : ByteArray := prog_14_method_30_code
def yX12_readRule : MethodName := ⟨RX12, "readRule", "(I)V"⟩
abbrev cX12_emit : ByteArray := prog_14_method_31_code
def yX12_emit : MethodName := ⟨RX12, "emit", "(II)V"⟩
abbrev cX12_pushE : ByteArray := prog_14_method_32_code
def yX12_pushE : MethodName := ⟨RX12, "pushE", "(II)V"⟩
abbrev cX12_e : ByteArray := prog_14_method_33_code
def yX12_e : MethodName := ⟨RX12, "e", "()V"⟩
abbrev cX12_startHere : ByteArray := prog_14_method_34_code
def yX12_startHere : MethodName := ⟨RX12, "startHere", "()I"⟩
abbrev cX12_unit : ByteArray := prog_14_method_35_code
def yX12_unit : MethodName := ⟨RX12, "unit", "()Z"⟩
abbrev cX12_rankHere : ByteArray := prog_14_method_36_code
def yX12_rankHere : MethodName := ⟨RX12, "rankHere", "()I"⟩
abbrev cX12_isCompared : ByteArray := prog_14_method_37_code
def yX12_isCompared : MethodName := ⟨RX12, "isCompared", "()Z"⟩
abbrev cX12_behindUnit : ByteArray := prog_14_method_38_code
def yX12_behindUnit : MethodName := ⟨RX12, "behindUnit", "()Z"⟩
abbrev cX12_two : ByteArray := prog_14_method_39_code
def yX12_two : MethodName := ⟨RX12, "two", "(III)I"⟩
abbrev cX12_comes : ByteArray := prog_14_method_40_code
def yX12_comes : MethodName := ⟨RX12, "comes", "(I)I"⟩
abbrev cX12_fault : ByteArray := prog_14_method_41_code
def yX12_fault : MethodName := ⟨RX12, "fault", "(I)I"⟩
abbrev cX12_isIn : ByteArray := prog_14_method_42_code
def yX12_isIn : MethodName := ⟨RX12, "isIn", "(III)Z"⟩
abbrev cX12_towerMany : ByteArray := prog_14_method_43_code
def yX12_towerMany : MethodName := ⟨RX12, "towerMany", "()I"⟩
abbrev cX12_wayMany : ByteArray := prog_14_method_44_code
def yX12_wayMany : MethodName := ⟨RX12, "wayMany", "()I"⟩
abbrev cX12_startMany : ByteArray := prog_14_method_45_code
def yX12_startMany : MethodName := ⟨RX12, "startMany", "()I"⟩
abbrev cX12_sortOf : ByteArray := prog_14_method_46_code
def yX12_sortOf : MethodName := ⟨RX12, "sortOf", "(I)I"⟩
abbrev cX12_isTower : ByteArray := prog_14_method_47_code
def yX12_isTower : MethodName := ⟨RX12, "isTower", "(I)Z"⟩
abbrev cX12_isWay : ByteArray := prog_14_method_48_code
def yX12_isWay : MethodName := ⟨RX12, "isWay", "(I)Z"⟩
abbrev cX12_isDusk : ByteArray := prog_14_method_49_code
def yX12_isDusk : MethodName := ⟨RX12, "isDusk", "(I)Z"⟩
abbrev cX12_isClaim : ByteArray := prog_14_method_50_code
def yX12_isClaim : MethodName := ⟨RX12, "isClaim", "(I)Z"⟩
abbrev cX12_startAnew : ByteArray := prog_14_method_51_code
def yX12_startAnew : MethodName := ⟨RX12, "startAnew", "()V"⟩
abbrev cX12_clearSky : ByteArray := prog_14_method_52_code
def yX12_clearSky : MethodName := ⟨RX12, "clearSky", "()V"⟩
abbrev cX12_putAside : ByteArray := prog_14_method_53_code
def yX12_putAside : MethodName := ⟨RX12, "putAside", "()V"⟩
abbrev cX12_bringBack : ByteArray := prog_14_method_54_code
def yX12_bringBack : MethodName := ⟨RX12, "bringBack", "()V"⟩
abbrev cX12_setOut : ByteArray := prog_14_method_55_code
def yX12_setOut : MethodName := ⟨RX12, "setOut", "(II)V"⟩
abbrev cX12_comeNearer : ByteArray := prog_14_method_56_code
def yX12_comeNearer : MethodName := ⟨RX12, "comeNearer", "()V"⟩
abbrev cX12_does : ByteArray := prog_14_method_57_code
def yX12_does : MethodName := ⟨RX12, "does", "(I)V"⟩
abbrev cX12_beat : ByteArray := prog_14_method_58_code
def yX12_beat : MethodName := ⟨RX12, "beat", "()V"⟩
abbrev cX12_onWay : ByteArray := prog_14_method_59_code
def yX12_onWay : MethodName := ⟨RX12, "onWay", "(I)I"⟩
abbrev cX12_onWays : ByteArray := prog_14_method_60_code
def yX12_onWays : MethodName := ⟨RX12, "onWays", "()I"⟩
abbrev cX12_staying : ByteArray := prog_14_method_61_code
def yX12_staying : MethodName := ⟨RX12, "staying", "()I"⟩
abbrev cX12_tower : ByteArray := prog_14_method_62_code
def yX12_tower : MethodName := ⟨RX12, "tower", "(II)I"⟩
abbrev cX12_way : ByteArray := prog_14_method_63_code
def yX12_way : MethodName := ⟨RX12, "way", "(II)I"⟩
abbrev cX12_flock : ByteArray := prog_14_method_64_code
def yX12_flock : MethodName := ⟨RX12, "flock", "(II)I"⟩
abbrev cX12_geese : ByteArray := prog_14_method_65_code
def yX12_geese : MethodName := ⟨RX12, "geese", "(I)I"⟩
abbrev cX12_keepAct : ByteArray := prog_14_method_66_code
def yX12_keepAct : MethodName := ⟨RX12, "keepAct", "()V"⟩
abbrev cX12_exchange : ByteArray := prog_14_method_67_code
def yX12_exchange : MethodName := ⟨RX12, "exchange", "()V"⟩
abbrev cX12_begin : ByteArray := prog_14_method_68_code
def yX12_begin : MethodName := ⟨RX12, "begin", "(II)I"⟩
abbrev cX12_beats : ByteArray := prog_14_method_69_code
def yX12_beats : MethodName := ⟨RX12, "beats", "(I)I"⟩
abbrev cX12_gust : ByteArray := prog_14_method_70_code
def yX12_gust : MethodName := ⟨RX12, "gust", "()I"⟩
abbrev cX12_undo : ByteArray := prog_14_method_71_code
def yX12_undo : MethodName := ⟨RX12, "undo", "()Z"⟩
abbrev cX12_redo : ByteArray := prog_14_method_72_code
def yX12_redo : MethodName := ⟨RX12, "redo", "()Z"⟩
abbrev cX12_lies : ByteArray := prog_14_method_73_code
def yX12_lies : MethodName := ⟨RX12, "lies", "(I)I"⟩
abbrev cX12_row : ByteArray := prog_14_method_74_code
def yX12_row : MethodName := ⟨RX12, "row", "(II)I"⟩
abbrev cX12_clearFor : ByteArray := prog_14_method_75_code
def yX12_clearFor : MethodName := ⟨RX12, "clearFor", "()V"⟩
abbrev cX12_reckoned : ByteArray := prog_14_method_76_code
def yX12_reckoned : MethodName := ⟨RX12, "reckoned", "(II)I"⟩
abbrev cX12_isBeats : ByteArray := prog_14_method_77_code
def yX12_isBeats : MethodName := ⟨RX12, "isBeats", "(I)Z"⟩
abbrev cX12_reckon : ByteArray := prog_14_method_78_code
def yX12_reckon : MethodName := ⟨RX12, "reckon", "(II)I"⟩
abbrev cX12_isStill : ByteArray := prog_14_method_79_code
def yX12_isStill : MethodName := ⟨RX12, "isStill", "()Z"⟩
abbrev cX12_still : ByteArray := prog_14_method_80_code
def yX12_still : MethodName := ⟨RX12, "still", "()I"⟩
abbrev cX12_keepRow : ByteArray := prog_14_method_81_code
def yX12_keepRow : MethodName := ⟨RX12, "keepRow", "()V"⟩
abbrev cX12_bringRow : ByteArray := prog_14_method_82_code
def yX12_bringRow : MethodName := ⟨RX12, "bringRow", "()V"⟩
abbrev cX12_rowsOf : ByteArray := prog_14_method_83_code
def yX12_rowsOf : MethodName := ⟨RX12, "rowsOf", "(I)I"⟩
abbrev cX12_layRow : ByteArray := prog_14_method_84_code
def yX12_layRow : MethodName := ⟨RX12, "layRow", "(II)V"⟩
abbrev cX12_isRight : ByteArray := prog_14_method_85_code
def yX12_isRight : MethodName := ⟨RX12, "isRight", "(II)Z"⟩
abbrev cX12_says : ByteArray := prog_14_method_86_code
def yX12_says : MethodName := ⟨RX12, "says", "(I)I"⟩
abbrev cX12_canAsk : ByteArray := prog_14_method_87_code
def yX12_canAsk : MethodName := ⟨RX12, "canAsk", "(III)Z"⟩
abbrev cX12_wrongRows : ByteArray := prog_14_method_88_code
def yX12_wrongRows : MethodName := ⟨RX12, "wrongRows", "(IIIZ)I"⟩
abbrev cX12_wrong : ByteArray := prog_14_method_89_code
def yX12_wrong : MethodName := ⟨RX12, "wrong", "(III)I"⟩
abbrev cX12_against : ByteArray := prog_14_method_90_code
def yX12_against : MethodName := ⟨RX12, "against", "(III)I"⟩
abbrev cX12_areAllRight : ByteArray := prog_14_method_91_code
def yX12_areAllRight : MethodName := ⟨RX12, "areAllRight", "(III)Z"⟩
abbrev cX12_told : ByteArray := prog_14_method_92_code
def yX12_told : MethodName := ⟨RX12, "told", "(I)I"⟩
abbrev cX12_mendsOne : ByteArray := prog_14_method_93_code
def yX12_mendsOne : MethodName := ⟨RX12, "mendsOne", "(IIIZ)Z"⟩
abbrev cX12_mendsTwo : ByteArray := prog_14_method_94_code
def yX12_mendsTwo : MethodName := ⟨RX12, "mendsTwo", "(IIII)Z"⟩
abbrev cX12_mend : ByteArray := prog_14_method_95_code
def yX12_mend : MethodName := ⟨RX12, "mend", "(III)I"⟩
abbrev cX12_lossOf : ByteArray := prog_14_method_96_code
def yX12_lossOf : MethodName := ⟨RX12, "lossOf", "(IIIII)I"⟩
abbrev cX12_loss : ByteArray := prog_14_method_97_code
def yX12_loss : MethodName := ⟨RX12, "loss", "(IIII)I"⟩
abbrev cX12_blind : ByteArray := prog_14_method_98_code
def yX12_blind : MethodName := ⟨RX12, "blind", "(II)I"⟩
abbrev cX12_adds : ByteArray := prog_14_method_99_code
def yX12_adds : MethodName := ⟨RX12, "adds", "(IIIII)I"⟩
abbrev cX12_layPaths : ByteArray := prog_14_method_100_code
def yX12_layPaths : MethodName := ⟨RX12, "layPaths", "(I)V"⟩
abbrev cX12_paths : ByteArray := prog_14_method_101_code
def yX12_paths : MethodName := ⟨RX12, "paths", "(III)I"⟩
abbrev cX12_meet : ByteArray := prog_14_method_102_code
def yX12_meet : MethodName := ⟨RX12, "meet", "(III)I"⟩
abbrev cX12_spread : ByteArray := prog_14_method_103_code
def yX12_spread : MethodName := ⟨RX12, "spread", "(II)I"⟩
abbrev cX12_wider : ByteArray := prog_14_method_104_code
def yX12_wider : MethodName := ⟨RX12, "wider", "(I)I"⟩
abbrev cX12_isInRing : ByteArray := prog_14_method_105_code
def yX12_isInRing : MethodName := ⟨RX12, "isInRing", "(I)Z"⟩
abbrev cX12_ring : ByteArray := prog_14_method_106_code
def yX12_ring : MethodName := ⟨RX12, "ring", "()I"⟩
abbrev cX12_pair : ByteArray := prog_14_method_107_code
def yX12_pair : MethodName := ⟨RX12, "pair", "(II)I"⟩
abbrev cX12_hush : ByteArray := prog_14_method_108_code
def yX12_hush : MethodName := ⟨RX12, "hush", "()I"⟩
abbrev cX12_made : ByteArray := prog_14_method_109_code
def yX12_made : MethodName := ⟨RX12, "made", "(II)I"⟩
abbrev cX12_doesChain : ByteArray := prog_14_method_110_code
def yX12_doesChain : MethodName := ⟨RX12, "doesChain", "(II)Z"⟩
abbrev cX12_chain : ByteArray := prog_14_method_111_code
def yX12_chain : MethodName := ⟨RX12, "chain", "()I"⟩
abbrev cX12_sight : ByteArray := prog_14_method_112_code
def yX12_sight : MethodName := ⟨RX12, "sight", "(III)I"⟩
abbrev cX12_untell : ByteArray := prog_14_method_113_code
def yX12_untell : MethodName := ⟨RX12, "untell", "(I)Z"⟩
abbrev cX12_later : ByteArray := prog_14_method_114_code
def yX12_later : MethodName := ⟨RX12, "later", "(I)I"⟩
abbrev cX12_counts : ByteArray := prog_14_method_115_code
def yX12_counts : MethodName := ⟨RX12, "counts", "(II)Z"⟩
abbrev cX12_lastBeat : ByteArray := prog_14_method_116_code
def yX12_lastBeat : MethodName := ⟨RX12, "lastBeat", "(I)I"⟩
abbrev cX12_areSo : ByteArray := prog_14_method_117_code
def yX12_areSo : MethodName := ⟨RX12, "areSo", "(I)Z"⟩
abbrev cX12_countBegun : ByteArray := prog_14_method_118_code
def yX12_countBegun : MethodName := ⟨RX12, "countBegun", "(II)I"⟩
abbrev cX12_begun : ByteArray := prog_14_method_119_code
def yX12_begun : MethodName := ⟨RX12, "begun", "(II)I"⟩
abbrev cX12_sure : ByteArray := prog_14_method_120_code
def yX12_sure : MethodName := ⟨RX12, "sure", "(III)I"⟩
abbrev cX12_image : ByteArray := prog_14_method_121_code
def yX12_image : MethodName := ⟨RX12, "image", "(I)I"⟩
abbrev cX12_back : ByteArray := prog_14_method_122_code
def yX12_back : MethodName := ⟨RX12, "back", "(I)I"⟩
abbrev cX12_about : ByteArray := prog_14_method_123_code
def yX12_about : MethodName := ⟨RX12, "about", "(I)I"⟩
abbrev cX12_feed : ByteArray := prog_14_method_124_code
def yX12_feed : MethodName := ⟨RX12, "feed", "(IIIII)I"⟩
abbrev cX12_end : ByteArray := prog_14_method_125_code
def yX12_end : MethodName := ⟨RX12, "end", "(I)I"⟩
def RJ11 : String := "java/lang/Character"
def TJ11 : u_T := fun k => match k with
  | _ => ("", "", "", false)
def tyJ11 : Nat → FieldType := fun k => match k with
  | _ => .int
abbrev wsJ110 : List Cond := u_ws RJ11 TJ11 0
theorem nmJ11 : ∀ a, a < 0 → ∀ b, b < 0 → a ≠ b → (TJ11 a).2.1 ≠ (TJ11 b).2.1 := by decide +kernel
theorem tyJ11_ok : ∀ k, k < 0 → parseFieldDescriptor (TJ11 k).2.2.1 = some (tyJ11 k) := by decide +kernel
abbrev cJ11_isValidCodePoint_9a6ad : ByteArray := prog_15_method_11_code
def yJ11_isValidCodePoint_9a6ad : MethodName := ⟨RJ11, "isValidCodePoint", "(I)Z"⟩
abbrev cJ11_highSurrogate_5068e : ByteArray := prog_15_method_28_code
def yJ11_highSurrogate_5068e : MethodName := ⟨RJ11, "highSurrogate", "(I)C"⟩
abbrev cJ11_lowSurrogate_5068e : ByteArray := prog_15_method_29_code
def yJ11_lowSurrogate_5068e : MethodName := ⟨RJ11, "lowSurrogate", "(I)C"⟩
def RJ9 : String := "java/lang/Math"
def TJ9 : u_T := fun k => match k with
  | _ => ("", "", "", false)
def tyJ9 : Nat → FieldType := fun k => match k with
  | _ => .int
abbrev wsJ90 : List Cond := u_ws RJ9 TJ9 0
theorem nmJ9 : ∀ a, a < 0 → ∀ b, b < 0 → a ≠ b → (TJ9 a).2.1 ≠ (TJ9 b).2.1 := by decide +kernel
theorem tyJ9_ok : ∀ k, k < 0 → parseFieldDescriptor (TJ9 k).2.2.1 = some (tyJ9 k) := by decide +kernel
abbrev cJ9_max_7cf53 : ByteArray := prog_16_method_65_code
def yJ9_max_7cf53 : MethodName := ⟨RJ9, "max", "(II)I"⟩
abbrev cJ9_min_7cf53 : ByteArray := prog_16_method_69_code
def yJ9_min_7cf53 : MethodName := ⟨RJ9, "min", "(II)I"⟩
def RJ0 : String := "java/lang/String"
def TJ0 : u_T := fun k => match k with
  | _ => ("", "", "", false)
def tyJ0 : Nat → FieldType := fun k => match k with
  | _ => .int
abbrev wsJ00 : List Cond := u_ws RJ0 TJ0 0
theorem nmJ0 : ∀ a, a < 0 → ∀ b, b < 0 → a ≠ b → (TJ0 a).2.1 ≠ (TJ0 b).2.1 := by decide +kernel
theorem tyJ0_ok : ∀ k, k < 0 → parseFieldDescriptor (TJ0 k).2.2.1 = some (tyJ0 k) := by decide +kernel
abbrev cJ0_length_8abf5 : ByteArray := prog_17_method_54_code
def yJ0_length_8abf5 : MethodName := ⟨RJ0, "length", "()I"⟩
abbrev cJ0_charAt_5068e : ByteArray := prog_17_method_56_code
def yJ0_charAt_5068e : MethodName := ⟨RJ0, "charAt", "(I)C"⟩
abbrev cJ0_indexOf_0f7a4 : ByteArray := prog_17_method_79_code
def yJ0_indexOf_0f7a4 : MethodName := ⟨RJ0, "indexOf", "(I)I"⟩
abbrev cJ0_indexOf_7cf53 : ByteArray := prog_17_method_80_code
def yJ0_indexOf_7cf53 : MethodName := ⟨RJ0, "indexOf", "(II)I"⟩
abbrev cJ0_coder_7d493 : ByteArray := prog_17_method_152_code
def yJ0_coder_7d493 : MethodName := ⟨RJ0, "coder", "()B"⟩
abbrev cJ0_isLatin1_aae02 : ByteArray := prog_17_method_154_code
def yJ0_isLatin1_aae02 : MethodName := ⟨RJ0, "isLatin1", "()Z"⟩
abbrev cJ0_checkIndex_df160 : ByteArray := prog_17_method_155_code
def yJ0_checkIndex_df160 : MethodName := ⟨RJ0, "checkIndex", "(II)V"⟩
abbrev cJ0_checkBoundsBeginEnd_23922 : ByteArray := prog_17_method_158_code
def yJ0_checkBoundsBeginEnd_23922 : MethodName := ⟨RJ0, "checkBoundsBeginEnd", "(III)V"⟩
def RJ1 : String := "java/lang/StringLatin1"
def TJ1 : u_T := fun k => match k with
  | _ => ("", "", "", false)
def tyJ1 : Nat → FieldType := fun k => match k with
  | _ => .int
abbrev wsJ10 : List Cond := u_ws RJ1 TJ1 0
theorem nmJ1 : ∀ a, a < 0 → ∀ b, b < 0 → a ≠ b → (TJ1 a).2.1 ≠ (TJ1 b).2.1 := by decide +kernel
theorem tyJ1_ok : ∀ k, k < 0 → parseFieldDescriptor (TJ1 k).2.2.1 = some (tyJ1 k) := by decide +kernel
abbrev cJ1_charAt_3b067 : ByteArray := prog_18_method_2_code
def yJ1_charAt_3b067 : MethodName := ⟨RJ1, "charAt", "([BI)C"⟩
abbrev cJ1_canEncode_9a6ad : ByteArray := prog_18_method_4_code
def yJ1_canEncode_9a6ad : MethodName := ⟨RJ1, "canEncode", "(I)Z"⟩
abbrev cJ1_indexOf_4cfef : ByteArray := prog_18_method_22_code
def yJ1_indexOf_4cfef : MethodName := ⟨RJ1, "indexOf", "([BIII)I"⟩
abbrev cJ1_indexOfChar_4cfef : ByteArray := prog_18_method_23_code
def yJ1_indexOfChar_4cfef : MethodName := ⟨RJ1, "indexOfChar", "([BIII)I"⟩
def RJ2 : String := "java/lang/StringUTF16"
def TJ2 : u_T := fun k => match k with
  | _ => ("", "", "", false)
def tyJ2 : Nat → FieldType := fun k => match k with
  | _ => .int
abbrev wsJ20 : List Cond := u_ws RJ2 TJ2 0
theorem nmJ2 : ∀ a, a < 0 → ∀ b, b < 0 → a ≠ b → (TJ2 a).2.1 ≠ (TJ2 b).2.1 := by decide +kernel
theorem tyJ2_ok : ∀ k, k < 0 → parseFieldDescriptor (TJ2 k).2.2.1 = some (tyJ2 k) := by decide +kernel
abbrev cJ2_getChar_3b067 : ByteArray := prog_19_method_5_code
def yJ2_getChar_3b067 : MethodName := ⟨RJ2, "getChar", "([BI)C"⟩
abbrev cJ2_length_9d52b : ByteArray := prog_19_method_6_code
def yJ2_length_9d52b : MethodName := ⟨RJ2, "length", "([B)I"⟩
abbrev cJ2_indexOf_4cfef : ByteArray := prog_19_method_40_code
def yJ2_indexOf_4cfef : MethodName := ⟨RJ2, "indexOf", "([BIII)I"⟩
abbrev cJ2_indexOfChar_4cfef : ByteArray := prog_19_method_47_code
def yJ2_indexOfChar_4cfef : MethodName := ⟨RJ2, "indexOfChar", "([BIII)I"⟩
abbrev cJ2_indexOfCharUnsafe_4cfef : ByteArray := prog_19_method_48_code
def yJ2_indexOfCharUnsafe_4cfef : MethodName := ⟨RJ2, "indexOfCharUnsafe", "([BIII)I"⟩
abbrev cJ2_indexOfSupplementary_4cfef : ByteArray := prog_19_method_49_code
def yJ2_indexOfSupplementary_4cfef : MethodName := ⟨RJ2, "indexOfSupplementary", "([BIII)I"⟩
abbrev cJ2_charAt_3b067 : ByteArray := prog_19_method_83_code
def yJ2_charAt_3b067 : MethodName := ⟨RJ2, "charAt", "([BI)C"⟩
abbrev cJ2_checkIndex_2214a : ByteArray := prog_19_method_91_code
def yJ2_checkIndex_2214a : MethodName := ⟨RJ2, "checkIndex", "(I[B)V"⟩
abbrev cJ2_checkBoundsBeginEnd_d044e : ByteArray := prog_19_method_93_code
def yJ2_checkBoundsBeginEnd_d044e : MethodName := ⟨RJ2, "checkBoundsBeginEnd", "(II[B)V"⟩
def RJ10 : String := "java/lang/System"
def TJ10 : u_T := fun k => match k with
  | _ => ("", "", "", false)
def tyJ10 : Nat → FieldType := fun k => match k with
  | _ => .int
abbrev wsJ100 : List Cond := u_ws RJ10 TJ10 0
theorem nmJ10 : ∀ a, a < 0 → ∀ b, b < 0 → a ≠ b → (TJ10 a).2.1 ≠ (TJ10 b).2.1 := by decide +kernel
theorem tyJ10_ok : ∀ k, k < 0 → parseFieldDescriptor (TJ10 k).2.2.1 = some (tyJ10 k) := by decide +kernel
def RJ3 : String := "jdk/internal/util/Preconditions"
def TJ3 : u_T := fun k => match k with
  | _ => ("", "", "", false)
def tyJ3 : Nat → FieldType := fun k => match k with
  | _ => .int
abbrev wsJ30 : List Cond := u_ws RJ3 TJ3 0
theorem nmJ3 : ∀ a, a < 0 → ∀ b, b < 0 → a ≠ b → (TJ3 a).2.1 ≠ (TJ3 b).2.1 := by decide +kernel
theorem tyJ3_ok : ∀ k, k < 0 → parseFieldDescriptor (TJ3 k).2.2.1 = some (tyJ3 k) := by decide +kernel
abbrev cJ3_checkIndex_8e157 : ByteArray := prog_21_method_11_code
def yJ3_checkIndex_8e157 : MethodName := ⟨RJ3, "checkIndex", "(IILjava/util/function/BiFunction;)I"⟩
abbrev cJ3_checkFromToIndex_8c36e : ByteArray := prog_21_method_12_code
def yJ3_checkFromToIndex_8c36e : MethodName := ⟨RJ3, "checkFromToIndex", "(IIILjava/util/function/BiFunction;)I"⟩
def RL : String := "GeeseSumsLaw"
abbrev cL_law : ByteArray := code
def yL_law : MethodName := ⟨RL, "law", "([I)Z"⟩
abbrev vwCl : List vw_C := [(RX0, TX0, 4), (RX1, TX1, 5), (RX2, TX2, 10), (RX3, TX3, 2), (RX4, TX4, 19), (RX5, TX5, 9), (RX6, TX6, 2), (RX7, TX7, 11), (RX8, TX8, 11), (RX9, TX9, 11), (RX10, TX10, 4), (RX11, TX11, 15), (RX12, TX12, 74)]
end
section
/-! numbers for values, cells, code -/
abbrev AV : Type := Nat × Int
abbrev SHP : Type := List (Nat × Nat)
abbrev MEM : Type := Int → Int → Int
abbrev INS : Type := Nat × Nat × Jvm.ClassFile.Instr × Nat × List Nat
abbrev RES : Type := Int → SHP → MEM → MEM → Prop
abbrev CLL : Type := Nat → List AV → SHP → MEM → MEM → Nat → Nat → RES → Prop
abbrev NXT : Type := List AV → List AV → SHP → MEM → MEM → Nat → Nat → Prop
end
section
/-! THE CODE, a method a list: (place, pc, instruction, its length, what it links), by program out of the printed rows that decode it -/
set_option maxRecDepth 20000 in
def kX0_init : List INS := [(0, 0, .aload_n 0, 1, []), (1, 1, .invokespecial 1, 3, [9, 0, 0, 9, 0, 0, 0, 400, 147, 0, 0, 148]), (2, 4, .aload_n 0, 1, []), (3, 5, .bipush 41, 2, []), (4, 7, .anewarray 9, 3, [104, 401, 402]), (5, 10, .putfield 11, 3, [0, 0, 2, 453, 1]), (6, 13, .iconst 0, 1, []), (7, 14, .istore_n 1, 1, []), (8, 15, .iload_n 1, 1, []), (9, 16, .bipush 40, 2, []), (10, 18, .if_icmp .gt 22, 3, [20]), (11, 21, .aload_n 0, 1, []), (12, 22, .getfield 11, 3, [0, 0, 2, 453, 1]), (13, 25, .iload_n 1, 1, []), (14, 26, .new 9, 3, [8, 11, 401, 403, 130]), (15, 29, .dup, 1, []), (16, 30, .invokespecial 15, 3, [2, 66, 0, 9, 4, 286, 8, 404, 405, 0, 130, 406]), (17, 33, .aastore, 1, []), (18, 34, .iinc 1 1, 3, []), (19, 37, .goto (-22), 3, [8]), (20, 40, .return_, 1, [])]
set_option maxRecDepth 20000 in
def kX0_now : List INS := [(0, 0, .aload_n 0, 1, []), (1, 1, .getfield 11, 3, [0, 0, 2, 453, 1]), (2, 4, .aload_n 0, 1, []), (3, 5, .getfield 16, 3, [0, 1, 0, 454, 0]), (4, 8, .aaload, 1, [104]), (5, 9, .areturn, 1, [])]
set_option maxRecDepth 20000 in
def kX0_goOn : List INS := [(0, 0, .aload_n 0, 1, []), (1, 1, .getfield 11, 3, [0, 0, 2, 453, 1]), (2, 4, .aload_n 0, 1, []), (3, 5, .getfield 16, 3, [0, 1, 0, 454, 0]), (4, 8, .aaload, 1, [104]), (5, 9, .astore_n 1, 1, []), (6, 10, .aload_n 0, 1, []), (7, 11, .aload_n 0, 1, []), (8, 12, .getfield 16, 3, [0, 1, 0, 454, 0]), (9, 15, .bipush 40, 2, []), (10, 17, .if_icmp .ge 12, 3, [16]), (11, 20, .aload_n 0, 1, []), (12, 21, .getfield 16, 3, [0, 1, 0, 454, 0]), (13, 24, .iconst 1, 1, []), (14, 25, .iadd, 1, []), (15, 26, .goto 4, 3, [17]), (16, 29, .iconst 0, 1, []), (17, 30, .putfield 16, 3, [0, 1, 0, 454, 0]), (18, 33, .aload_n 0, 1, []), (19, 34, .getfield 11, 3, [0, 0, 2, 453, 1]), (20, 37, .aload_n 0, 1, []), (21, 38, .getfield 16, 3, [0, 1, 0, 454, 0]), (22, 41, .aaload, 1, [104]), (23, 42, .aload_n 1, 1, []), (24, 43, .invokevirtual 20, 3, [1, 68, 1, 9, 0, 0, 8, 962, 963, 964, 130, 965]), (25, 46, .aload_n 0, 1, []), (26, 47, .bipush 40, 2, []), (27, 49, .aload_n 0, 1, []), (28, 50, .getfield 24, 3, [0, 2, 0, 455, 0]), (29, 53, .iconst 1, 1, []), (30, 54, .iadd, 1, []), (31, 55, .invokestatic 27, 3, [4, 0, 2, 0, 0, 0, 0, 969, 749, 0, 138, 750]), (32, 58, .putfield 24, 3, [0, 2, 0, 455, 0]), (33, 61, .aload_n 0, 1, []), (34, 62, .iconst 0, 1, []), (35, 63, .putfield 33, 3, [0, 3, 0, 457, 0]), (36, 66, .aload_n 0, 1, []), (37, 67, .getfield 11, 3, [0, 0, 2, 453, 1]), (38, 70, .aload_n 0, 1, []), (39, 71, .getfield 16, 3, [0, 1, 0, 454, 0]), (40, 74, .aaload, 1, [104]), (41, 75, .areturn, 1, [])]
set_option maxRecDepth 20000 in
def kX0_takeBack : List INS := [(0, 0, .aload_n 0, 1, []), (1, 1, .getfield 24, 3, [0, 2, 0, 455, 0]), (2, 4, .ifCond .ne 5, 3, [5]), (3, 7, .iconst 0, 1, []), (4, 8, .ireturn, 1, [5]), (5, 9, .aload_n 0, 1, []), (6, 10, .aload_n 0, 1, []), (7, 11, .getfield 16, 3, [0, 1, 0, 454, 0]), (8, 14, .ifCond .le 12, 3, [14]), (9, 17, .aload_n 0, 1, []), (10, 18, .getfield 16, 3, [0, 1, 0, 454, 0]), (11, 21, .iconst 1, 1, []), (12, 22, .isub, 1, []), (13, 23, .goto 5, 3, [15]), (14, 26, .bipush 40, 2, []), (15, 28, .putfield 16, 3, [0, 1, 0, 454, 0]), (16, 31, .aload_n 0, 1, []), (17, 32, .dup, 1, []), (18, 33, .getfield 24, 3, [0, 2, 0, 455, 0]), (19, 36, .iconst 1, 1, []), (20, 37, .isub, 1, []), (21, 38, .putfield 24, 3, [0, 2, 0, 455, 0]), (22, 41, .aload_n 0, 1, []), (23, 42, .dup, 1, []), (24, 43, .getfield 33, 3, [0, 3, 0, 457, 0]), (25, 46, .iconst 1, 1, []), (26, 47, .iadd, 1, []), (27, 48, .putfield 33, 3, [0, 3, 0, 457, 0]), (28, 51, .iconst 1, 1, []), (29, 52, .ireturn, 1, [5])]
set_option maxRecDepth 20000 in
def kX0_doAgain : List INS := [(0, 0, .aload_n 0, 1, []), (1, 1, .getfield 33, 3, [0, 3, 0, 457, 0]), (2, 4, .ifCond .ne 5, 3, [5]), (3, 7, .iconst 0, 1, []), (4, 8, .ireturn, 1, [5]), (5, 9, .aload_n 0, 1, []), (6, 10, .aload_n 0, 1, []), (7, 11, .getfield 16, 3, [0, 1, 0, 454, 0]), (8, 14, .bipush 40, 2, []), (9, 16, .if_icmp .ge 12, 3, [15]), (10, 19, .aload_n 0, 1, []), (11, 20, .getfield 16, 3, [0, 1, 0, 454, 0]), (12, 23, .iconst 1, 1, []), (13, 24, .iadd, 1, []), (14, 25, .goto 4, 3, [16]), (15, 28, .iconst 0, 1, []), (16, 29, .putfield 16, 3, [0, 1, 0, 454, 0]), (17, 32, .aload_n 0, 1, []), (18, 33, .dup, 1, []), (19, 34, .getfield 24, 3, [0, 2, 0, 455, 0]), (20, 37, .iconst 1, 1, []), (21, 38, .iadd, 1, []), (22, 39, .putfield 24, 3, [0, 2, 0, 455, 0]), (23, 42, .aload_n 0, 1, []), (24, 43, .dup, 1, []), (25, 44, .getfield 33, 3, [0, 3, 0, 457, 0]), (26, 47, .iconst 1, 1, []), (27, 48, .isub, 1, []), (28, 49, .putfield 33, 3, [0, 3, 0, 457, 0]), (29, 52, .iconst 1, 1, []), (30, 53, .ireturn, 1, [5])]
set_option maxRecDepth 20000 in
def kX0_restart : List INS := [(0, 0, .aload_n 0, 1, []), (1, 1, .getfield 11, 3, [0, 0, 2, 453, 1]), (2, 4, .aload_n 0, 1, []), (3, 5, .getfield 16, 3, [0, 1, 0, 454, 0]), (4, 8, .aaload, 1, [104]), (5, 9, .iload_n 1, 1, []), (6, 10, .invokevirtual 36, 3, [1, 67, 1, 9, 0, 0, 8, 894, 895, 896, 130, 897]), (7, 13, .aload_n 0, 1, []), (8, 14, .iconst 0, 1, []), (9, 15, .putfield 24, 3, [0, 2, 0, 455, 0]), (10, 18, .aload_n 0, 1, []), (11, 19, .iconst 0, 1, []), (12, 20, .putfield 33, 3, [0, 3, 0, 457, 0]), (13, 23, .return_, 1, [])]
set_option maxRecDepth 20000 in
def kX0_restartFrom : List INS := [(0, 0, .aload_n 0, 1, []), (1, 1, .getfield 11, 3, [0, 0, 2, 453, 1]), (2, 4, .aload_n 0, 1, []), (3, 5, .getfield 16, 3, [0, 1, 0, 454, 0]), (4, 8, .aaload, 1, [104]), (5, 9, .aload_n 1, 1, []), (6, 10, .invokevirtual 20, 3, [1, 68, 1, 9, 0, 0, 8, 962, 963, 964, 130, 965]), (7, 13, .aload_n 0, 1, []), (8, 14, .iconst 0, 1, []), (9, 15, .putfield 24, 3, [0, 2, 0, 455, 0]), (10, 18, .aload_n 0, 1, []), (11, 19, .iconst 0, 1, []), (12, 20, .putfield 33, 3, [0, 3, 0, 457, 0]), (13, 23, .return_, 1, [])]
set_option maxRecDepth 20000 in
def kX1_init : List INS := [(0, 0, .aload_n 0, 1, []), (1, 1, .invokespecial 3, 3, [9, 0, 0, 9, 0, 0, 0, 566, 147, 0, 0, 148]), (2, 4, .aload_n 0, 1, []), (3, 5, .aload_n 1, 1, []), (4, 6, .putfield 9, 3, [1, 4, 2, 573, 1]), (5, 9, .aload_n 0, 1, []), (6, 10, .iconst 4, 1, []), (7, 11, .newarray .int, 2, [100, 259]), (8, 13, .putfield 15, 3, [1, 1, 2, 570, 1]), (9, 16, .aload_n 0, 1, []), (10, 17, .bipush 9, 2, []), (11, 19, .iconst 4, 1, []), (12, 20, .multianewarray 19 2, 4, [105, 567, 500, 259]), (13, 24, .putfield 21, 3, [1, 2, 2, 571, 1]), (14, 27, .aload_n 0, 1, []), (15, 28, .bipush 8, 2, []), (16, 30, .newarray .int, 2, [100, 259]), (17, 32, .putfield 24, 3, [1, 3, 2, 572, 1]), (18, 35, .return_, 1, [])]
set_option maxRecDepth 20000 in
def kX1_want : List INS := [(0, 0, .aload_n 0, 1, []), (1, 1, .getfield 27, 3, [1, 0, 0, 568, 0]), (2, 4, .iconst 4, 1, []), (3, 5, .if_icmp .lt 5, 3, [6]), (4, 8, .iconst (-1), 1, []), (5, 9, .ireturn, 1, [0]), (6, 10, .aload_n 0, 1, []), (7, 11, .getfield 21, 3, [1, 2, 2, 571, 1]), (8, 14, .iconst 0, 1, []), (9, 15, .aaload, 1, [105]), (10, 16, .aload_n 0, 1, []), (11, 17, .getfield 27, 3, [1, 0, 0, 568, 0]), (12, 20, .iload_n 1, 1, []), (13, 21, .iastore, 1, []), (14, 22, .aload_n 0, 1, []), (15, 23, .getfield 15, 3, [1, 1, 2, 570, 1]), (16, 26, .aload_n 0, 1, []), (17, 27, .getfield 27, 3, [1, 0, 0, 568, 0]), (18, 30, .iload_n 2, 1, []), (19, 31, .iastore, 1, []), (20, 32, .aload_n 0, 1, []), (21, 33, .dup, 1, []), (22, 34, .getfield 27, 3, [1, 0, 0, 568, 0]), (23, 37, .iconst 1, 1, []), (24, 38, .iadd, 1, []), (25, 39, .putfield 27, 3, [1, 0, 0, 568, 0]), (26, 42, .aload_n 0, 1, []), (27, 43, .getfield 27, 3, [1, 0, 0, 568, 0]), (28, 46, .ireturn, 1, [0])]
set_option maxRecDepth 20000 in
def kX1_shortest : List INS := [(0, 0, .iconst 0, 1, []), (1, 1, .istore_n 1, 1, []), (2, 2, .iload_n 1, 1, []), (3, 3, .bipush 8, 2, []), (4, 5, .if_icmp .gt 46, 3, [28]), (5, 8, .aload_n 0, 1, []), (6, 9, .iconst 0, 1, []), (7, 10, .iload_n 1, 1, []), (8, 11, .invokevirtual 31, 3, [1, 10, 2, 5, 0, 0, 1, 1234, 1236, 39, 135, 1237]), (9, 14, .ifCond .eq 31, 3, [26]), (10, 17, .iconst 0, 1, []), (11, 18, .istore_n 2, 1, []), (12, 19, .iload_n 2, 1, []), (13, 20, .iload_n 1, 1, []), (14, 21, .if_icmp .ge 22, 3, [24]), (15, 24, .aload_n 0, 1, []), (16, 25, .getfield 9, 3, [1, 4, 2, 573, 1]), (17, 28, .aload_n 0, 1, []), (18, 29, .getfield 24, 3, [1, 3, 2, 572, 1]), (19, 32, .iload_n 2, 1, []), (20, 33, .iaload, 1, []), (21, 34, .invokevirtual 35, 3, [1, 21, 1, 9, 0, 0, 3, 1246, 1122, 1123, 133, 1124]), (22, 37, .iinc 2 1, 3, []), (23, 40, .goto (-21), 3, [12]), (24, 43, .iload_n 1, 1, []), (25, 44, .ireturn, 1, [0]), (26, 45, .iinc 1 1, 3, []), (27, 48, .goto (-46), 3, [2]), (28, 51, .iconst (-1), 1, []), (29, 52, .ireturn, 1, [0])]
set_option maxRecDepth 20000 in
def kX1_search : List INS := [(0, 0, .aload_n 0, 1, []), (1, 1, .iload_n 1, 1, []), (2, 2, .iload_n 2, 1, []), (3, 3, .invokevirtual 41, 3, [1, 11, 2, 5, 0, 0, 1, 1238, 1240, 40, 135, 1241]), (4, 6, .ifCond .ne 5, 3, [7]), (5, 9, .iconst 0, 1, []), (6, 10, .ireturn, 1, [5]), (7, 11, .iload_n 2, 1, []), (8, 12, .ifCond .le 9, 3, [12]), (9, 15, .iload_n 1, 1, []), (10, 16, .bipush 8, 2, []), (11, 18, .if_icmp .lt 13, 3, [18]), (12, 21, .iload_n 2, 1, []), (13, 22, .ifCond .ne 7, 3, [16]), (14, 25, .iconst 1, 1, []), (15, 26, .goto 4, 3, [17]), (16, 29, .iconst 0, 1, []), (17, 30, .ireturn, 1, [5]), (18, 31, .iconst 0, 1, []), (19, 32, .istore_n 3, 1, []), (20, 33, .iload_n 3, 1, []), (21, 34, .iconst 4, 1, []), (22, 35, .if_icmp .ge 73, 3, [65]), (23, 38, .iconst 0, 1, []), (24, 39, .istore 4, 2, []), (25, 41, .iload 4, 2, []), (26, 43, .aload_n 0, 1, []), (27, 44, .getfield 27, 3, [1, 0, 0, 568, 0]), (28, 47, .if_icmp .ge 33, 3, [47]), (29, 50, .aload_n 0, 1, []), (30, 51, .getfield 21, 3, [1, 2, 2, 571, 1]), (31, 54, .iload_n 1, 1, []), (32, 55, .iconst 1, 1, []), (33, 56, .iadd, 1, []), (34, 57, .aaload, 1, [105]), (35, 58, .iload 4, 2, []), (36, 60, .iload_n 3, 1, []), (37, 61, .aload_n 0, 1, []), (38, 62, .getfield 21, 3, [1, 2, 2, 571, 1]), (39, 65, .iload_n 1, 1, []), (40, 66, .aaload, 1, [105]), (41, 67, .iload 4, 2, []), (42, 69, .iaload, 1, []), (43, 70, .invokestatic 44, 3, [0, 12, 2, 0, 0, 0, 0, 1243, 1244, 0, 135, 1245]), (44, 73, .iastore, 1, []), (45, 74, .iinc 4 1, 3, []), (46, 77, .goto (-36), 3, [25]), (47, 80, .aload_n 0, 1, []), (48, 81, .getfield 24, 3, [1, 3, 2, 572, 1]), (49, 84, .iload_n 1, 1, []), (50, 85, .iload_n 3, 1, []), (51, 86, .iastore, 1, []), (52, 87, .aload_n 0, 1, []), (53, 88, .iload_n 1, 1, []), (54, 89, .iconst 1, 1, []), (55, 90, .iadd, 1, []), (56, 91, .iload_n 2, 1, []), (57, 92, .iconst 1, 1, []), (58, 93, .isub, 1, []), (59, 94, .invokevirtual 31, 3, [1, 10, 2, 5, 0, 0, 1, 1234, 1236, 39, 135, 1237]), (60, 97, .ifCond .eq 5, 3, [63]), (61, 100, .iconst 1, 1, []), (62, 101, .ireturn, 1, [5]), (63, 102, .iinc 3 1, 3, []), (64, 105, .goto (-72), 3, [20]), (65, 108, .iconst 0, 1, []), (66, 109, .ireturn, 1, [5])]
set_option maxRecDepth 20000 in
def kX1_isInReach : List INS := [(0, 0, .iconst 0, 1, []), (1, 1, .istore_n 3, 1, []), (2, 2, .iload_n 3, 1, []), (3, 3, .aload_n 0, 1, []), (4, 4, .getfield 27, 3, [1, 0, 0, 568, 0]), (5, 7, .if_icmp .ge 84, 3, [51]), (6, 10, .aload_n 0, 1, []), (7, 11, .getfield 21, 3, [1, 2, 2, 571, 1]), (8, 14, .iload_n 1, 1, []), (9, 15, .aaload, 1, [105]), (10, 16, .iload_n 3, 1, []), (11, 17, .iaload, 1, []), (12, 18, .istore 4, 2, []), (13, 20, .iload 4, 2, []), (14, 22, .istore 5, 2, []), (15, 24, .iconst 0, 1, []), (16, 25, .istore 6, 2, []), (17, 27, .iload 6, 2, []), (18, 29, .iload_n 2, 1, []), (19, 30, .if_icmp .ge 29, 3, [33]), (20, 33, .iload 6, 2, []), (21, 35, .bipush 8, 2, []), (22, 37, .if_icmp .ge 22, 3, [33]), (23, 40, .iload 5, 2, []), (24, 42, .iconst 1, 1, []), (25, 43, .iadd, 1, []), (26, 44, .iconst 2, 1, []), (27, 45, .iload 5, 2, []), (28, 47, .imul, 1, []), (29, 48, .invokestatic 48, 3, [3, 0, 2, 0, 0, 0, 0, 1242, 746, 0, 138, 747]), (30, 51, .istore 5, 2, []), (31, 53, .iinc 6 1, 3, []), (32, 56, .goto (-29), 3, [17]), (33, 59, .aload_n 0, 1, []), (34, 60, .getfield 15, 3, [1, 1, 2, 570, 1]), (35, 63, .iload_n 3, 1, []), (36, 64, .iaload, 1, []), (37, 65, .iload 4, 2, []), (38, 67, .iload_n 2, 1, []), (39, 68, .ishr, 1, []), (40, 69, .if_icmp .lt 14, 3, [47]), (41, 72, .aload_n 0, 1, []), (42, 73, .getfield 15, 3, [1, 1, 2, 570, 1]), (43, 76, .iload_n 3, 1, []), (44, 77, .iaload, 1, []), (45, 78, .iload 5, 2, []), (46, 80, .if_icmp .le 5, 3, [49]), (47, 83, .iconst 0, 1, []), (48, 84, .ireturn, 1, [5]), (49, 85, .iinc 3 1, 3, []), (50, 88, .goto (-86), 3, [2]), (51, 91, .iconst 1, 1, []), (52, 92, .ireturn, 1, [5])]
set_option maxRecDepth 20000 in
def kX1_made : List INS := [(0, 0, .iload_n 0, 1, []), (1, 1, .tableswitch 43 0 2 #[27, 31, 35], 27, [16, 2, 6, 10]), (2, 28, .iload_n 1, 1, []), (3, 29, .iconst 2, 1, []), (4, 30, .idiv, 1, []), (5, 31, .ireturn, 1, [0]), (6, 32, .iload_n 1, 1, []), (7, 33, .iconst 1, 1, []), (8, 34, .iadd, 1, []), (9, 35, .ireturn, 1, [0]), (10, 36, .iconst 0, 1, []), (11, 37, .iload_n 1, 1, []), (12, 38, .iconst 1, 1, []), (13, 39, .isub, 1, []), (14, 40, .invokestatic 48, 3, [3, 0, 2, 0, 0, 0, 0, 1242, 746, 0, 138, 747]), (15, 43, .ireturn, 1, [0]), (16, 44, .iload_n 1, 1, []), (17, 45, .iconst 2, 1, []), (18, 46, .imul, 1, []), (19, 47, .ireturn, 1, [0])]
set_option maxRecDepth 20000 in
def kX2_init : List INS := [(0, 0, .aload_n 0, 1, []), (1, 1, .invokespecial 3, 3, [9, 0, 0, 9, 0, 0, 0, 529, 147, 0, 0, 148]), (2, 4, .aload_n 0, 1, []), (3, 5, .aload_n 1, 1, []), (4, 6, .putfield 9, 3, [2, 0, 2, 530, 1]), (5, 9, .aload_n 0, 1, []), (6, 10, .aload_n 2, 1, []), (7, 11, .putfield 15, 3, [2, 1, 2, 531, 1]), (8, 14, .aload_n 0, 1, []), (9, 15, .aload_n 3, 1, []), (10, 16, .putfield 19, 3, [2, 2, 2, 532, 1]), (11, 19, .aload_n 0, 1, []), (12, 20, .iconst 3, 1, []), (13, 21, .newarray .int, 2, [100, 259]), (14, 23, .putfield 25, 3, [2, 3, 2, 533, 1]), (15, 26, .return_, 1, [])]
set_option maxRecDepth 20000 in
def kX2_ask : List INS := [(0, 0, .aload_n 0, 1, []), (1, 1, .iload_n 2, 1, []), (2, 2, .putfield 29, 3, [2, 4, 0, 534, 0]), (3, 5, .aload_n 0, 1, []), (4, 6, .iload_n 3, 1, []), (5, 7, .putfield 33, 3, [2, 5, 0, 535, 0]), (6, 10, .aload_n 0, 1, []), (7, 11, .iload 4, 2, []), (8, 13, .putfield 36, 3, [2, 6, 0, 536, 0]), (9, 16, .aload_n 0, 1, []), (10, 17, .aload_n 1, 1, []), (11, 18, .aload_n 0, 1, []), (12, 19, .getfield 33, 3, [2, 5, 0, 535, 0]), (13, 22, .invokevirtual 39, 3, [1, 29, 1, 0, 0, 0, 4, 1086, 1087, 1088, 122, 1089]), (14, 25, .putfield 43, 3, [2, 7, 0, 537, 0]), (15, 28, .aload_n 0, 1, []), (16, 29, .iconst 0, 1, []), (17, 30, .putfield 45, 3, [2, 8, 0, 538, 0]), (18, 33, .aload_n 0, 1, []), (19, 34, .aload_n 0, 1, []), (20, 35, .getfield 15, 3, [2, 1, 2, 531, 1]), (21, 38, .aload_n 1, 1, []), (22, 39, .aload_n 1, 1, []), (23, 40, .getfield 48, 3, [4, 12, 2, 209, 1]), (24, 43, .aload_n 0, 1, []), (25, 44, .getfield 29, 3, [2, 4, 0, 534, 0]), (26, 47, .iaload, 1, []), (27, 48, .invokevirtual 51, 3, [1, 59, 2, 0, 0, 0, 6, 1090, 1091, 1092, 132, 1093]), (28, 51, .putfield 57, 3, [2, 9, 0, 539, 0]), (29, 54, .aload_n 0, 1, []), (30, 55, .getfield 43, 3, [2, 7, 0, 537, 0]), (31, 58, .ireturn, 1, [0])]
set_option maxRecDepth 20000 in
def kX2_wrongFrom : List INS := [(0, 0, .iconst 0, 1, []), (1, 1, .istore 4, 2, []), (2, 3, .iload 4, 2, []), (3, 5, .iload_n 3, 1, []), (4, 6, .if_icmp .ge 95, 3, [53]), (5, 9, .iload_n 2, 1, []), (6, 10, .iload 4, 2, []), (7, 12, .iadd, 1, []), (8, 13, .aload_n 0, 1, []), (9, 14, .getfield 43, 3, [2, 7, 0, 537, 0]), (10, 17, .if_icmp .ge 10, 3, [15]), (11, 20, .iload_n 2, 1, []), (12, 21, .iload 4, 2, []), (13, 23, .iadd, 1, []), (14, 24, .goto 12, 3, [21]), (15, 27, .iload_n 2, 1, []), (16, 28, .iload 4, 2, []), (17, 30, .iadd, 1, []), (18, 31, .aload_n 0, 1, []), (19, 32, .getfield 43, 3, [2, 7, 0, 537, 0]), (20, 35, .isub, 1, []), (21, 36, .istore 5, 2, []), (22, 38, .aload_n 1, 1, []), (23, 39, .aload_n 0, 1, []), (24, 40, .getfield 25, 3, [2, 3, 2, 533, 1]), (25, 43, .aload_n 0, 1, []), (26, 44, .getfield 33, 3, [2, 5, 0, 535, 0]), (27, 47, .iload 5, 2, []), (28, 49, .invokevirtual 60, 3, [1, 30, 3, 9, 0, 0, 4, 1106, 1107, 1108, 122, 1109]), (29, 52, .aload_n 1, 1, []), (30, 53, .aload_n 0, 1, []), (31, 54, .getfield 29, 3, [2, 4, 0, 534, 0]), (32, 57, .aload_n 0, 1, []), (33, 58, .getfield 25, 3, [2, 3, 2, 533, 1]), (34, 61, .invokevirtual 64, 3, [1, 31, 2, 0, 0, 0, 4, 1111, 1068, 1069, 122, 1070]), (35, 64, .aload_n 0, 1, []), (36, 65, .getfield 9, 3, [2, 0, 2, 530, 1]), (37, 68, .aload_n 1, 1, []), (38, 69, .aload_n 0, 1, []), (39, 70, .getfield 25, 3, [2, 3, 2, 533, 1]), (40, 73, .aload_n 1, 1, []), (41, 74, .getfield 48, 3, [4, 12, 2, 209, 1]), (42, 77, .aload_n 0, 1, []), (43, 78, .getfield 29, 3, [2, 4, 0, 534, 0]), (44, 81, .iaload, 1, []), (45, 82, .aload_n 0, 1, []), (46, 83, .getfield 36, 3, [2, 6, 0, 536, 0]), (47, 86, .invokevirtual 68, 3, [1, 97, 4, 0, 0, 0, 10, 1112, 1037, 1038, 131, 1039]), (48, 89, .if_icmp .eq 6, 3, [51]), (49, 92, .iload 5, 2, []), (50, 94, .ireturn, 1, [0]), (51, 95, .iinc 4 1, 3, []), (52, 98, .goto (-95), 3, [2]), (53, 101, .iconst (-1), 1, []), (54, 102, .ireturn, 1, [0])]
set_option maxRecDepth 20000 in
def kX2_wrongOnes : List INS := [(0, 0, .iconst 0, 1, []), (1, 1, .istore_n 2, 1, []), (2, 2, .iconst 0, 1, []), (3, 3, .istore_n 3, 1, []), (4, 4, .iload_n 3, 1, []), (5, 5, .aload_n 0, 1, []), (6, 6, .getfield 43, 3, [2, 7, 0, 537, 0]), (7, 9, .if_icmp .ge 23, 3, [18]), (8, 12, .aload_n 0, 1, []), (9, 13, .aload_n 1, 1, []), (10, 14, .iload_n 3, 1, []), (11, 15, .iconst 1, 1, []), (12, 16, .invokevirtual 74, 3, [1, 15, 3, 0, 0, 0, 2, 1102, 1104, 34, 134, 1105]), (13, 19, .iconst (-1), 1, []), (14, 20, .if_icmp .eq 6, 3, [16]), (15, 23, .iinc 2 1, 3, []), (16, 26, .iinc 3 1, 3, []), (17, 29, .goto (-25), 3, [4]), (18, 32, .iload_n 2, 1, []), (19, 33, .ireturn, 1, [0])]
set_option maxRecDepth 20000 in
def kX2_firstAgainst : List INS := [(0, 0, .aload_n 0, 1, []), (1, 1, .aload_n 1, 1, []), (2, 2, .iconst 0, 1, []), (3, 3, .aload_n 0, 1, []), (4, 4, .getfield 43, 3, [2, 7, 0, 537, 0]), (5, 7, .invokevirtual 74, 3, [1, 15, 3, 0, 0, 0, 2, 1102, 1104, 34, 134, 1105]), (6, 10, .istore_n 2, 1, []), (7, 11, .iconst 0, 1, []), (8, 12, .istore_n 3, 1, []), (9, 13, .iload_n 3, 1, []), (10, 14, .aload_n 1, 1, []), (11, 15, .getfield 78, 3, [4, 5, 0, 174, 0]), (12, 18, .if_icmp .ge 27, 3, [25]), (13, 21, .iload_n 2, 1, []), (14, 22, .iconst (-1), 1, []), (15, 23, .if_icmp .eq 22, 3, [25]), (16, 26, .aload_n 0, 1, []), (17, 27, .getfield 19, 3, [2, 2, 2, 532, 1]), (18, 30, .aload_n 0, 1, []), (19, 31, .getfield 25, 3, [2, 3, 2, 533, 1]), (20, 34, .iload_n 3, 1, []), (21, 35, .iaload, 1, []), (22, 36, .invokevirtual 81, 3, [1, 21, 1, 9, 0, 0, 3, 1121, 1122, 1123, 133, 1124]), (23, 39, .iinc 3 1, 3, []), (24, 42, .goto (-29), 3, [9]), (25, 45, .iload_n 2, 1, []), (26, 46, .ireturn, 1, [0])]
set_option maxRecDepth 20000 in
def kX2_fewestToMend : List INS := [(0, 0, .iconst 0, 1, []), (1, 1, .istore_n 2, 1, []), (2, 2, .iload_n 2, 1, []), (3, 3, .iconst 2, 1, []), (4, 4, .if_icmp .gt 21, 3, [15]), (5, 7, .aload_n 0, 1, []), (6, 8, .aload_n 1, 1, []), (7, 9, .iconst 0, 1, []), (8, 10, .iload_n 2, 1, []), (9, 11, .invokevirtual 87, 3, [1, 19, 3, 5, 0, 0, 2, 1133, 1135, 35, 134, 1136]), (10, 14, .ifCond .eq 5, 3, [13]), (11, 17, .iload_n 2, 1, []), (12, 18, .ireturn, 1, [0]), (13, 19, .iinc 2 1, 3, []), (14, 22, .goto (-20), 3, [2]), (15, 25, .iconst (-1), 1, []), (16, 26, .ireturn, 1, [0])]
set_option maxRecDepth 20000 in
def kX2_mendFrom : List INS := [(0, 0, .iload_n 3, 1, []), (1, 1, .ifCond .le 8, 3, [5]), (2, 4, .iload_n 3, 1, []), (3, 5, .iconst 2, 1, []), (4, 6, .if_icmp .le 53, 3, [31]), (5, 9, .aload_n 0, 1, []), (6, 10, .aload_n 1, 1, []), (7, 11, .aload_n 0, 1, []), (8, 12, .getfield 45, 3, [2, 8, 0, 538, 0]), (9, 15, .aload_n 0, 1, []), (10, 16, .getfield 43, 3, [2, 7, 0, 537, 0]), (11, 19, .invokevirtual 74, 3, [1, 15, 3, 0, 0, 0, 2, 1102, 1104, 34, 134, 1105]), (12, 22, .istore 4, 2, []), (13, 24, .aload_n 0, 1, []), (14, 25, .iload 4, 2, []), (15, 27, .iconst (-1), 1, []), (16, 28, .if_icmp .ne 10, 3, [20]), (17, 31, .aload_n 0, 1, []), (18, 32, .getfield 45, 3, [2, 8, 0, 538, 0]), (19, 35, .goto 5, 3, [21]), (20, 38, .iload 4, 2, []), (21, 40, .putfield 45, 3, [2, 8, 0, 538, 0]), (22, 43, .iload_n 3, 1, []), (23, 44, .ifCond .ne 13, 3, [29]), (24, 47, .iload 4, 2, []), (25, 49, .iconst (-1), 1, []), (26, 50, .if_icmp .ne 7, 3, [29]), (27, 53, .iconst 1, 1, []), (28, 54, .goto 4, 3, [30]), (29, 57, .iconst 0, 1, []), (30, 58, .ireturn, 1, [5]), (31, 59, .iload_n 2, 1, []), (32, 60, .istore 4, 2, []), (33, 62, .iload 4, 2, []), (34, 64, .aload_n 1, 1, []), (35, 65, .getfield 91, 3, [4, 7, 0, 188, 0]), (36, 68, .if_icmp .ge 158, 3, [119]), (37, 71, .aload_n 0, 1, []), (38, 72, .getfield 57, 3, [2, 9, 0, 539, 0]), (39, 75, .iload 4, 2, []), (40, 77, .ishr, 1, []), (41, 78, .iconst 1, 1, []), (42, 79, .iand, 1, []), (43, 80, .iconst 1, 1, []), (44, 81, .if_icmp .ne 7, 3, [47]), (45, 84, .iconst 1, 1, []), (46, 85, .goto 4, 3, [48]), (47, 88, .iconst 0, 1, []), (48, 89, .istore 5, 2, []), (49, 91, .aload_n 1, 1, []), (50, 92, .getfield 94, 3, [4, 10, 2, 203, 1]), (51, 95, .iload 4, 2, []), (52, 97, .iaload, 1, []), (53, 98, .istore 6, 2, []), (54, 100, .iconst 0, 1, []), (55, 101, .istore 7, 2, []), (56, 103, .iconst 1, 1, []), (57, 104, .istore 8, 2, []), (58, 106, .iload 8, 2, []), (59, 108, .bipush 9, 2, []), (60, 110, .if_icmp .gt 94, 3, [108]), (61, 113, .iload 5, 2, []), (62, 115, .ifCond .eq 89, 3, [108]), (63, 118, .iload 7, 2, []), (64, 120, .ifCond .ne 84, 3, [108]), (65, 123, .aload_n 1, 1, []), (66, 124, .getfield 94, 3, [4, 10, 2, 203, 1]), (67, 127, .iload 4, 2, []), (68, 129, .iload 8, 2, []), (69, 131, .iastore, 1, []), (70, 132, .aload_n 0, 1, []), (71, 133, .getfield 19, 3, [2, 2, 2, 532, 1]), (72, 136, .bipush 10, 2, []), (73, 138, .iload 4, 2, []), (74, 140, .imul, 1, []), (75, 141, .iload 8, 2, []), (76, 143, .iadd, 1, []), (77, 144, .invokevirtual 81, 3, [1, 21, 1, 9, 0, 0, 3, 1121, 1122, 1123, 133, 1124]), (78, 147, .iload 8, 2, []), (79, 149, .iload 6, 2, []), (80, 151, .if_icmp .eq 22, 3, [93]), (81, 154, .aload_n 0, 1, []), (82, 155, .aload_n 1, 1, []), (83, 156, .iload 4, 2, []), (84, 158, .iconst 1, 1, []), (85, 159, .iadd, 1, []), (86, 160, .iload_n 3, 1, []), (87, 161, .iconst 1, 1, []), (88, 162, .isub, 1, []), (89, 163, .invokevirtual 87, 3, [1, 19, 3, 5, 0, 0, 2, 1133, 1135, 35, 134, 1136]), (90, 166, .ifCond .eq 7, 3, [93]), (91, 169, .iconst 1, 1, []), (92, 170, .goto 4, 3, [94]), (93, 173, .iconst 0, 1, []), (94, 174, .istore 7, 2, []), (95, 176, .aload_n 0, 1, []), (96, 177, .getfield 19, 3, [2, 2, 2, 532, 1]), (97, 180, .dup, 1, []), (98, 181, .getfield 96, 3, [3, 1, 0, 518, 0]), (99, 184, .iload 7, 2, []), (100, 186, .ifCond .eq 7, 3, [103]), (101, 189, .iconst 0, 1, []), (102, 190, .goto 4, 3, [104]), (103, 193, .iconst 1, 1, []), (104, 194, .isub, 1, []), (105, 195, .putfield 96, 3, [3, 1, 0, 518, 0]), (106, 198, .iinc 8 1, 3, []), (107, 201, .goto (-95), 3, [58]), (108, 204, .aload_n 1, 1, []), (109, 205, .getfield 94, 3, [4, 10, 2, 203, 1]), (110, 208, .iload 4, 2, []), (111, 210, .iload 6, 2, []), (112, 212, .iastore, 1, []), (113, 213, .iload 7, 2, []), (114, 215, .ifCond .eq 5, 3, [117]), (115, 218, .iconst 1, 1, []), (116, 219, .ireturn, 1, [5]), (117, 220, .iinc 4 1, 3, []), (118, 223, .goto (-161), 3, [33]), (119, 226, .iconst 0, 1, []), (120, 227, .ireturn, 1, [5])]
set_option maxRecDepth 20000 in
def kX3_init : List INS := [(0, 0, .aload_n 0, 1, []), (1, 1, .invokespecial 1, 3, [9, 0, 0, 9, 0, 0, 0, 513, 147, 0, 0, 148]), (2, 4, .aload_n 0, 1, []), (3, 5, .bipush 8, 2, []), (4, 7, .newarray .int, 2, [100, 259]), (5, 9, .putfield 9, 3, [3, 0, 2, 514, 1]), (6, 12, .return_, 1, [])]
set_option maxRecDepth 20000 in
def kX3_put : List INS := [(0, 0, .aload_n 0, 1, []), (1, 1, .getfield 13, 3, [3, 1, 0, 516, 0]), (2, 4, .bipush 8, 2, []), (3, 6, .if_icmp .ge 23, 3, [16]), (4, 9, .aload_n 0, 1, []), (5, 10, .getfield 9, 3, [3, 0, 2, 514, 1]), (6, 13, .aload_n 0, 1, []), (7, 14, .getfield 13, 3, [3, 1, 0, 516, 0]), (8, 17, .iload_n 1, 1, []), (9, 18, .iastore, 1, []), (10, 19, .aload_n 0, 1, []), (11, 20, .dup, 1, []), (12, 21, .getfield 13, 3, [3, 1, 0, 516, 0]), (13, 24, .iconst 1, 1, []), (14, 25, .iadd, 1, []), (15, 26, .putfield 13, 3, [3, 1, 0, 516, 0]), (16, 29, .return_, 1, [])]
set_option maxRecDepth 20000 in
def kX4_init : List INS := [(0, 0, .aload_n 0, 1, []), (1, 1, .invokespecial 3, 3, [9, 0, 0, 9, 0, 0, 0, 154, 147, 0, 0, 148]), (2, 4, .aload_n 0, 1, []), (3, 5, .bipush 10, 2, []), (4, 7, .newarray .int, 2, [100, 259]), (5, 9, .putfield 11, 3, [4, 1, 2, 160, 1]), (6, 12, .aload_n 0, 1, []), (7, 13, .bipush 10, 2, []), (8, 15, .newarray .int, 2, [100, 259]), (9, 17, .putfield 15, 3, [4, 2, 2, 164, 1]), (10, 20, .aload_n 0, 1, []), (11, 21, .bipush 10, 2, []), (12, 23, .newarray .int, 2, [100, 259]), (13, 25, .putfield 18, 3, [4, 3, 2, 167, 1]), (14, 28, .aload_n 0, 1, []), (15, 29, .bipush 10, 2, []), (16, 31, .newarray .int, 2, [100, 259]), (17, 33, .putfield 21, 3, [4, 4, 2, 169, 1]), (18, 36, .aload_n 0, 1, []), (19, 37, .iconst 3, 1, []), (20, 38, .newarray .int, 2, [100, 259]), (21, 40, .putfield 24, 3, [4, 6, 2, 179, 1]), (22, 43, .aload_n 0, 1, []), (23, 44, .bipush 16, 2, []), (24, 46, .newarray .int, 2, [100, 259]), (25, 48, .putfield 27, 3, [4, 8, 2, 192, 1]), (26, 51, .aload_n 0, 1, []), (27, 52, .bipush 16, 2, []), (28, 54, .newarray .int, 2, [100, 259]), (29, 56, .putfield 30, 3, [4, 9, 2, 195, 1]), (30, 59, .aload_n 0, 1, []), (31, 60, .bipush 16, 2, []), (32, 62, .newarray .int, 2, [100, 259]), (33, 64, .putfield 33, 3, [4, 10, 2, 199, 1]), (34, 67, .aload_n 0, 1, []), (35, 68, .bipush 6, 2, []), (36, 70, .newarray .int, 2, [100, 259]), (37, 72, .putfield 36, 3, [4, 12, 2, 208, 1]), (38, 75, .aload_n 0, 1, []), (39, 76, .bipush 6, 2, []), (40, 78, .newarray .int, 2, [100, 259]), (41, 80, .putfield 39, 3, [4, 13, 2, 210, 1]), (42, 83, .aload_n 0, 1, []), (43, 84, .sipush 1600, 3, []), (44, 87, .newarray .int, 2, [100, 259]), (45, 89, .putfield 44, 3, [4, 14, 2, 211, 1]), (46, 92, .aload_n 0, 1, []), (47, 93, .bipush 32, 2, []), (48, 95, .newarray .int, 2, [100, 259]), (49, 97, .putfield 47, 3, [4, 16, 2, 213, 1]), (50, 100, .return_, 1, [])]
set_option maxRecDepth 20000 in
def kX4_clear : List INS := [(0, 0, .aload_n 0, 1, []), (1, 1, .iconst 0, 1, []), (2, 2, .putfield 50, 3, [4, 0, 0, 155, 0]), (3, 5, .aload_n 0, 1, []), (4, 6, .iconst 0, 1, []), (5, 7, .putfield 54, 3, [4, 5, 0, 171, 0]), (6, 10, .aload_n 0, 1, []), (7, 11, .iconst 0, 1, []), (8, 12, .putfield 57, 3, [4, 7, 0, 185, 0]), (9, 15, .aload_n 0, 1, []), (10, 16, .iconst 0, 1, []), (11, 17, .putfield 60, 3, [4, 11, 0, 205, 0]), (12, 20, .aload_n 0, 1, []), (13, 21, .iconst 0, 1, []), (14, 22, .putfield 63, 3, [4, 15, 0, 212, 0]), (15, 25, .aload_n 0, 1, []), (16, 26, .iconst 0, 1, []), (17, 27, .putfield 66, 3, [4, 17, 0, 214, 0]), (18, 30, .aload_n 0, 1, []), (19, 31, .iconst 0, 1, []), (20, 32, .putfield 69, 3, [4, 18, 0, 217, 0]), (21, 35, .return_, 1, [])]
set_option maxRecDepth 20000 in
def kX4_addTower : List INS := [(0, 0, .aload_n 0, 1, []), (1, 1, .getfield 50, 3, [4, 0, 0, 155, 0]), (2, 4, .bipush 10, 2, []), (3, 6, .if_icmp .lt 4, 3, [5]), (4, 9, .return_, 1, []), (5, 10, .aload_n 0, 1, []), (6, 11, .getfield 11, 3, [4, 1, 2, 160, 1]), (7, 14, .aload_n 0, 1, []), (8, 15, .getfield 50, 3, [4, 0, 0, 155, 0]), (9, 18, .iload_n 1, 1, []), (10, 19, .iastore, 1, []), (11, 20, .aload_n 0, 1, []), (12, 21, .getfield 15, 3, [4, 2, 2, 164, 1]), (13, 24, .aload_n 0, 1, []), (14, 25, .getfield 50, 3, [4, 0, 0, 155, 0]), (15, 28, .iload_n 2, 1, []), (16, 29, .iastore, 1, []), (17, 30, .aload_n 0, 1, []), (18, 31, .getfield 18, 3, [4, 3, 2, 167, 1]), (19, 34, .aload_n 0, 1, []), (20, 35, .getfield 50, 3, [4, 0, 0, 155, 0]), (21, 38, .iconst (-1), 1, []), (22, 39, .iastore, 1, []), (23, 40, .aload_n 0, 1, []), (24, 41, .getfield 21, 3, [4, 4, 2, 169, 1]), (25, 44, .aload_n 0, 1, []), (26, 45, .getfield 50, 3, [4, 0, 0, 155, 0]), (27, 48, .iconst (-1), 1, []), (28, 49, .iastore, 1, []), (29, 50, .iload_n 1, 1, []), (30, 51, .ifCond .ne 34, 3, [48]), (31, 54, .aload_n 0, 1, []), (32, 55, .getfield 54, 3, [4, 5, 0, 171, 0]), (33, 58, .iconst 3, 1, []), (34, 59, .if_icmp .ge 26, 3, [48]), (35, 62, .aload_n 0, 1, []), (36, 63, .getfield 24, 3, [4, 6, 2, 179, 1]), (37, 66, .aload_n 0, 1, []), (38, 67, .getfield 54, 3, [4, 5, 0, 171, 0]), (39, 70, .aload_n 0, 1, []), (40, 71, .getfield 50, 3, [4, 0, 0, 155, 0]), (41, 74, .iastore, 1, []), (42, 75, .aload_n 0, 1, []), (43, 76, .dup, 1, []), (44, 77, .getfield 54, 3, [4, 5, 0, 171, 0]), (45, 80, .iconst 1, 1, []), (46, 81, .iadd, 1, []), (47, 82, .putfield 54, 3, [4, 5, 0, 171, 0]), (48, 85, .aload_n 0, 1, []), (49, 86, .dup, 1, []), (50, 87, .getfield 50, 3, [4, 0, 0, 155, 0]), (51, 90, .iconst 1, 1, []), (52, 91, .iadd, 1, []), (53, 92, .putfield 50, 3, [4, 0, 0, 155, 0]), (54, 95, .return_, 1, [])]
set_option maxRecDepth 20000 in
def kX4_hasRoomForWay : List INS := [(0, 0, .aload_n 0, 1, []), (1, 1, .getfield 11, 3, [4, 1, 2, 160, 1]), (2, 4, .iload_n 1, 1, []), (3, 5, .iaload, 1, []), (4, 6, .istore_n 2, 1, []), (5, 7, .iload_n 2, 1, []), (6, 8, .iconst 4, 1, []), (7, 9, .if_icmp .ne 5, 3, [10]), (8, 12, .iconst 0, 1, []), (9, 13, .ireturn, 1, [5]), (10, 14, .aload_n 0, 1, []), (11, 15, .getfield 18, 3, [4, 3, 2, 167, 1]), (12, 18, .iload_n 1, 1, []), (13, 19, .iaload, 1, []), (14, 20, .iconst (-1), 1, []), (15, 21, .if_icmp .eq 23, 3, [28]), (16, 24, .iload_n 2, 1, []), (17, 25, .iconst 2, 1, []), (18, 26, .if_icmp .eq 8, 3, [22]), (19, 29, .iload_n 2, 1, []), (20, 30, .iconst 3, 1, []), (21, 31, .if_icmp .ne 17, 3, [30]), (22, 34, .aload_n 0, 1, []), (23, 35, .getfield 21, 3, [4, 4, 2, 169, 1]), (24, 38, .iload_n 1, 1, []), (25, 39, .iaload, 1, []), (26, 40, .iconst (-1), 1, []), (27, 41, .if_icmp .ne 7, 3, [30]), (28, 44, .iconst 1, 1, []), (29, 45, .goto 4, 3, [31]), (30, 48, .iconst 0, 1, []), (31, 49, .ireturn, 1, [5])]
set_option maxRecDepth 20000 in
def kX4_addWay : List INS := [(0, 0, .aload_n 0, 1, []), (1, 1, .getfield 57, 3, [4, 7, 0, 185, 0]), (2, 4, .bipush 16, 2, []), (3, 6, .if_icmp .lt 4, 3, [5]), (4, 9, .return_, 1, []), (5, 10, .aload_n 0, 1, []), (6, 11, .getfield 27, 3, [4, 8, 2, 192, 1]), (7, 14, .aload_n 0, 1, []), (8, 15, .getfield 57, 3, [4, 7, 0, 185, 0]), (9, 18, .iload_n 1, 1, []), (10, 19, .iastore, 1, []), (11, 20, .aload_n 0, 1, []), (12, 21, .getfield 30, 3, [4, 9, 2, 195, 1]), (13, 24, .aload_n 0, 1, []), (14, 25, .getfield 57, 3, [4, 7, 0, 185, 0]), (15, 28, .iload_n 2, 1, []), (16, 29, .iastore, 1, []), (17, 30, .aload_n 0, 1, []), (18, 31, .getfield 33, 3, [4, 10, 2, 199, 1]), (19, 34, .aload_n 0, 1, []), (20, 35, .getfield 57, 3, [4, 7, 0, 185, 0]), (21, 38, .iload_n 3, 1, []), (22, 39, .iastore, 1, []), (23, 40, .aload_n 0, 1, []), (24, 41, .getfield 18, 3, [4, 3, 2, 167, 1]), (25, 44, .iload_n 1, 1, []), (26, 45, .iaload, 1, []), (27, 46, .iconst (-1), 1, []), (28, 47, .if_icmp .ne 16, 3, [36]), (29, 50, .aload_n 0, 1, []), (30, 51, .getfield 18, 3, [4, 3, 2, 167, 1]), (31, 54, .iload_n 1, 1, []), (32, 55, .aload_n 0, 1, []), (33, 56, .getfield 57, 3, [4, 7, 0, 185, 0]), (34, 59, .iastore, 1, []), (35, 60, .goto 13, 3, [42]), (36, 63, .aload_n 0, 1, []), (37, 64, .getfield 21, 3, [4, 4, 2, 169, 1]), (38, 67, .iload_n 1, 1, []), (39, 68, .aload_n 0, 1, []), (40, 69, .getfield 57, 3, [4, 7, 0, 185, 0]), (41, 72, .iastore, 1, []), (42, 73, .aload_n 0, 1, []), (43, 74, .dup, 1, []), (44, 75, .getfield 57, 3, [4, 7, 0, 185, 0]), (45, 78, .iconst 1, 1, []), (46, 79, .iadd, 1, []), (47, 80, .putfield 57, 3, [4, 7, 0, 185, 0]), (48, 83, .return_, 1, [])]
set_option maxRecDepth 20000 in
def kX4_addClaim : List INS := [(0, 0, .aload_n 0, 1, []), (1, 1, .getfield 60, 3, [4, 11, 0, 205, 0]), (2, 4, .bipush 6, 2, []), (3, 6, .if_icmp .ge 36, 3, [23]), (4, 9, .aload_n 0, 1, []), (5, 10, .getfield 36, 3, [4, 12, 2, 208, 1]), (6, 13, .aload_n 0, 1, []), (7, 14, .getfield 60, 3, [4, 11, 0, 205, 0]), (8, 17, .iload_n 1, 1, []), (9, 18, .iastore, 1, []), (10, 19, .aload_n 0, 1, []), (11, 20, .getfield 39, 3, [4, 13, 2, 210, 1]), (12, 23, .aload_n 0, 1, []), (13, 24, .getfield 60, 3, [4, 11, 0, 205, 0]), (14, 27, .aload_n 0, 1, []), (15, 28, .getfield 63, 3, [4, 15, 0, 212, 0]), (16, 31, .iastore, 1, []), (17, 32, .aload_n 0, 1, []), (18, 33, .dup, 1, []), (19, 34, .getfield 60, 3, [4, 11, 0, 205, 0]), (20, 37, .iconst 1, 1, []), (21, 38, .iadd, 1, []), (22, 39, .putfield 60, 3, [4, 11, 0, 205, 0]), (23, 42, .return_, 1, [])]
set_option maxRecDepth 20000 in
def kX4_emit : List INS := [(0, 0, .aload_n 0, 1, []), (1, 1, .getfield 63, 3, [4, 15, 0, 212, 0]), (2, 4, .sipush 1600, 3, []), (3, 7, .if_icmp .ge 23, 3, [16]), (4, 10, .aload_n 0, 1, []), (5, 11, .getfield 44, 3, [4, 14, 2, 211, 1]), (6, 14, .aload_n 0, 1, []), (7, 15, .getfield 63, 3, [4, 15, 0, 212, 0]), (8, 18, .iload_n 1, 1, []), (9, 19, .iastore, 1, []), (10, 20, .aload_n 0, 1, []), (11, 21, .dup, 1, []), (12, 22, .getfield 63, 3, [4, 15, 0, 212, 0]), (13, 25, .iconst 1, 1, []), (14, 26, .iadd, 1, []), (15, 27, .putfield 63, 3, [4, 15, 0, 212, 0]), (16, 30, .return_, 1, [])]
set_option maxRecDepth 20000 in
def kX4_rows : List INS := [(0, 0, .iconst 1, 1, []), (1, 1, .istore_n 2, 1, []), (2, 2, .iconst 0, 1, []), (3, 3, .istore_n 3, 1, []), (4, 4, .iload_n 3, 1, []), (5, 5, .aload_n 0, 1, []), (6, 6, .getfield 54, 3, [4, 5, 0, 171, 0]), (7, 9, .if_icmp .ge 15, 3, [16]), (8, 12, .iload_n 2, 1, []), (9, 13, .iload_n 1, 1, []), (10, 14, .iconst 1, 1, []), (11, 15, .iadd, 1, []), (12, 16, .imul, 1, []), (13, 17, .istore_n 2, 1, []), (14, 18, .iinc 3 1, 3, []), (15, 21, .goto (-17), 3, [4]), (16, 24, .iload_n 2, 1, []), (17, 25, .ireturn, 1, [0])]
set_option maxRecDepth 20000 in
def kX4_setRow : List INS := [(0, 0, .iconst 1, 1, []), (1, 1, .iload_n 2, 1, []), (2, 2, .iconst 1, 1, []), (3, 3, .iadd, 1, []), (4, 4, .invokestatic 72, 3, [3, 0, 2, 0, 0, 0, 0, 1110, 746, 0, 138, 747]), (5, 7, .istore 4, 2, []), (6, 9, .iload_n 3, 1, []), (7, 10, .istore 5, 2, []), (8, 12, .aload_n 0, 1, []), (9, 13, .getfield 54, 3, [4, 5, 0, 171, 0]), (10, 16, .iconst 1, 1, []), (11, 17, .isub, 1, []), (12, 18, .istore 6, 2, []), (13, 20, .iload 6, 2, []), (14, 22, .ifCond .lt 25, 3, [27]), (15, 25, .aload_n 1, 1, []), (16, 26, .iload 6, 2, []), (17, 28, .iload 5, 2, []), (18, 30, .iload 4, 2, []), (19, 32, .irem, 1, []), (20, 33, .iastore, 1, []), (21, 34, .iload 5, 2, []), (22, 36, .iload 4, 2, []), (23, 38, .idiv, 1, []), (24, 39, .istore 5, 2, []), (25, 41, .iinc 6 (-1), 3, []), (26, 44, .goto (-24), 3, [13]), (27, 47, .return_, 1, [])]
set_option maxRecDepth 20000 in
def kX4_value : List INS := [(0, 0, .iconst 0, 1, []), (1, 1, .istore_n 3, 1, []), (2, 2, .aload_n 0, 1, []), (3, 3, .getfield 39, 3, [4, 13, 2, 210, 1]), (4, 6, .iload_n 1, 1, []), (5, 7, .iaload, 1, []), (6, 8, .istore 4, 2, []), (7, 10, .iload_n 1, 1, []), (8, 11, .ifCond .ne 7, 3, [11]), (9, 14, .iconst 0, 1, []), (10, 15, .goto 11, 3, [17]), (11, 18, .aload_n 0, 1, []), (12, 19, .getfield 39, 3, [4, 13, 2, 210, 1]), (13, 22, .iload_n 1, 1, []), (14, 23, .iconst 1, 1, []), (15, 24, .isub, 1, []), (16, 25, .iaload, 1, []), (17, 26, .istore 5, 2, []), (18, 28, .iload 5, 2, []), (19, 30, .iload 4, 2, []), (20, 32, .if_icmp .ge 146, 3, [99]), (21, 35, .aload_n 0, 1, []), (22, 36, .getfield 44, 3, [4, 14, 2, 211, 1]), (23, 39, .iload 5, 2, []), (24, 41, .iaload, 1, []), (25, 42, .istore 6, 2, []), (26, 44, .iload 6, 2, []), (27, 46, .sipush 20000, 3, []), (28, 49, .if_icmp .ge 42, 3, [48]), (29, 52, .iload_n 3, 1, []), (30, 53, .bipush 32, 2, []), (31, 55, .if_icmp .ge 36, 3, [48]), (32, 58, .aload_n 0, 1, []), (33, 59, .getfield 47, 3, [4, 16, 2, 213, 1]), (34, 62, .iload_n 3, 1, []), (35, 63, .iload 6, 2, []), (36, 65, .sipush 10000, 3, []), (37, 68, .if_icmp .ge 8, 3, [40]), (38, 71, .iload 6, 2, []), (39, 73, .goto 11, 3, [45]), (40, 76, .aload_n 2, 1, []), (41, 77, .iload 6, 2, []), (42, 79, .sipush 10000, 3, []), (43, 82, .isub, 1, []), (44, 83, .iaload, 1, []), (45, 84, .iastore, 1, []), (46, 85, .iinc 3 1, 3, []), (47, 88, .goto 84, 3, [97]), (48, 91, .iload 6, 2, []), (49, 93, .sipush 20017, 3, []), (50, 96, .if_icmp .ne 35, 3, [71]), (51, 99, .iload_n 3, 1, []), (52, 100, .iconst 1, 1, []), (53, 101, .if_icmp .lt 30, 3, [71]), (54, 104, .aload_n 0, 1, []), (55, 105, .getfield 47, 3, [4, 16, 2, 213, 1]), (56, 108, .iload_n 3, 1, []), (57, 109, .iconst 1, 1, []), (58, 110, .isub, 1, []), (59, 111, .aload_n 0, 1, []), (60, 112, .getfield 47, 3, [4, 16, 2, 213, 1]), (61, 115, .iload_n 3, 1, []), (62, 116, .iconst 1, 1, []), (63, 117, .isub, 1, []), (64, 118, .iaload, 1, []), (65, 119, .ifCond .ne 7, 3, [68]), (66, 122, .iconst 1, 1, []), (67, 123, .goto 4, 3, [69]), (68, 126, .iconst 0, 1, []), (69, 127, .iastore, 1, []), (70, 128, .goto 44, 3, [97]), (71, 131, .iload_n 3, 1, []), (72, 132, .iconst 2, 1, []), (73, 133, .if_icmp .lt 39, 3, [97]), (74, 136, .aload_n 0, 1, []), (75, 137, .getfield 47, 3, [4, 16, 2, 213, 1]), (76, 140, .iload_n 3, 1, []), (77, 141, .iconst 2, 1, []), (78, 142, .isub, 1, []), (79, 143, .iload 6, 2, []), (80, 145, .sipush 20000, 3, []), (81, 148, .isub, 1, []), (82, 149, .aload_n 0, 1, []), (83, 150, .getfield 47, 3, [4, 16, 2, 213, 1]), (84, 153, .iload_n 3, 1, []), (85, 154, .iconst 2, 1, []), (86, 155, .isub, 1, []), (87, 156, .iaload, 1, []), (88, 157, .aload_n 0, 1, []), (89, 158, .getfield 47, 3, [4, 16, 2, 213, 1]), (90, 161, .iload_n 3, 1, []), (91, 162, .iconst 1, 1, []), (92, 163, .isub, 1, []), (93, 164, .iaload, 1, []), (94, 165, .invokestatic 78, 3, [0, 32, 3, 0, 0, 0, 0, 1071, 1072, 0, 122, 1073]), (95, 168, .iastore, 1, []), (96, 169, .iinc 3 (-1), 3, []), (97, 172, .iinc 5 1, 3, []), (98, 175, .goto (-147), 3, [18]), (99, 178, .aload_n 0, 1, []), (100, 179, .getfield 47, 3, [4, 16, 2, 213, 1]), (101, 182, .iconst 0, 1, []), (102, 183, .iaload, 1, []), (103, 184, .ireturn, 1, [0])]
set_option maxRecDepth 20000 in
def kX4_joined : List INS := [(0, 0, .iload_n 0, 1, []), (1, 1, .lookupswitch 168 #[(15, 83), (16, 97), (42, 152), (43, 144), (45, 148), (47, 156), (60, 111), (61, 133), (62, 122)], 83, [59, 2, 10, 47, 39, 43, 51, 18, 32, 25]), (2, 84, .iload_n 1, 1, []), (3, 85, .ifCond .ne 7, 3, [6]), (4, 88, .iload_n 2, 1, []), (5, 89, .ifCond .eq 7, 3, [8]), (6, 92, .iconst 1, 1, []), (7, 93, .goto 4, 3, [9]), (8, 96, .iconst 0, 1, []), (9, 97, .ireturn, 1, [0]), (10, 98, .iload_n 1, 1, []), (11, 99, .ifCond .eq 11, 3, [16]), (12, 102, .iload_n 2, 1, []), (13, 103, .ifCond .eq 7, 3, [16]), (14, 106, .iconst 1, 1, []), (15, 107, .goto 4, 3, [17]), (16, 110, .iconst 0, 1, []), (17, 111, .ireturn, 1, [0]), (18, 112, .iload_n 1, 1, []), (19, 113, .iload_n 2, 1, []), (20, 114, .if_icmp .ge 7, 3, [23]), (21, 117, .iconst 1, 1, []), (22, 118, .goto 4, 3, [24]), (23, 121, .iconst 0, 1, []), (24, 122, .ireturn, 1, [0]), (25, 123, .iload_n 1, 1, []), (26, 124, .iload_n 2, 1, []), (27, 125, .if_icmp .le 7, 3, [30]), (28, 128, .iconst 1, 1, []), (29, 129, .goto 4, 3, [31]), (30, 132, .iconst 0, 1, []), (31, 133, .ireturn, 1, [0]), (32, 134, .iload_n 1, 1, []), (33, 135, .iload_n 2, 1, []), (34, 136, .if_icmp .ne 7, 3, [37]), (35, 139, .iconst 1, 1, []), (36, 140, .goto 4, 3, [38]), (37, 143, .iconst 0, 1, []), (38, 144, .ireturn, 1, [0]), (39, 145, .iload_n 1, 1, []), (40, 146, .iload_n 2, 1, []), (41, 147, .iadd, 1, []), (42, 148, .ireturn, 1, [0]), (43, 149, .iload_n 1, 1, []), (44, 150, .iload_n 2, 1, []), (45, 151, .isub, 1, []), (46, 152, .ireturn, 1, [0]), (47, 153, .iload_n 1, 1, []), (48, 154, .iload_n 2, 1, []), (49, 155, .imul, 1, []), (50, 156, .ireturn, 1, [0]), (51, 157, .iload_n 2, 1, []), (52, 158, .ifCond .ne 7, 3, [55]), (53, 161, .iconst 0, 1, []), (54, 162, .goto 6, 3, [58]), (55, 165, .iload_n 1, 1, []), (56, 166, .iload_n 2, 1, []), (57, 167, .idiv, 1, []), (58, 168, .ireturn, 1, [0]), (59, 169, .iload_n 2, 1, []), (60, 170, .ifCond .ne 7, 3, [63]), (61, 173, .iconst 0, 1, []), (62, 174, .goto 6, 3, [66]), (63, 177, .iload_n 1, 1, []), (64, 178, .iload_n 2, 1, []), (65, 179, .irem, 1, []), (66, 180, .ireturn, 1, [0])]
set_option maxRecDepth 20000 in
def kX5_init : List INS := [(0, 0, .aload_n 0, 1, []), (1, 1, .invokespecial 3, 3, [9, 0, 0, 9, 0, 0, 0, 364, 147, 0, 0, 148]), (2, 4, .aload_n 0, 1, []), (3, 5, .aload_n 1, 1, []), (4, 6, .putfield 9, 3, [5, 2, 2, 369, 1]), (5, 9, .aload_n 0, 1, []), (6, 10, .aload_n 2, 1, []), (7, 11, .putfield 15, 3, [5, 5, 2, 372, 0]), (8, 14, .aload_n 0, 1, []), (9, 15, .bipush 10, 2, []), (10, 17, .newarray .long, 2, [101, 357]), (11, 19, .putfield 21, 3, [5, 3, 2, 370, 1]), (12, 22, .aload_n 0, 1, []), (13, 23, .bipush 6, 2, []), (14, 25, .newarray .long, 2, [101, 357]), (15, 27, .putfield 25, 3, [5, 4, 2, 371, 1]), (16, 30, .aload_n 0, 1, []), (17, 31, .iconst (-1), 1, []), (18, 32, .putfield 28, 3, [5, 1, 0, 367, 0]), (19, 35, .return_, 1, [])]
set_option maxRecDepth 20000 in
def kX5_read : List INS := [(0, 0, .aload_n 0, 1, []), (1, 1, .aload_n 1, 1, []), (2, 2, .putfield 15, 3, [5, 5, 2, 372, 0]), (3, 5, .aload_n 0, 1, []), (4, 6, .getfield 15, 3, [5, 5, 2, 372, 0]), (5, 9, .invokevirtual 32, 3, [1, 23, 0, 9, 0, 0, 4, 695, 696, 697, 122, 698]), (6, 12, .aload_n 0, 1, []), (7, 13, .iconst 0, 1, []), (8, 14, .putfield 35, 3, [5, 0, 0, 365, 0]), (9, 17, .aload_n 0, 1, []), (10, 18, .iconst (-1), 1, []), (11, 19, .putfield 28, 3, [5, 1, 0, 367, 0]), (12, 22, .aload_n 0, 1, []), (13, 23, .iconst 0, 1, []), (14, 24, .putfield 38, 3, [5, 6, 5, 373, 0]), (15, 27, .aload_n 0, 1, []), (16, 28, .getfield 9, 3, [5, 2, 2, 369, 1]), (17, 31, .invokevirtual 42, 3, [1, 83, 0, 9, 0, 0, 9, 699, 700, 701, 123, 702]), (18, 34, .iconst 1, 1, []), (19, 35, .istore_n 2, 1, []), (20, 36, .iconst 0, 1, []), (21, 37, .istore_n 3, 1, []), (22, 38, .iload_n 3, 1, []), (23, 39, .sipush 1600, 3, []), (24, 42, .if_icmp .gt 29, 3, [37]), (25, 45, .iload_n 2, 1, []), (26, 46, .ifCond .eq 25, 3, [37]), (27, 49, .aload_n 0, 1, []), (28, 50, .getfield 9, 3, [5, 2, 2, 369, 1]), (29, 53, .getfield 47, 3, [9, 8, 0, 328, 0]), (30, 56, .iconst 1, 1, []), (31, 57, .if_icmp .eq 14, 3, [37]), (32, 60, .aload_n 0, 1, []), (33, 61, .invokevirtual 50, 3, [1, 36, 0, 5, 0, 0, 5, 793, 795, 5, 128, 796]), (34, 64, .istore_n 2, 1, []), (35, 65, .iinc 3 1, 3, []), (36, 68, .goto (-30), 3, [22]), (37, 71, .iload_n 2, 1, []), (38, 72, .ireturn, 1, [5])]
set_option maxRecDepth 20000 in
def kX5_fail : List INS := [(0, 0, .aload_n 0, 1, []), (1, 1, .aload_n 0, 1, []), (2, 2, .getfield 9, 3, [5, 2, 2, 369, 1]), (3, 5, .getfield 47, 3, [9, 8, 0, 328, 0]), (4, 8, .ifCond .ne 7, 3, [7]), (5, 11, .iconst 1, 1, []), (6, 12, .goto 4, 3, [8]), (7, 15, .iload_n 1, 1, []), (8, 16, .putfield 35, 3, [5, 0, 0, 365, 0]), (9, 19, .aload_n 0, 1, []), (10, 20, .aload_n 0, 1, []), (11, 21, .getfield 9, 3, [5, 2, 2, 369, 1]), (12, 24, .getfield 54, 3, [9, 9, 0, 330, 0]), (13, 27, .putfield 28, 3, [5, 1, 0, 367, 0]), (14, 30, .iconst 0, 1, []), (15, 31, .ireturn, 1, [5])]
set_option maxRecDepth 20000 in
def kX5_line : List INS := [(0, 0, .aload_n 0, 1, []), (1, 1, .getfield 9, 3, [5, 2, 2, 369, 1]), (2, 4, .getfield 47, 3, [9, 8, 0, 328, 0]), (3, 7, .iconst 2, 1, []), (4, 8, .if_icmp .eq 9, 3, [9]), (5, 11, .aload_n 0, 1, []), (6, 12, .iconst 2, 1, []), (7, 13, .invokevirtual 55, 3, [1, 35, 1, 5, 0, 0, 5, 797, 799, 6, 128, 800]), (8, 16, .ireturn, 1, [5]), (9, 17, .aload_n 0, 1, []), (10, 18, .getfield 9, 3, [5, 2, 2, 369, 1]), (11, 21, .getfield 59, 3, [9, 10, 1, 332, 0]), (12, 24, .l2i, 1, []), (13, 25, .istore_n 1, 1, []), (14, 26, .iload_n 1, 1, []), (15, 27, .bipush 8, 2, []), (16, 29, .if_icmp .gt 9, 3, [21]), (17, 32, .aload_n 0, 1, []), (18, 33, .iload_n 1, 1, []), (19, 34, .invokevirtual 63, 3, [1, 37, 1, 5, 0, 0, 5, 801, 803, 7, 128, 804]), (20, 37, .ireturn, 1, [5]), (21, 38, .iload_n 1, 1, []), (22, 39, .tableswitch 40 9 11 #[25, 30, 35], 25, [32, 23, 26, 29]), (23, 64, .aload_n 0, 1, []), (24, 65, .invokevirtual 66, 3, [1, 38, 0, 5, 0, 0, 5, 830, 832, 12, 128, 833]), (25, 68, .ireturn, 1, [5]), (26, 69, .aload_n 0, 1, []), (27, 70, .invokevirtual 69, 3, [1, 39, 0, 5, 0, 0, 5, 854, 856, 15, 128, 857]), (28, 73, .ireturn, 1, [5]), (29, 74, .aload_n 0, 1, []), (30, 75, .invokevirtual 72, 3, [1, 40, 0, 5, 0, 0, 5, 886, 888, 21, 128, 889]), (31, 78, .ireturn, 1, [5]), (32, 79, .aload_n 0, 1, []), (33, 80, .iconst 2, 1, []), (34, 81, .invokevirtual 55, 3, [1, 35, 1, 5, 0, 0, 5, 797, 799, 6, 128, 800]), (35, 84, .ireturn, 1, [5])]
set_option maxRecDepth 20000 in
def kX5_towerLine : List INS := [(0, 0, .iload_n 1, 1, []), (1, 1, .ifCond .ne 18, 3, [9]), (2, 4, .aload_n 0, 1, []), (3, 5, .getfield 15, 3, [5, 5, 2, 372, 0]), (4, 8, .getfield 75, 3, [4, 5, 0, 173, 0]), (5, 11, .iconst 3, 1, []), (6, 12, .if_icmp .ne 7, 3, [9]), (7, 15, .iconst 1, 1, []), (8, 16, .goto 4, 3, [10]), (9, 19, .iconst 0, 1, []), (10, 20, .istore_n 2, 1, []), (11, 21, .iload_n 2, 1, []), (12, 22, .ifCond .ne 15, 3, [18]), (13, 25, .aload_n 0, 1, []), (14, 26, .getfield 15, 3, [5, 5, 2, 372, 0]), (15, 29, .getfield 78, 3, [4, 0, 0, 158, 0]), (16, 32, .bipush 10, 2, []), (17, 34, .if_icmp .ne 9, 3, [22]), (18, 37, .aload_n 0, 1, []), (19, 38, .iconst 2, 1, []), (20, 39, .invokevirtual 55, 3, [1, 35, 1, 5, 0, 0, 5, 797, 799, 6, 128, 800]), (21, 42, .ireturn, 1, [5]), (22, 43, .aload_n 0, 1, []), (23, 44, .getfield 9, 3, [5, 2, 2, 369, 1]), (24, 47, .invokevirtual 81, 3, [1, 94, 0, 9, 0, 0, 9, 805, 790, 791, 123, 792]), (25, 50, .aload_n 0, 1, []), (26, 51, .getfield 9, 3, [5, 2, 2, 369, 1]), (27, 54, .getfield 47, 3, [9, 8, 0, 328, 0]), (28, 57, .iconst 3, 1, []), (29, 58, .if_icmp .eq 9, 3, [34]), (30, 61, .aload_n 0, 1, []), (31, 62, .iconst 2, 1, []), (32, 63, .invokevirtual 55, 3, [1, 35, 1, 5, 0, 0, 5, 797, 799, 6, 128, 800]), (33, 66, .ireturn, 1, [5]), (34, 67, .aload_n 0, 1, []), (35, 68, .invokevirtual 84, 3, [1, 46, 0, 0, 0, 0, 5, 806, 808, 8, 128, 809]), (36, 71, .iconst (-1), 1, []), (37, 72, .if_icmp .eq 9, 3, [42]), (38, 75, .aload_n 0, 1, []), (39, 76, .iconst 3, 1, []), (40, 77, .invokevirtual 55, 3, [1, 35, 1, 5, 0, 0, 5, 797, 799, 6, 128, 800]), (41, 80, .ireturn, 1, [5]), (42, 81, .aload_n 0, 1, []), (43, 82, .getfield 21, 3, [5, 3, 2, 370, 1]), (44, 85, .aload_n 0, 1, []), (45, 86, .getfield 15, 3, [5, 5, 2, 372, 0]), (46, 89, .getfield 78, 3, [4, 0, 0, 158, 0]), (47, 92, .aload_n 0, 1, []), (48, 93, .getfield 9, 3, [5, 2, 2, 369, 1]), (49, 96, .getfield 59, 3, [9, 10, 1, 332, 0]), (50, 99, .lastore, 1, []), (51, 100, .aload_n 0, 1, []), (52, 101, .getfield 9, 3, [5, 2, 2, 369, 1]), (53, 104, .invokevirtual 81, 3, [1, 94, 0, 9, 0, 0, 9, 805, 790, 791, 123, 792]), (54, 107, .aload_n 0, 1, []), (55, 108, .iconst 0, 1, []), (56, 109, .putfield 88, 3, [5, 7, 0, 374, 0]), (57, 112, .iload_n 1, 1, []), (58, 113, .iconst 5, 1, []), (59, 114, .if_icmp .lt 15, 3, [67]), (60, 117, .aload_n 0, 1, []), (61, 118, .iconst 1, 1, []), (62, 119, .bipush 99, 2, []), (63, 121, .invokevirtual 91, 3, [1, 51, 2, 5, 0, 0, 5, 814, 816, 10, 128, 817]), (64, 124, .ifCond .ne 5, 3, [67]), (65, 127, .iconst 0, 1, []), (66, 128, .ireturn, 1, [5]), (67, 129, .aload_n 0, 1, []), (68, 130, .getfield 15, 3, [5, 5, 2, 372, 0]), (69, 133, .iload_n 1, 1, []), (70, 134, .aload_n 0, 1, []), (71, 135, .getfield 88, 3, [5, 7, 0, 374, 0]), (72, 138, .invokevirtual 95, 3, [1, 24, 2, 9, 0, 0, 4, 818, 819, 820, 122, 821]), (73, 141, .aload_n 0, 1, []), (74, 142, .bipush 59, 2, []), (75, 144, .invokevirtual 99, 3, [1, 50, 1, 5, 0, 0, 5, 822, 824, 11, 128, 825]), (76, 147, .ireturn, 1, [5])]
set_option maxRecDepth 20000 in
def kX5_wayLine : List INS := [(0, 0, .aload_n 0, 1, []), (1, 1, .getfield 15, 3, [5, 5, 2, 372, 0]), (2, 4, .getfield 102, 3, [4, 7, 0, 187, 0]), (3, 7, .bipush 16, 2, []), (4, 9, .if_icmp .ne 9, 3, [9]), (5, 12, .aload_n 0, 1, []), (6, 13, .iconst 2, 1, []), (7, 14, .invokevirtual 55, 3, [1, 35, 1, 5, 0, 0, 5, 797, 799, 6, 128, 800]), (8, 17, .ireturn, 1, [5]), (9, 18, .aload_n 0, 1, []), (10, 19, .getfield 9, 3, [5, 2, 2, 369, 1]), (11, 22, .invokevirtual 81, 3, [1, 94, 0, 9, 0, 0, 9, 805, 790, 791, 123, 792]), (12, 25, .aload_n 0, 1, []), (13, 26, .invokevirtual 84, 3, [1, 46, 0, 0, 0, 0, 5, 806, 808, 8, 128, 809]), (14, 29, .istore_n 1, 1, []), (15, 30, .aload_n 0, 1, []), (16, 31, .iload_n 1, 1, []), (17, 32, .invokevirtual 105, 3, [1, 48, 1, 5, 0, 0, 5, 834, 836, 13, 128, 837]), (18, 35, .ifCond .ne 5, 3, [21]), (19, 38, .iconst 0, 1, []), (20, 39, .ireturn, 1, [5]), (21, 40, .aload_n 0, 1, []), (22, 41, .getfield 15, 3, [5, 5, 2, 372, 0]), (23, 44, .iload_n 1, 1, []), (24, 45, .invokevirtual 108, 3, [1, 25, 1, 5, 0, 0, 4, 838, 839, 840, 122, 841]), (25, 48, .ifCond .ne 10, 3, [30]), (26, 51, .aload_n 0, 1, []), (27, 52, .bipush 6, 2, []), (28, 54, .invokevirtual 55, 3, [1, 35, 1, 5, 0, 0, 5, 797, 799, 6, 128, 800]), (29, 57, .ireturn, 1, [5]), (30, 58, .aload_n 0, 1, []), (31, 59, .getfield 9, 3, [5, 2, 2, 369, 1]), (32, 62, .invokevirtual 81, 3, [1, 94, 0, 9, 0, 0, 9, 805, 790, 791, 123, 792]), (33, 65, .aload_n 0, 1, []), (34, 66, .bipush 12, 2, []), (35, 68, .invokevirtual 111, 3, [1, 49, 1, 5, 0, 0, 5, 842, 844, 14, 128, 845]), (36, 71, .ifCond .ne 5, 3, [39]), (37, 74, .iconst 0, 1, []), (38, 75, .ireturn, 1, [5]), (39, 76, .aload_n 0, 1, []), (40, 77, .invokevirtual 84, 3, [1, 46, 0, 0, 0, 0, 5, 806, 808, 8, 128, 809]), (41, 80, .istore_n 2, 1, []), (42, 81, .aload_n 0, 1, []), (43, 82, .iload_n 2, 1, []), (44, 83, .invokevirtual 105, 3, [1, 48, 1, 5, 0, 0, 5, 834, 836, 13, 128, 837]), (45, 86, .ifCond .ne 5, 3, [48]), (46, 89, .iconst 0, 1, []), (47, 90, .ireturn, 1, [5]), (48, 91, .aload_n 0, 1, []), (49, 92, .getfield 9, 3, [5, 2, 2, 369, 1]), (50, 95, .invokevirtual 81, 3, [1, 94, 0, 9, 0, 0, 9, 805, 790, 791, 123, 792]), (51, 98, .aload_n 0, 1, []), (52, 99, .bipush 13, 2, []), (53, 101, .invokevirtual 111, 3, [1, 49, 1, 5, 0, 0, 5, 842, 844, 14, 128, 845]), (54, 104, .ifCond .eq 13, 3, [60]), (55, 107, .aload_n 0, 1, []), (56, 108, .iconst 1, 1, []), (57, 109, .bipush 9, 2, []), (58, 111, .invokevirtual 91, 3, [1, 51, 2, 5, 0, 0, 5, 814, 816, 10, 128, 817]), (59, 114, .ifCond .ne 5, 3, [62]), (60, 117, .iconst 0, 1, []), (61, 118, .ireturn, 1, [5]), (62, 119, .aload_n 0, 1, []), (63, 120, .getfield 15, 3, [5, 5, 2, 372, 0]), (64, 123, .iload_n 1, 1, []), (65, 124, .iload_n 2, 1, []), (66, 125, .aload_n 0, 1, []), (67, 126, .getfield 88, 3, [5, 7, 0, 374, 0]), (68, 129, .invokevirtual 114, 3, [1, 26, 3, 9, 0, 0, 4, 850, 851, 852, 122, 853]), (69, 132, .aload_n 0, 1, []), (70, 133, .bipush 59, 2, []), (71, 135, .invokevirtual 99, 3, [1, 50, 1, 5, 0, 0, 5, 822, 824, 11, 128, 825]), (72, 138, .ireturn, 1, [5])]
set_option maxRecDepth 20000 in
def kX5_claimLine : List INS := [(0, 0, .aload_n 0, 1, []), (1, 1, .getfield 15, 3, [5, 5, 2, 372, 0]), (2, 4, .getfield 118, 3, [4, 11, 0, 206, 0]), (3, 7, .bipush 6, 2, []), (4, 9, .if_icmp .ne 9, 3, [9]), (5, 12, .aload_n 0, 1, []), (6, 13, .iconst 2, 1, []), (7, 14, .invokevirtual 55, 3, [1, 35, 1, 5, 0, 0, 5, 797, 799, 6, 128, 800]), (8, 17, .ireturn, 1, [5]), (9, 18, .aload_n 0, 1, []), (10, 19, .getfield 9, 3, [5, 2, 2, 369, 1]), (11, 22, .invokevirtual 81, 3, [1, 94, 0, 9, 0, 0, 9, 805, 790, 791, 123, 792]), (12, 25, .aload_n 0, 1, []), (13, 26, .getfield 9, 3, [5, 2, 2, 369, 1]), (14, 29, .getfield 47, 3, [9, 8, 0, 328, 0]), (15, 32, .iconst 3, 1, []), (16, 33, .if_icmp .eq 9, 3, [21]), (17, 36, .aload_n 0, 1, []), (18, 37, .iconst 2, 1, []), (19, 38, .invokevirtual 55, 3, [1, 35, 1, 5, 0, 0, 5, 797, 799, 6, 128, 800]), (20, 41, .ireturn, 1, [5]), (21, 42, .aload_n 0, 1, []), (22, 43, .aload_n 0, 1, []), (23, 44, .getfield 25, 3, [5, 4, 2, 371, 1]), (24, 47, .aload_n 0, 1, []), (25, 48, .getfield 15, 3, [5, 5, 2, 372, 0]), (26, 51, .getfield 118, 3, [4, 11, 0, 206, 0]), (27, 54, .invokevirtual 121, 3, [1, 45, 2, 0, 0, 0, 5, 810, 812, 9, 128, 813]), (28, 57, .iconst (-1), 1, []), (29, 58, .if_icmp .eq 9, 3, [34]), (30, 61, .aload_n 0, 1, []), (31, 62, .iconst 3, 1, []), (32, 63, .invokevirtual 55, 3, [1, 35, 1, 5, 0, 0, 5, 797, 799, 6, 128, 800]), (33, 66, .ireturn, 1, [5]), (34, 67, .aload_n 0, 1, []), (35, 68, .getfield 25, 3, [5, 4, 2, 371, 1]), (36, 71, .aload_n 0, 1, []), (37, 72, .getfield 15, 3, [5, 5, 2, 372, 0]), (38, 75, .getfield 118, 3, [4, 11, 0, 206, 0]), (39, 78, .aload_n 0, 1, []), (40, 79, .getfield 9, 3, [5, 2, 2, 369, 1]), (41, 82, .getfield 59, 3, [9, 10, 1, 332, 0]), (42, 85, .lastore, 1, []), (43, 86, .aload_n 0, 1, []), (44, 87, .getfield 9, 3, [5, 2, 2, 369, 1]), (45, 90, .invokevirtual 81, 3, [1, 94, 0, 9, 0, 0, 9, 805, 790, 791, 123, 792]), (46, 93, .aload_n 0, 1, []), (47, 94, .bipush 14, 2, []), (48, 96, .invokevirtual 111, 3, [1, 49, 1, 5, 0, 0, 5, 842, 844, 14, 128, 845]), (49, 99, .ifCond .ne 5, 3, [52]), (50, 102, .iconst 0, 1, []), (51, 103, .ireturn, 1, [5]), (52, 104, .aload_n 0, 1, []), (53, 105, .invokevirtual 84, 3, [1, 46, 0, 0, 0, 0, 5, 806, 808, 8, 128, 809]), (54, 108, .istore_n 1, 1, []), (55, 109, .aload_n 0, 1, []), (56, 110, .iload_n 1, 1, []), (57, 111, .invokevirtual 105, 3, [1, 48, 1, 5, 0, 0, 5, 834, 836, 13, 128, 837]), (58, 114, .ifCond .ne 5, 3, [61]), (59, 117, .iconst 0, 1, []), (60, 118, .ireturn, 1, [5]), (61, 119, .aload_n 0, 1, []), (62, 120, .getfield 15, 3, [5, 5, 2, 372, 0]), (63, 123, .getfield 125, 3, [4, 1, 2, 162, 1]), (64, 126, .iload_n 1, 1, []), (65, 127, .iaload, 1, []), (66, 128, .iconst 4, 1, []), (67, 129, .if_icmp .eq 10, 3, [72]), (68, 132, .aload_n 0, 1, []), (69, 133, .bipush 6, 2, []), (70, 135, .invokevirtual 55, 3, [1, 35, 1, 5, 0, 0, 5, 797, 799, 6, 128, 800]), (71, 138, .ireturn, 1, [5]), (72, 139, .aload_n 0, 1, []), (73, 140, .getfield 9, 3, [5, 2, 2, 369, 1]), (74, 143, .invokevirtual 81, 3, [1, 94, 0, 9, 0, 0, 9, 805, 790, 791, 123, 792]), (75, 146, .aload_n 0, 1, []), (76, 147, .iconst 0, 1, []), (77, 148, .putfield 129, 3, [5, 8, 0, 375, 0]), (78, 151, .aload_n 0, 1, []), (79, 152, .iconst 0, 1, []), (80, 153, .iconst 0, 1, []), (81, 154, .invokevirtual 132, 3, [1, 41, 2, 5, 0, 0, 5, 858, 860, 16, 128, 861]), (82, 157, .ifCond .ne 5, 3, [85]), (83, 160, .iconst 0, 1, []), (84, 161, .ireturn, 1, [5]), (85, 162, .aload_n 0, 1, []), (86, 163, .getfield 15, 3, [5, 5, 2, 372, 0]), (87, 166, .iload_n 1, 1, []), (88, 167, .invokevirtual 135, 3, [1, 27, 1, 9, 0, 0, 4, 882, 883, 884, 122, 885]), (89, 170, .aload_n 0, 1, []), (90, 171, .bipush 59, 2, []), (91, 173, .invokevirtual 99, 3, [1, 50, 1, 5, 0, 0, 5, 822, 824, 11, 128, 825]), (92, 176, .ireturn, 1, [5])]
set_option maxRecDepth 20000 in
def kX5_drawLine : List INS := [(0, 0, .aload_n 0, 1, []), (1, 1, .getfield 38, 3, [5, 6, 5, 373, 0]), (2, 4, .ifCond .eq 9, 3, [7]), (3, 7, .aload_n 0, 1, []), (4, 8, .iconst 2, 1, []), (5, 9, .invokevirtual 55, 3, [1, 35, 1, 5, 0, 0, 5, 797, 799, 6, 128, 800]), (6, 12, .ireturn, 1, [5]), (7, 13, .aload_n 0, 1, []), (8, 14, .iconst 1, 1, []), (9, 15, .putfield 38, 3, [5, 6, 5, 373, 0]), (10, 18, .aload_n 0, 1, []), (11, 19, .getfield 9, 3, [5, 2, 2, 369, 1]), (12, 22, .invokevirtual 81, 3, [1, 94, 0, 9, 0, 0, 9, 805, 790, 791, 123, 792]), (13, 25, .aload_n 0, 1, []), (14, 26, .iconst 0, 1, []), (15, 27, .sipush 999, 3, []), (16, 30, .invokevirtual 91, 3, [1, 51, 2, 5, 0, 0, 5, 814, 816, 10, 128, 817]), (17, 33, .ifCond .ne 5, 3, [20]), (18, 36, .iconst 0, 1, []), (19, 37, .ireturn, 1, [5]), (20, 38, .aload_n 0, 1, []), (21, 39, .getfield 15, 3, [5, 5, 2, 372, 0]), (22, 42, .aload_n 0, 1, []), (23, 43, .getfield 88, 3, [5, 7, 0, 374, 0]), (24, 46, .putfield 139, 3, [4, 18, 0, 219, 0]), (25, 49, .aload_n 0, 1, []), (26, 50, .bipush 59, 2, []), (27, 52, .invokevirtual 99, 3, [1, 50, 1, 5, 0, 0, 5, 822, 824, 11, 128, 825]), (28, 55, .ireturn, 1, [5])]
set_option maxRecDepth 20000 in
def kX5_formula : List INS := [(0, 0, .iload_n 1, 1, []), (1, 1, .iconst 5, 1, []), (2, 2, .if_icmp .lt 9, 3, [7]), (3, 5, .aload_n 0, 1, []), (4, 6, .iload_n 2, 1, []), (5, 7, .invokevirtual 142, 3, [1, 44, 1, 5, 0, 0, 5, 862, 864, 17, 128, 865]), (6, 10, .ireturn, 1, [5]), (7, 11, .iload_n 1, 1, []), (8, 12, .iconst 2, 1, []), (9, 13, .if_icmp .ne 21, 3, [19]), (10, 16, .aload_n 0, 1, []), (11, 17, .getfield 9, 3, [5, 2, 2, 369, 1]), (12, 20, .bipush 17, 2, []), (13, 22, .invokevirtual 145, 3, [1, 92, 1, 5, 0, 0, 9, 846, 847, 848, 123, 849]), (14, 25, .ifCond .eq 9, 3, [19]), (15, 28, .aload_n 0, 1, []), (16, 29, .iload_n 2, 1, []), (17, 30, .invokevirtual 148, 3, [1, 42, 1, 5, 0, 0, 5, 874, 876, 19, 128, 877]), (18, 33, .ireturn, 1, [5]), (19, 34, .aload_n 0, 1, []), (20, 35, .iload_n 1, 1, []), (21, 36, .iconst 1, 1, []), (22, 37, .iadd, 1, []), (23, 38, .iload_n 2, 1, []), (24, 39, .invokevirtual 132, 3, [1, 41, 2, 5, 0, 0, 5, 858, 860, 16, 128, 861]), (25, 42, .ifCond .ne 5, 3, [28]), (26, 45, .iconst 0, 1, []), (27, 46, .ireturn, 1, [5]), (28, 47, .iload_n 1, 1, []), (29, 48, .iconst 2, 1, []), (30, 49, .if_icmp .ne 7, 3, [33]), (31, 52, .iconst 1, 1, []), (32, 53, .goto 6, 3, [34]), (33, 56, .sipush 1600, 3, []), (34, 59, .istore_n 3, 1, []), (35, 60, .iconst 0, 1, []), (36, 61, .istore 4, 2, []), (37, 63, .iload 4, 2, []), (38, 65, .iload_n 3, 1, []), (39, 66, .if_icmp .ge 60, 3, [69]), (40, 69, .aload_n 0, 1, []), (41, 70, .iload_n 1, 1, []), (42, 71, .invokevirtual 151, 3, [1, 43, 1, 5, 0, 0, 5, 878, 880, 20, 128, 881]), (43, 74, .ifCond .eq 52, 3, [69]), (44, 77, .aload_n 0, 1, []), (45, 78, .getfield 9, 3, [5, 2, 2, 369, 1]), (46, 81, .getfield 59, 3, [9, 10, 1, 332, 0]), (47, 84, .l2i, 1, []), (48, 85, .istore 5, 2, []), (49, 87, .aload_n 0, 1, []), (50, 88, .getfield 9, 3, [5, 2, 2, 369, 1]), (51, 91, .invokevirtual 81, 3, [1, 94, 0, 9, 0, 0, 9, 805, 790, 791, 123, 792]), (52, 94, .aload_n 0, 1, []), (53, 95, .iload_n 1, 1, []), (54, 96, .iconst 1, 1, []), (55, 97, .iadd, 1, []), (56, 98, .iload_n 2, 1, []), (57, 99, .invokevirtual 132, 3, [1, 41, 2, 5, 0, 0, 5, 858, 860, 16, 128, 861]), (58, 102, .ifCond .ne 5, 3, [61]), (59, 105, .iconst 0, 1, []), (60, 106, .ireturn, 1, [5]), (61, 107, .aload_n 0, 1, []), (62, 108, .getfield 15, 3, [5, 5, 2, 372, 0]), (63, 111, .sipush 20000, 3, []), (64, 114, .iload 5, 2, []), (65, 116, .iadd, 1, []), (66, 117, .invokevirtual 154, 3, [1, 28, 1, 9, 0, 0, 4, 866, 867, 868, 122, 869]), (67, 120, .iinc 4 1, 3, []), (68, 123, .goto (-60), 3, [37]), (69, 126, .iconst 1, 1, []), (70, 127, .ireturn, 1, [5])]
set_option maxRecDepth 20000 in
def kX5_negated : List INS := [(0, 0, .iload_n 1, 1, []), (1, 1, .bipush 6, 2, []), (2, 3, .if_icmp .le 9, 3, [7]), (3, 6, .aload_n 0, 1, []), (4, 7, .iconst 2, 1, []), (5, 8, .invokevirtual 55, 3, [1, 35, 1, 5, 0, 0, 5, 797, 799, 6, 128, 800]), (6, 11, .ireturn, 1, [5]), (7, 12, .aload_n 0, 1, []), (8, 13, .getfield 9, 3, [5, 2, 2, 369, 1]), (9, 16, .invokevirtual 81, 3, [1, 94, 0, 9, 0, 0, 9, 805, 790, 791, 123, 792]), (10, 19, .aload_n 0, 1, []), (11, 20, .iconst 2, 1, []), (12, 21, .iload_n 1, 1, []), (13, 22, .iconst 1, 1, []), (14, 23, .iadd, 1, []), (15, 24, .invokevirtual 132, 3, [1, 41, 2, 5, 0, 0, 5, 858, 860, 16, 128, 861]), (16, 27, .ifCond .ne 5, 3, [19]), (17, 30, .iconst 0, 1, []), (18, 31, .ireturn, 1, [5]), (19, 32, .aload_n 0, 1, []), (20, 33, .getfield 15, 3, [5, 5, 2, 372, 0]), (21, 36, .sipush 20017, 3, []), (22, 39, .invokevirtual 154, 3, [1, 28, 1, 9, 0, 0, 4, 866, 867, 868, 122, 869]), (23, 42, .iconst 1, 1, []), (24, 43, .ireturn, 1, [5])]
set_option maxRecDepth 20000 in
def kX5_isOperator : List INS := [(0, 0, .iload_n 1, 1, []), (1, 1, .tableswitch 123 0 3 #[31, 41, 51, 93], 31, [45, 2, 7, 12, 31]), (2, 32, .aload_n 0, 1, []), (3, 33, .getfield 9, 3, [5, 2, 2, 369, 1]), (4, 36, .bipush 15, 2, []), (5, 38, .invokevirtual 145, 3, [1, 92, 1, 5, 0, 0, 9, 846, 847, 848, 123, 849]), (6, 41, .ireturn, 1, [5]), (7, 42, .aload_n 0, 1, []), (8, 43, .getfield 9, 3, [5, 2, 2, 369, 1]), (9, 46, .bipush 16, 2, []), (10, 48, .invokevirtual 145, 3, [1, 92, 1, 5, 0, 0, 9, 846, 847, 848, 123, 849]), (11, 51, .ireturn, 1, [5]), (12, 52, .aload_n 0, 1, []), (13, 53, .getfield 9, 3, [5, 2, 2, 369, 1]), (14, 56, .bipush 60, 2, []), (15, 58, .invokevirtual 157, 3, [1, 93, 1, 5, 0, 0, 9, 826, 827, 828, 123, 829]), (16, 61, .ifCond .ne 27, 3, [27]), (17, 64, .aload_n 0, 1, []), (18, 65, .getfield 9, 3, [5, 2, 2, 369, 1]), (19, 68, .bipush 62, 2, []), (20, 70, .invokevirtual 157, 3, [1, 93, 1, 5, 0, 0, 9, 826, 827, 828, 123, 829]), (21, 73, .ifCond .ne 15, 3, [27]), (22, 76, .aload_n 0, 1, []), (23, 77, .getfield 9, 3, [5, 2, 2, 369, 1]), (24, 80, .bipush 61, 2, []), (25, 82, .invokevirtual 157, 3, [1, 93, 1, 5, 0, 0, 9, 826, 827, 828, 123, 829]), (26, 85, .ifCond .eq 7, 3, [29]), (27, 88, .iconst 1, 1, []), (28, 89, .goto 4, 3, [30]), (29, 92, .iconst 0, 1, []), (30, 93, .ireturn, 1, [5]), (31, 94, .aload_n 0, 1, []), (32, 95, .getfield 9, 3, [5, 2, 2, 369, 1]), (33, 98, .bipush 43, 2, []), (34, 100, .invokevirtual 157, 3, [1, 93, 1, 5, 0, 0, 9, 826, 827, 828, 123, 829]), (35, 103, .ifCond .ne 15, 3, [41]), (36, 106, .aload_n 0, 1, []), (37, 107, .getfield 9, 3, [5, 2, 2, 369, 1]), (38, 110, .bipush 45, 2, []), (39, 112, .invokevirtual 157, 3, [1, 93, 1, 5, 0, 0, 9, 826, 827, 828, 123, 829]), (40, 115, .ifCond .eq 7, 3, [43]), (41, 118, .iconst 1, 1, []), (42, 119, .goto 4, 3, [44]), (43, 122, .iconst 0, 1, []), (44, 123, .ireturn, 1, [5]), (45, 124, .aload_n 0, 1, []), (46, 125, .getfield 9, 3, [5, 2, 2, 369, 1]), (47, 128, .bipush 42, 2, []), (48, 130, .invokevirtual 157, 3, [1, 93, 1, 5, 0, 0, 9, 826, 827, 828, 123, 829]), (49, 133, .ifCond .ne 27, 3, [60]), (50, 136, .aload_n 0, 1, []), (51, 137, .getfield 9, 3, [5, 2, 2, 369, 1]), (52, 140, .bipush 47, 2, []), (53, 142, .invokevirtual 157, 3, [1, 93, 1, 5, 0, 0, 9, 826, 827, 828, 123, 829]), (54, 145, .ifCond .ne 15, 3, [60]), (55, 148, .aload_n 0, 1, []), (56, 149, .getfield 9, 3, [5, 2, 2, 369, 1]), (57, 152, .bipush 37, 2, []), (58, 154, .invokevirtual 157, 3, [1, 93, 1, 5, 0, 0, 9, 826, 827, 828, 123, 829]), (59, 157, .ifCond .eq 7, 3, [62]), (60, 160, .iconst 1, 1, []), (61, 161, .goto 4, 3, [63]), (62, 164, .iconst 0, 1, []), (63, 165, .ireturn, 1, [5])]
set_option maxRecDepth 20000 in
def kX5_unit : List INS := [(0, 0, .aload_n 0, 1, []), (1, 1, .getfield 9, 3, [5, 2, 2, 369, 1]), (2, 4, .bipush 40, 2, []), (3, 6, .invokevirtual 157, 3, [1, 93, 1, 5, 0, 0, 9, 826, 827, 828, 123, 829]), (4, 9, .istore_n 2, 1, []), (5, 10, .iload_n 2, 1, []), (6, 11, .ifCond .ne 25, 3, [17]), (7, 14, .aload_n 0, 1, []), (8, 15, .getfield 9, 3, [5, 2, 2, 369, 1]), (9, 18, .getfield 47, 3, [9, 8, 0, 328, 0]), (10, 21, .iconst 3, 1, []), (11, 22, .if_icmp .eq 14, 3, [17]), (12, 25, .aload_n 0, 1, []), (13, 26, .getfield 9, 3, [5, 2, 2, 369, 1]), (14, 29, .getfield 47, 3, [9, 8, 0, 328, 0]), (15, 32, .iconst 4, 1, []), (16, 33, .if_icmp .ne 7, 3, [19]), (17, 36, .iconst 1, 1, []), (18, 37, .goto 4, 3, [20]), (19, 40, .iconst 0, 1, []), (20, 41, .istore_n 3, 1, []), (21, 42, .aload_n 0, 1, []), (22, 43, .getfield 129, 3, [5, 8, 0, 375, 0]), (23, 46, .bipush 30, 2, []), (24, 48, .if_icmp .eq 15, 3, [30]), (25, 51, .aload_n 0, 1, []), (26, 52, .getfield 15, 3, [5, 5, 2, 372, 0]), (27, 55, .getfield 160, 3, [4, 17, 0, 215, 0]), (28, 58, .bipush 90, 2, []), (29, 60, .if_icmp .ne 7, 3, [32]), (30, 63, .iconst 1, 1, []), (31, 64, .goto 4, 3, [33]), (32, 67, .iconst 0, 1, []), (33, 68, .istore 4, 2, []), (34, 70, .iload_n 3, 1, []), (35, 71, .ifCond .eq 18, 3, [43]), (36, 74, .iload 4, 2, []), (37, 76, .ifCond .ne 13, 3, [43]), (38, 79, .iload_n 2, 1, []), (39, 80, .ifCond .eq 15, 3, [47]), (40, 83, .iload_n 1, 1, []), (41, 84, .bipush 6, 2, []), (42, 86, .if_icmp .le 9, 3, [47]), (43, 89, .aload_n 0, 1, []), (44, 90, .iconst 2, 1, []), (45, 91, .invokevirtual 55, 3, [1, 35, 1, 5, 0, 0, 5, 797, 799, 6, 128, 800]), (46, 94, .ireturn, 1, [5]), (47, 95, .aload_n 0, 1, []), (48, 96, .dup, 1, []), (49, 97, .getfield 129, 3, [5, 8, 0, 375, 0]), (50, 100, .iconst 1, 1, []), (51, 101, .iadd, 1, []), (52, 102, .putfield 129, 3, [5, 8, 0, 375, 0]), (53, 105, .aload_n 0, 1, []), (54, 106, .getfield 15, 3, [5, 5, 2, 372, 0]), (55, 109, .dup, 1, []), (56, 110, .getfield 160, 3, [4, 17, 0, 215, 0]), (57, 113, .iconst 1, 1, []), (58, 114, .iadd, 1, []), (59, 115, .putfield 160, 3, [4, 17, 0, 215, 0]), (60, 118, .iload_n 2, 1, []), (61, 119, .ifCond .eq 36, 3, [80]), (62, 122, .aload_n 0, 1, []), (63, 123, .getfield 9, 3, [5, 2, 2, 369, 1]), (64, 126, .invokevirtual 81, 3, [1, 94, 0, 9, 0, 0, 9, 805, 790, 791, 123, 792]), (65, 129, .aload_n 0, 1, []), (66, 130, .iconst 0, 1, []), (67, 131, .iload_n 1, 1, []), (68, 132, .iconst 1, 1, []), (69, 133, .iadd, 1, []), (70, 134, .invokevirtual 132, 3, [1, 41, 2, 5, 0, 0, 5, 858, 860, 16, 128, 861]), (71, 137, .ifCond .eq 16, 3, [78]), (72, 140, .aload_n 0, 1, []), (73, 141, .bipush 41, 2, []), (74, 143, .invokevirtual 99, 3, [1, 50, 1, 5, 0, 0, 5, 822, 824, 11, 128, 825]), (75, 146, .ifCond .eq 7, 3, [78]), (76, 149, .iconst 1, 1, []), (77, 150, .goto 4, 3, [79]), (78, 153, .iconst 0, 1, []), (79, 154, .ireturn, 1, [5]), (80, 155, .aload_n 0, 1, []), (81, 156, .getfield 9, 3, [5, 2, 2, 369, 1]), (82, 159, .getfield 47, 3, [9, 8, 0, 328, 0]), (83, 162, .iconst 4, 1, []), (84, 163, .if_icmp .ne 21, 3, [93]), (85, 166, .aload_n 0, 1, []), (86, 167, .getfield 15, 3, [5, 5, 2, 372, 0]), (87, 170, .aload_n 0, 1, []), (88, 171, .getfield 9, 3, [5, 2, 2, 369, 1]), (89, 174, .getfield 59, 3, [9, 10, 1, 332, 0]), (90, 177, .l2i, 1, []), (91, 178, .invokevirtual 154, 3, [1, 28, 1, 9, 0, 0, 4, 866, 867, 868, 122, 869]), (92, 181, .goto 34, 3, [109]), (93, 184, .aload_n 0, 1, []), (94, 185, .invokevirtual 163, 3, [1, 47, 0, 0, 0, 0, 5, 870, 872, 18, 128, 873]), (95, 188, .istore 5, 2, []), (96, 190, .iload 5, 2, []), (97, 192, .iconst (-1), 1, []), (98, 193, .if_icmp .ne 9, 3, [103]), (99, 196, .aload_n 0, 1, []), (100, 197, .iconst 5, 1, []), (101, 198, .invokevirtual 55, 3, [1, 35, 1, 5, 0, 0, 5, 797, 799, 6, 128, 800]), (102, 201, .ireturn, 1, [5]), (103, 202, .aload_n 0, 1, []), (104, 203, .getfield 15, 3, [5, 5, 2, 372, 0]), (105, 206, .sipush 10000, 3, []), (106, 209, .iload 5, 2, []), (107, 211, .iadd, 1, []), (108, 212, .invokevirtual 154, 3, [1, 28, 1, 9, 0, 0, 4, 866, 867, 868, 122, 869]), (109, 215, .aload_n 0, 1, []), (110, 216, .getfield 9, 3, [5, 2, 2, 369, 1]), (111, 219, .invokevirtual 81, 3, [1, 94, 0, 9, 0, 0, 9, 805, 790, 791, 123, 792]), (112, 222, .iconst 1, 1, []), (113, 223, .ireturn, 1, [5])]
set_option maxRecDepth 20000 in
def kX5_find : List INS := [(0, 0, .iconst 0, 1, []), (1, 1, .istore_n 3, 1, []), (2, 2, .iload_n 3, 1, []), (3, 3, .iload_n 2, 1, []), (4, 4, .if_icmp .ge 31, 3, [21]), (5, 7, .iload_n 3, 1, []), (6, 8, .aload_n 1, 1, []), (7, 9, .arraylength, 1, []), (8, 10, .if_icmp .ge 25, 3, [21]), (9, 13, .aload_n 1, 1, []), (10, 14, .iload_n 3, 1, []), (11, 15, .laload, 1, []), (12, 16, .aload_n 0, 1, []), (13, 17, .getfield 9, 3, [5, 2, 2, 369, 1]), (14, 20, .getfield 59, 3, [9, 10, 1, 332, 0]), (15, 23, .lcmp, 1, []), (16, 24, .ifCond .ne 5, 3, [19]), (17, 27, .iload_n 3, 1, []), (18, 28, .ireturn, 1, [0]), (19, 29, .iinc 3 1, 3, []), (20, 32, .goto (-30), 3, [2]), (21, 35, .iconst (-1), 1, []), (22, 36, .ireturn, 1, [0])]
set_option maxRecDepth 20000 in
def kX5_towerHere : List INS := [(0, 0, .aload_n 0, 1, []), (1, 1, .aload_n 0, 1, []), (2, 2, .getfield 21, 3, [5, 3, 2, 370, 1]), (3, 5, .aload_n 0, 1, []), (4, 6, .getfield 15, 3, [5, 5, 2, 372, 0]), (5, 9, .getfield 78, 3, [4, 0, 0, 158, 0]), (6, 12, .invokevirtual 121, 3, [1, 45, 2, 0, 0, 0, 5, 810, 812, 9, 128, 813]), (7, 15, .ireturn, 1, [0])]
set_option maxRecDepth 20000 in
def kX5_startHere : List INS := [(0, 0, .iconst 0, 1, []), (1, 1, .istore_n 1, 1, []), (2, 2, .iload_n 1, 1, []), (3, 3, .aload_n 0, 1, []), (4, 4, .getfield 15, 3, [5, 5, 2, 372, 0]), (5, 7, .getfield 75, 3, [4, 5, 0, 173, 0]), (6, 10, .if_icmp .ge 36, 3, [24]), (7, 13, .aload_n 0, 1, []), (8, 14, .getfield 21, 3, [5, 3, 2, 370, 1]), (9, 17, .aload_n 0, 1, []), (10, 18, .getfield 15, 3, [5, 5, 2, 372, 0]), (11, 21, .getfield 166, 3, [4, 6, 2, 184, 1]), (12, 24, .iload_n 1, 1, []), (13, 25, .iaload, 1, []), (14, 26, .laload, 1, []), (15, 27, .aload_n 0, 1, []), (16, 28, .getfield 9, 3, [5, 2, 2, 369, 1]), (17, 31, .getfield 59, 3, [9, 10, 1, 332, 0]), (18, 34, .lcmp, 1, []), (19, 35, .ifCond .ne 5, 3, [22]), (20, 38, .iload_n 1, 1, []), (21, 39, .ireturn, 1, [0]), (22, 40, .iinc 1 1, 3, []), (23, 43, .goto (-41), 3, [2]), (24, 46, .iconst (-1), 1, []), (25, 47, .ireturn, 1, [0])]
set_option maxRecDepth 20000 in
def kX5_isTowerHere : List INS := [(0, 0, .aload_n 0, 1, []), (1, 1, .getfield 9, 3, [5, 2, 2, 369, 1]), (2, 4, .getfield 47, 3, [9, 8, 0, 328, 0]), (3, 7, .iconst 3, 1, []), (4, 8, .if_icmp .eq 9, 3, [9]), (5, 11, .aload_n 0, 1, []), (6, 12, .iconst 2, 1, []), (7, 13, .invokevirtual 55, 3, [1, 35, 1, 5, 0, 0, 5, 797, 799, 6, 128, 800]), (8, 16, .ireturn, 1, [5]), (9, 17, .iload_n 1, 1, []), (10, 18, .iconst (-1), 1, []), (11, 19, .if_icmp .ne 11, 3, [16]), (12, 22, .aload_n 0, 1, []), (13, 23, .iconst 5, 1, []), (14, 24, .invokevirtual 55, 3, [1, 35, 1, 5, 0, 0, 5, 797, 799, 6, 128, 800]), (15, 27, .ifCond .eq 7, 3, [18]), (16, 30, .iconst 1, 1, []), (17, 31, .goto 4, 3, [19]), (18, 34, .iconst 0, 1, []), (19, 35, .ireturn, 1, [5])]
set_option maxRecDepth 20000 in
def kX5_takeWord : List INS := [(0, 0, .aload_n 0, 1, []), (1, 1, .getfield 9, 3, [5, 2, 2, 369, 1]), (2, 4, .iload_n 1, 1, []), (3, 5, .invokevirtual 145, 3, [1, 92, 1, 5, 0, 0, 9, 846, 847, 848, 123, 849]), (4, 8, .ifCond .ne 9, 3, [9]), (5, 11, .aload_n 0, 1, []), (6, 12, .iconst 2, 1, []), (7, 13, .invokevirtual 55, 3, [1, 35, 1, 5, 0, 0, 5, 797, 799, 6, 128, 800]), (8, 16, .ireturn, 1, [5]), (9, 17, .aload_n 0, 1, []), (10, 18, .getfield 9, 3, [5, 2, 2, 369, 1]), (11, 21, .invokevirtual 81, 3, [1, 94, 0, 9, 0, 0, 9, 805, 790, 791, 123, 792]), (12, 24, .iconst 1, 1, []), (13, 25, .ireturn, 1, [5])]
set_option maxRecDepth 20000 in
def kX5_takeSign : List INS := [(0, 0, .aload_n 0, 1, []), (1, 1, .getfield 9, 3, [5, 2, 2, 369, 1]), (2, 4, .iload_n 1, 1, []), (3, 5, .invokevirtual 157, 3, [1, 93, 1, 5, 0, 0, 9, 826, 827, 828, 123, 829]), (4, 8, .ifCond .ne 9, 3, [9]), (5, 11, .aload_n 0, 1, []), (6, 12, .iconst 2, 1, []), (7, 13, .invokevirtual 55, 3, [1, 35, 1, 5, 0, 0, 5, 797, 799, 6, 128, 800]), (8, 16, .ireturn, 1, [5]), (9, 17, .aload_n 0, 1, []), (10, 18, .getfield 9, 3, [5, 2, 2, 369, 1]), (11, 21, .invokevirtual 81, 3, [1, 94, 0, 9, 0, 0, 9, 805, 790, 791, 123, 792]), (12, 24, .iconst 1, 1, []), (13, 25, .ireturn, 1, [5])]
set_option maxRecDepth 20000 in
def kX5_takeNumber : List INS := [(0, 0, .aload_n 0, 1, []), (1, 1, .getfield 9, 3, [5, 2, 2, 369, 1]), (2, 4, .getfield 47, 3, [9, 8, 0, 328, 0]), (3, 7, .iconst 4, 1, []), (4, 8, .if_icmp .eq 9, 3, [9]), (5, 11, .aload_n 0, 1, []), (6, 12, .iconst 2, 1, []), (7, 13, .invokevirtual 55, 3, [1, 35, 1, 5, 0, 0, 5, 797, 799, 6, 128, 800]), (8, 16, .ireturn, 1, [5]), (9, 17, .aload_n 0, 1, []), (10, 18, .aload_n 0, 1, []), (11, 19, .getfield 9, 3, [5, 2, 2, 369, 1]), (12, 22, .getfield 59, 3, [9, 10, 1, 332, 0]), (13, 25, .l2i, 1, []), (14, 26, .putfield 88, 3, [5, 7, 0, 374, 0]), (15, 29, .aload_n 0, 1, []), (16, 30, .getfield 88, 3, [5, 7, 0, 374, 0]), (17, 33, .iload_n 1, 1, []), (18, 34, .if_icmp .lt 11, 3, [23]), (19, 37, .aload_n 0, 1, []), (20, 38, .getfield 88, 3, [5, 7, 0, 374, 0]), (21, 41, .iload_n 2, 1, []), (22, 42, .if_icmp .le 9, 3, [27]), (23, 45, .aload_n 0, 1, []), (24, 46, .iconst 4, 1, []), (25, 47, .invokevirtual 55, 3, [1, 35, 1, 5, 0, 0, 5, 797, 799, 6, 128, 800]), (26, 50, .ireturn, 1, [5]), (27, 51, .aload_n 0, 1, []), (28, 52, .getfield 9, 3, [5, 2, 2, 369, 1]), (29, 55, .invokevirtual 81, 3, [1, 94, 0, 9, 0, 0, 9, 805, 790, 791, 123, 792]), (30, 58, .iconst 1, 1, []), (31, 59, .ireturn, 1, [5])]
set_option maxRecDepth 20000 in
def kX6_init : List INS := [(0, 0, .aload_n 0, 1, []), (1, 1, .invokespecial 3, 3, [9, 0, 0, 9, 0, 0, 0, 498, 147, 0, 0, 148]), (2, 4, .aload_n 0, 1, []), (3, 5, .bipush 61, 2, []), (4, 7, .bipush 10, 2, []), (5, 9, .multianewarray 13 2, 4, [105, 499, 500, 259]), (6, 13, .putfield 15, 3, [6, 0, 2, 501, 1]), (7, 16, .aload_n 0, 1, []), (8, 17, .bipush 10, 2, []), (9, 19, .newarray .int, 2, [100, 259]), (10, 21, .putfield 18, 3, [6, 1, 2, 502, 1]), (11, 24, .return_, 1, [])]
set_option maxRecDepth 20000 in
def kX6_fill : List INS := [(0, 0, .iconst 0, 1, []), (1, 1, .istore_n 3, 1, []), (2, 2, .iload_n 3, 1, []), (3, 3, .bipush 60, 2, []), (4, 5, .if_icmp .gt 139, 3, [79]), (5, 8, .iconst 0, 1, []), (6, 9, .istore 4, 2, []), (7, 11, .iload 4, 2, []), (8, 13, .aload_n 1, 1, []), (9, 14, .getfield 22, 3, [4, 0, 0, 156, 0]), (10, 17, .if_icmp .ge 33, 3, [27]), (11, 20, .aload_n 0, 1, []), (12, 21, .getfield 15, 3, [6, 0, 2, 501, 1]), (13, 24, .iload_n 3, 1, []), (14, 25, .aaload, 1, [105]), (15, 26, .iload 4, 2, []), (16, 28, .iload_n 3, 1, []), (17, 29, .ifCond .ne 13, 3, [23]), (18, 32, .iload 4, 2, []), (19, 34, .iload_n 2, 1, []), (20, 35, .if_icmp .ne 7, 3, [23]), (21, 38, .iconst 1, 1, []), (22, 39, .goto 4, 3, [24]), (23, 42, .iconst 0, 1, []), (24, 43, .iastore, 1, []), (25, 44, .iinc 4 1, 3, []), (26, 47, .goto (-36), 3, [7]), (27, 50, .iconst 0, 1, []), (28, 51, .istore 4, 2, []), (29, 53, .iload 4, 2, []), (30, 55, .aload_n 1, 1, []), (31, 56, .getfield 26, 3, [4, 7, 0, 186, 0]), (32, 59, .if_icmp .ge 79, 3, [77]), (33, 62, .aload_n 1, 1, []), (34, 63, .getfield 29, 3, [4, 10, 2, 200, 1]), (35, 66, .iload 4, 2, []), (36, 68, .iaload, 1, []), (37, 69, .iload_n 3, 1, []), (38, 70, .if_icmp .gt 62, 3, [75]), (39, 73, .aload_n 1, 1, []), (40, 74, .getfield 32, 3, [4, 8, 2, 193, 1]), (41, 77, .iload 4, 2, []), (42, 79, .iaload, 1, []), (43, 80, .istore 5, 2, []), (44, 82, .aload_n 0, 1, []), (45, 83, .getfield 15, 3, [6, 0, 2, 501, 1]), (46, 86, .iload_n 3, 1, []), (47, 87, .aaload, 1, [105]), (48, 88, .iload 5, 2, []), (49, 90, .iaload, 1, []), (50, 91, .aload_n 0, 1, []), (51, 92, .getfield 15, 3, [6, 0, 2, 501, 1]), (52, 95, .iload_n 3, 1, []), (53, 96, .aload_n 1, 1, []), (54, 97, .getfield 29, 3, [4, 10, 2, 200, 1]), (55, 100, .iload 4, 2, []), (56, 102, .iaload, 1, []), (57, 103, .isub, 1, []), (58, 104, .aaload, 1, [105]), (59, 105, .aload_n 1, 1, []), (60, 106, .getfield 35, 3, [4, 9, 2, 196, 1]), (61, 109, .iload 4, 2, []), (62, 111, .iaload, 1, []), (63, 112, .iaload, 1, []), (64, 113, .iadd, 1, []), (65, 114, .istore 6, 2, []), (66, 116, .aload_n 0, 1, []), (67, 117, .getfield 15, 3, [6, 0, 2, 501, 1]), (68, 120, .iload_n 3, 1, []), (69, 121, .aaload, 1, [105]), (70, 122, .iload 5, 2, []), (71, 124, .ldc 38, 2, [1000000000, 1188]), (72, 126, .iload 6, 2, []), (73, 128, .invokestatic 39, 3, [4, 0, 2, 0, 0, 0, 0, 1189, 749, 0, 138, 750]), (74, 131, .iastore, 1, []), (75, 132, .iinc 4 1, 3, []), (76, 135, .goto (-82), 3, [29]), (77, 138, .iinc 3 1, 3, []), (78, 141, .goto (-139), 3, [2]), (79, 144, .return_, 1, [])]
set_option maxRecDepth 20000 in
def kX6_count : List INS := [(0, 0, .aload_n 0, 1, []), (1, 1, .aload_n 1, 1, []), (2, 2, .iload_n 3, 1, []), (3, 3, .invokevirtual 45, 3, [1, 53, 2, 9, 0, 0, 6, 1184, 1186, 38, 132, 1187]), (4, 6, .aload_n 0, 1, []), (5, 7, .getfield 15, 3, [6, 0, 2, 501, 1]), (6, 10, .iload 4, 2, []), (7, 12, .aaload, 1, [105]), (8, 13, .iload_n 2, 1, []), (9, 14, .iaload, 1, []), (10, 15, .ireturn, 1, [0])]
set_option maxRecDepth 20000 in
def kX6_firstMeeting : List INS := [(0, 0, .aload_n 0, 1, []), (1, 1, .aload_n 1, 1, []), (2, 2, .iload 4, 2, []), (3, 4, .invokevirtual 45, 3, [1, 53, 2, 9, 0, 0, 6, 1184, 1186, 38, 132, 1187]), (4, 7, .iconst 0, 1, []), (5, 8, .istore 5, 2, []), (6, 10, .iload 5, 2, []), (7, 12, .bipush 60, 2, []), (8, 14, .if_icmp .gt 36, 3, [27]), (9, 17, .aload_n 0, 1, []), (10, 18, .getfield 15, 3, [6, 0, 2, 501, 1]), (11, 21, .iload 5, 2, []), (12, 23, .aaload, 1, [105]), (13, 24, .iload_n 2, 1, []), (14, 25, .iaload, 1, []), (15, 26, .ifCond .le 18, 3, [25]), (16, 29, .aload_n 0, 1, []), (17, 30, .getfield 15, 3, [6, 0, 2, 501, 1]), (18, 33, .iload 5, 2, []), (19, 35, .aaload, 1, [105]), (20, 36, .iload_n 3, 1, []), (21, 37, .iaload, 1, []), (22, 38, .ifCond .le 6, 3, [25]), (23, 41, .iload 5, 2, []), (24, 43, .ireturn, 1, [0]), (25, 44, .iinc 5 1, 3, []), (26, 47, .goto (-37), 3, [6]), (27, 50, .iconst (-1), 1, []), (28, 51, .ireturn, 1, [0])]
set_option maxRecDepth 20000 in
def kX6_lengths : List INS := [(0, 0, .aload_n 0, 1, []), (1, 1, .aload_n 1, 1, []), (2, 2, .iload_n 3, 1, []), (3, 3, .invokevirtual 45, 3, [1, 53, 2, 9, 0, 0, 6, 1184, 1186, 38, 132, 1187]), (4, 6, .iconst 0, 1, []), (5, 7, .istore 4, 2, []), (6, 9, .iconst 0, 1, []), (7, 10, .istore 5, 2, []), (8, 12, .iload 5, 2, []), (9, 14, .bipush 60, 2, []), (10, 16, .if_icmp .gt 24, 3, [21]), (11, 19, .aload_n 0, 1, []), (12, 20, .getfield 15, 3, [6, 0, 2, 501, 1]), (13, 23, .iload 5, 2, []), (14, 25, .aaload, 1, [105]), (15, 26, .iload_n 2, 1, []), (16, 27, .iaload, 1, []), (17, 28, .ifCond .le 6, 3, [19]), (18, 31, .iinc 4 1, 3, []), (19, 34, .iinc 5 1, 3, []), (20, 37, .goto (-25), 3, [8]), (21, 40, .iload 4, 2, []), (22, 42, .ireturn, 1, [0])]
set_option maxRecDepth 20000 in
def kX6_close : List INS := [(0, 0, .iconst 0, 1, []), (1, 1, .istore_n 2, 1, []), (2, 2, .iload_n 2, 1, []), (3, 3, .aload_n 1, 1, []), (4, 4, .getfield 22, 3, [4, 0, 0, 156, 0]), (5, 7, .if_icmp .ge 16, 3, [13]), (6, 10, .aload_n 0, 1, []), (7, 11, .getfield 18, 3, [6, 1, 2, 502, 1]), (8, 14, .iload_n 2, 1, []), (9, 15, .iconst 0, 1, []), (10, 16, .iastore, 1, []), (11, 17, .iinc 2 1, 3, []), (12, 20, .goto (-18), 3, [2]), (13, 23, .iconst 0, 1, []), (14, 24, .istore_n 2, 1, []), (15, 25, .iload_n 2, 1, []), (16, 26, .aload_n 1, 1, []), (17, 27, .getfield 26, 3, [4, 7, 0, 186, 0]), (18, 30, .if_icmp .ge 31, 3, [37]), (19, 33, .aload_n 0, 1, []), (20, 34, .getfield 18, 3, [6, 1, 2, 502, 1]), (21, 37, .aload_n 1, 1, []), (22, 38, .getfield 32, 3, [4, 8, 2, 193, 1]), (23, 41, .iload_n 2, 1, []), (24, 42, .iaload, 1, []), (25, 43, .dup2, 1, []), (26, 44, .iaload, 1, []), (27, 45, .iconst 1, 1, []), (28, 46, .aload_n 1, 1, []), (29, 47, .getfield 35, 3, [4, 9, 2, 196, 1]), (30, 50, .iload_n 2, 1, []), (31, 51, .iaload, 1, []), (32, 52, .ishl, 1, []), (33, 53, .ior, 1, []), (34, 54, .iastore, 1, []), (35, 55, .iinc 2 1, 3, []), (36, 58, .goto (-33), 3, [15]), (37, 61, .iconst 0, 1, []), (38, 62, .istore_n 2, 1, []), (39, 63, .iload_n 2, 1, []), (40, 64, .aload_n 1, 1, []), (41, 65, .getfield 22, 3, [4, 0, 0, 156, 0]), (42, 68, .if_icmp .ge 54, 3, [74]), (43, 71, .iconst 0, 1, []), (44, 72, .istore_n 3, 1, []), (45, 73, .iload_n 3, 1, []), (46, 74, .aload_n 1, 1, []), (47, 75, .getfield 22, 3, [4, 0, 0, 156, 0]), (48, 78, .if_icmp .ge 38, 3, [72]), (49, 81, .aload_n 0, 1, []), (50, 82, .getfield 18, 3, [6, 1, 2, 502, 1]), (51, 85, .iload_n 3, 1, []), (52, 86, .iaload, 1, []), (53, 87, .iload_n 2, 1, []), (54, 88, .ishr, 1, []), (55, 89, .iconst 1, 1, []), (56, 90, .iand, 1, []), (57, 91, .iconst 1, 1, []), (58, 92, .if_icmp .ne 18, 3, [70]), (59, 95, .aload_n 0, 1, []), (60, 96, .getfield 18, 3, [6, 1, 2, 502, 1]), (61, 99, .iload_n 3, 1, []), (62, 100, .dup2, 1, []), (63, 101, .iaload, 1, []), (64, 102, .aload_n 0, 1, []), (65, 103, .getfield 18, 3, [6, 1, 2, 502, 1]), (66, 106, .iload_n 2, 1, []), (67, 107, .iaload, 1, []), (68, 108, .ior, 1, []), (69, 109, .iastore, 1, []), (70, 110, .iinc 3 1, 3, []), (71, 113, .goto (-40), 3, [45]), (72, 116, .iinc 2 1, 3, []), (73, 119, .goto (-56), 3, [39]), (74, 122, .return_, 1, [])]
set_option maxRecDepth 20000 in
def kX6_returning : List INS := [(0, 0, .aload_n 0, 1, []), (1, 1, .aload_n 1, 1, []), (2, 2, .invokevirtual 49, 3, [1, 57, 1, 9, 0, 0, 6, 1094, 1096, 33, 132, 1097]), (3, 5, .iconst 0, 1, []), (4, 6, .istore_n 2, 1, []), (5, 7, .iconst 0, 1, []), (6, 8, .istore_n 3, 1, []), (7, 9, .iload_n 3, 1, []), (8, 10, .aload_n 1, 1, []), (9, 11, .getfield 22, 3, [4, 0, 0, 156, 0]), (10, 14, .if_icmp .ge 22, 3, [24]), (11, 17, .iload_n 2, 1, []), (12, 18, .aload_n 0, 1, []), (13, 19, .getfield 18, 3, [6, 1, 2, 502, 1]), (14, 22, .iload_n 3, 1, []), (15, 23, .iaload, 1, []), (16, 24, .iconst 1, 1, []), (17, 25, .iload_n 3, 1, []), (18, 26, .ishl, 1, []), (19, 27, .iand, 1, []), (20, 28, .ior, 1, []), (21, 29, .istore_n 2, 1, []), (22, 30, .iinc 3 1, 3, []), (23, 33, .goto (-24), 3, [7]), (24, 36, .iload_n 2, 1, []), (25, 37, .ireturn, 1, [0])]
set_option maxRecDepth 20000 in
def kX6_between : List INS := [(0, 0, .aload_n 0, 1, []), (1, 1, .aload_n 1, 1, []), (2, 2, .invokevirtual 49, 3, [1, 57, 1, 9, 0, 0, 6, 1094, 1096, 33, 132, 1097]), (3, 5, .iconst 0, 1, []), (4, 6, .istore_n 3, 1, []), (5, 7, .iconst 0, 1, []), (6, 8, .istore 4, 2, []), (7, 10, .iload 4, 2, []), (8, 12, .aload_n 1, 1, []), (9, 13, .getfield 53, 3, [4, 5, 0, 176, 0]), (10, 16, .if_icmp .ge 33, 3, [29]), (11, 19, .aload_n 1, 1, []), (12, 20, .getfield 56, 3, [4, 6, 2, 181, 1]), (13, 23, .iload 4, 2, []), (14, 25, .iaload, 1, []), (15, 26, .istore 5, 2, []), (16, 28, .iload_n 3, 1, []), (17, 29, .aload_n 0, 1, []), (18, 30, .getfield 18, 3, [6, 1, 2, 502, 1]), (19, 33, .iload 5, 2, []), (20, 35, .iaload, 1, []), (21, 36, .iconst 1, 1, []), (22, 37, .iload 5, 2, []), (23, 39, .ishl, 1, []), (24, 40, .ior, 1, []), (25, 41, .ior, 1, []), (26, 42, .istore_n 3, 1, []), (27, 43, .iinc 4 1, 3, []), (28, 46, .goto (-36), 3, [7]), (29, 49, .iconst 0, 1, []), (30, 50, .istore 4, 2, []), (31, 52, .iconst 0, 1, []), (32, 53, .istore 5, 2, []), (33, 55, .iload 5, 2, []), (34, 57, .aload_n 1, 1, []), (35, 58, .getfield 26, 3, [4, 7, 0, 186, 0]), (36, 61, .if_icmp .ge 67, 3, [77]), (37, 64, .aload_n 0, 1, []), (38, 65, .getfield 18, 3, [6, 1, 2, 502, 1]), (39, 68, .aload_n 1, 1, []), (40, 69, .getfield 35, 3, [4, 9, 2, 196, 1]), (41, 72, .iload 5, 2, []), (42, 74, .iaload, 1, []), (43, 75, .iaload, 1, []), (44, 76, .iconst 1, 1, []), (45, 77, .aload_n 1, 1, []), (46, 78, .getfield 35, 3, [4, 9, 2, 196, 1]), (47, 81, .iload 5, 2, []), (48, 83, .iaload, 1, []), (49, 84, .ishl, 1, []), (50, 85, .ior, 1, []), (51, 86, .istore 6, 2, []), (52, 88, .iload_n 3, 1, []), (53, 89, .aload_n 1, 1, []), (54, 90, .getfield 32, 3, [4, 8, 2, 193, 1]), (55, 93, .iload 5, 2, []), (56, 95, .iaload, 1, []), (57, 96, .ishr, 1, []), (58, 97, .iconst 1, 1, []), (59, 98, .iand, 1, []), (60, 99, .iconst 1, 1, []), (61, 100, .if_icmp .ne 22, 3, [75]), (62, 103, .iload 6, 2, []), (63, 105, .iload_n 2, 1, []), (64, 106, .ishr, 1, []), (65, 107, .iconst 1, 1, []), (66, 108, .iand, 1, []), (67, 109, .iconst 1, 1, []), (68, 110, .if_icmp .ne 12, 3, [75]), (69, 113, .iload 4, 2, []), (70, 115, .iconst 1, 1, []), (71, 116, .iload 5, 2, []), (72, 118, .ishl, 1, []), (73, 119, .ior, 1, []), (74, 120, .istore 4, 2, []), (75, 122, .iinc 5 1, 3, []), (76, 125, .goto (-70), 3, [33]), (77, 128, .iload 4, 2, []), (78, 130, .ireturn, 1, [0])]
set_option maxRecDepth 20000 in
def kX7_init : List INS := [(0, 0, .aload_n 0, 1, []), (1, 1, .invokespecial 5, 3, [9, 0, 0, 9, 0, 0, 0, 590, 147, 0, 0, 148]), (2, 4, .aload_n 0, 1, []), (3, 5, .aload_n 1, 1, []), (4, 6, .putfield 11, 3, [7, 6, 2, 598, 1]), (5, 9, .aload_n 0, 1, []), (6, 10, .bipush 20, 2, []), (7, 12, .newarray .int, 2, [100, 259]), (8, 14, .putfield 17, 3, [7, 1, 2, 593, 1]), (9, 17, .aload_n 0, 1, []), (10, 18, .bipush 20, 2, []), (11, 20, .newarray .int, 2, [100, 259]), (12, 22, .putfield 21, 3, [7, 2, 2, 594, 1]), (13, 25, .aload_n 0, 1, []), (14, 26, .bipush 20, 2, []), (15, 28, .newarray .int, 2, [100, 259]), (16, 30, .putfield 24, 3, [7, 3, 2, 595, 1]), (17, 33, .aload_n 0, 1, []), (18, 34, .bipush 20, 2, []), (19, 36, .newarray .int, 2, [100, 259]), (20, 38, .putfield 27, 3, [7, 4, 2, 596, 1]), (21, 41, .aload_n 0, 1, []), (22, 42, .bipush 20, 2, []), (23, 44, .newarray .int, 2, [100, 259]), (24, 46, .putfield 30, 3, [7, 5, 2, 597, 1]), (25, 49, .aload_n 0, 1, []), (26, 50, .iconst 3, 1, []), (27, 51, .newarray .int, 2, [100, 259]), (28, 53, .putfield 35, 3, [7, 7, 2, 599, 1]), (29, 56, .aload_n 0, 1, []), (30, 57, .iconst 3, 1, []), (31, 58, .newarray .int, 2, [100, 259]), (32, 60, .putfield 38, 3, [7, 9, 2, 602, 1]), (33, 63, .aload_n 0, 1, []), (34, 64, .iconst 3, 1, []), (35, 65, .newarray .boolean, 2, [103, 492]), (36, 67, .putfield 41, 3, [7, 10, 2, 604, 1]), (37, 70, .return_, 1, [])]
set_option maxRecDepth 20000 in
def kX7_tell : List INS := [(0, 0, .aload_n 0, 1, []), (1, 1, .getfield 45, 3, [7, 0, 0, 591, 0]), (2, 4, .bipush 20, 2, []), (3, 6, .if_icmp .lt 5, 3, [6]), (4, 9, .iconst (-1), 1, []), (5, 10, .ireturn, 1, [0]), (6, 11, .aload_n 0, 1, []), (7, 12, .getfield 17, 3, [7, 1, 2, 593, 1]), (8, 15, .aload_n 0, 1, []), (9, 16, .getfield 45, 3, [7, 0, 0, 591, 0]), (10, 19, .iload_n 1, 1, []), (11, 20, .iastore, 1, []), (12, 21, .aload_n 0, 1, []), (13, 22, .getfield 21, 3, [7, 2, 2, 594, 1]), (14, 25, .aload_n 0, 1, []), (15, 26, .getfield 45, 3, [7, 0, 0, 591, 0]), (16, 29, .iload_n 2, 1, []), (17, 30, .iastore, 1, []), (18, 31, .aload_n 0, 1, []), (19, 32, .getfield 24, 3, [7, 3, 2, 595, 1]), (20, 35, .aload_n 0, 1, []), (21, 36, .getfield 45, 3, [7, 0, 0, 591, 0]), (22, 39, .iload_n 3, 1, []), (23, 40, .iastore, 1, []), (24, 41, .aload_n 0, 1, []), (25, 42, .getfield 27, 3, [7, 4, 2, 596, 1]), (26, 45, .aload_n 0, 1, []), (27, 46, .getfield 45, 3, [7, 0, 0, 591, 0]), (28, 49, .iload 4, 2, []), (29, 51, .iastore, 1, []), (30, 52, .aload_n 0, 1, []), (31, 53, .getfield 30, 3, [7, 5, 2, 597, 1]), (32, 56, .aload_n 0, 1, []), (33, 57, .getfield 45, 3, [7, 0, 0, 591, 0]), (34, 60, .ldc 49, 2, [2147483647, 1259]), (35, 62, .iastore, 1, []), (36, 63, .aload_n 0, 1, []), (37, 64, .dup, 1, []), (38, 65, .getfield 45, 3, [7, 0, 0, 591, 0]), (39, 68, .iconst 1, 1, []), (40, 69, .iadd, 1, []), (41, 70, .putfield 45, 3, [7, 0, 0, 591, 0]), (42, 73, .aload_n 0, 1, []), (43, 74, .getfield 45, 3, [7, 0, 0, 591, 0]), (44, 77, .iconst 1, 1, []), (45, 78, .isub, 1, []), (46, 79, .ireturn, 1, [0])]
set_option maxRecDepth 20000 in
def kX7_takeBack : List INS := [(0, 0, .iload_n 1, 1, []), (1, 1, .ifCond .lt 22, 3, [12]), (2, 4, .iload_n 1, 1, []), (3, 5, .aload_n 0, 1, []), (4, 6, .getfield 45, 3, [7, 0, 0, 591, 0]), (5, 9, .if_icmp .ge 14, 3, [12]), (6, 12, .aload_n 0, 1, []), (7, 13, .getfield 30, 3, [7, 5, 2, 597, 1]), (8, 16, .iload_n 1, 1, []), (9, 17, .iaload, 1, []), (10, 18, .ldc 49, 2, [2147483647, 1259]), (11, 20, .if_icmp .eq 5, 3, [14]), (12, 23, .iconst 0, 1, []), (13, 24, .ireturn, 1, [5]), (14, 25, .aload_n 0, 1, []), (15, 26, .getfield 30, 3, [7, 5, 2, 597, 1]), (16, 29, .iload_n 1, 1, []), (17, 30, .iload_n 2, 1, []), (18, 31, .iastore, 1, []), (19, 32, .iconst 1, 1, []), (20, 33, .ireturn, 1, [5])]
set_option maxRecDepth 20000 in
def kX7_isKnown : List INS := [(0, 0, .aload_n 0, 1, []), (1, 1, .getfield 27, 3, [7, 4, 2, 596, 1]), (2, 4, .iload_n 1, 1, []), (3, 5, .iaload, 1, []), (4, 6, .iload_n 2, 1, []), (5, 7, .if_icmp .gt 28, 3, [20]), (6, 10, .aload_n 0, 1, []), (7, 11, .getfield 30, 3, [7, 5, 2, 597, 1]), (8, 14, .iload_n 1, 1, []), (9, 15, .iaload, 1, []), (10, 16, .ldc 49, 2, [2147483647, 1259]), (11, 18, .if_icmp .eq 13, 3, [18]), (12, 21, .aload_n 0, 1, []), (13, 22, .getfield 30, 3, [7, 5, 2, 597, 1]), (14, 25, .iload_n 1, 1, []), (15, 26, .iaload, 1, []), (16, 27, .iload_n 2, 1, []), (17, 28, .if_icmp .le 7, 3, [20]), (18, 31, .iconst 1, 1, []), (19, 32, .goto 4, 3, [21]), (20, 35, .iconst 0, 1, []), (21, 36, .ireturn, 1, [5])]
set_option maxRecDepth 20000 in
def kX7_survey : List INS := [(0, 0, .aload_n 0, 1, []), (1, 1, .iconst 0, 1, []), (2, 2, .putfield 50, 3, [7, 8, 0, 600, 0]), (3, 5, .aload_n 1, 1, []), (4, 6, .iload_n 2, 1, []), (5, 7, .invokevirtual 53, 3, [1, 29, 1, 0, 0, 0, 4, 1281, 1087, 1088, 122, 1089]), (6, 10, .istore 4, 2, []), (7, 12, .iconst 0, 1, []), (8, 13, .istore 5, 2, []), (9, 15, .iload 5, 2, []), (10, 17, .iload 4, 2, []), (11, 19, .if_icmp .ge 134, 3, [79]), (12, 22, .aload_n 1, 1, []), (13, 23, .aload_n 0, 1, []), (14, 24, .getfield 35, 3, [7, 7, 2, 599, 1]), (15, 27, .iload_n 2, 1, []), (16, 28, .iload 5, 2, []), (17, 30, .invokevirtual 56, 3, [1, 30, 3, 9, 0, 0, 4, 1282, 1107, 1108, 122, 1109]), (18, 33, .aload_n 0, 1, []), (19, 34, .aload_n 1, 1, []), (20, 35, .iload_n 3, 1, []), (21, 36, .invokevirtual 60, 3, [1, 65, 2, 5, 0, 0, 7, 1283, 1285, 41, 136, 1286]), (22, 39, .ifCond .eq 108, 3, [77]), (23, 42, .iconst 0, 1, []), (24, 43, .istore 6, 2, []), (25, 45, .iload 6, 2, []), (26, 47, .aload_n 1, 1, []), (27, 48, .getfield 64, 3, [4, 5, 0, 175, 0]), (28, 51, .if_icmp .ge 86, 3, [71]), (29, 54, .aload_n 0, 1, []), (30, 55, .getfield 38, 3, [7, 9, 2, 602, 1]), (31, 58, .iload 6, 2, []), (32, 60, .aload_n 0, 1, []), (33, 61, .getfield 50, 3, [7, 8, 0, 600, 0]), (34, 64, .ifCond .ne 13, 3, [40]), (35, 67, .aload_n 0, 1, []), (36, 68, .getfield 35, 3, [7, 7, 2, 599, 1]), (37, 71, .iload 6, 2, []), (38, 73, .iaload, 1, []), (39, 74, .goto 10, 3, [44]), (40, 77, .aload_n 0, 1, []), (41, 78, .getfield 38, 3, [7, 9, 2, 602, 1]), (42, 81, .iload 6, 2, []), (43, 83, .iaload, 1, []), (44, 84, .iastore, 1, []), (45, 85, .aload_n 0, 1, []), (46, 86, .getfield 41, 3, [7, 10, 2, 604, 1]), (47, 89, .iload 6, 2, []), (48, 91, .aload_n 0, 1, []), (49, 92, .getfield 50, 3, [7, 8, 0, 600, 0]), (50, 95, .ifCond .le 34, 3, [67]), (51, 98, .aload_n 0, 1, []), (52, 99, .getfield 41, 3, [7, 10, 2, 604, 1]), (53, 102, .iload 6, 2, []), (54, 104, .baload, 1, [103]), (55, 105, .ifCond .ne 20, 3, [65]), (56, 108, .aload_n 0, 1, []), (57, 109, .getfield 35, 3, [7, 7, 2, 599, 1]), (58, 112, .iload 6, 2, []), (59, 114, .iaload, 1, []), (60, 115, .aload_n 0, 1, []), (61, 116, .getfield 38, 3, [7, 9, 2, 602, 1]), (62, 119, .iload 6, 2, []), (63, 121, .iaload, 1, []), (64, 122, .if_icmp .eq 7, 3, [67]), (65, 125, .iconst 1, 1, []), (66, 126, .goto 4, 3, [68]), (67, 129, .iconst 0, 1, []), (68, 130, .bastore, 1, [103]), (69, 131, .iinc 6 1, 3, []), (70, 134, .goto (-89), 3, [25]), (71, 137, .aload_n 0, 1, []), (72, 138, .dup, 1, []), (73, 139, .getfield 50, 3, [7, 8, 0, 600, 0]), (74, 142, .iconst 1, 1, []), (75, 143, .iadd, 1, []), (76, 144, .putfield 50, 3, [7, 8, 0, 600, 0]), (77, 147, .iinc 5 1, 3, []), (78, 150, .goto (-135), 3, [9]), (79, 153, .return_, 1, [])]
set_option maxRecDepth 20000 in
def kX7_isSo : List INS := [(0, 0, .aload_n 0, 1, []), (1, 1, .getfield 11, 3, [7, 6, 2, 598, 1]), (2, 4, .aload_n 1, 1, []), (3, 5, .aload_n 0, 1, []), (4, 6, .getfield 35, 3, [7, 7, 2, 599, 1]), (5, 9, .invokevirtual 67, 3, [1, 96, 2, 9, 0, 0, 10, 1287, 1041, 1042, 131, 1043]), (6, 12, .iconst 0, 1, []), (7, 13, .istore_n 3, 1, []), (8, 14, .iconst 0, 1, []), (9, 15, .istore 4, 2, []), (10, 17, .iload 4, 2, []), (11, 19, .aload_n 0, 1, []), (12, 20, .getfield 45, 3, [7, 0, 0, 591, 0]), (13, 23, .if_icmp .ge 35, 3, [30]), (14, 26, .aload_n 0, 1, []), (15, 27, .iload 4, 2, []), (16, 29, .iload_n 2, 1, []), (17, 30, .invokevirtual 73, 3, [1, 63, 2, 5, 0, 0, 7, 1288, 1290, 42, 136, 1291]), (18, 33, .ifCond .eq 17, 3, [26]), (19, 36, .iload_n 3, 1, []), (20, 37, .aload_n 0, 1, []), (21, 38, .getfield 21, 3, [7, 2, 2, 594, 1]), (22, 41, .iload 4, 2, []), (23, 43, .iaload, 1, []), (24, 44, .invokestatic 77, 3, [3, 0, 2, 0, 0, 0, 0, 1292, 746, 0, 138, 747]), (25, 47, .goto 4, 3, [27]), (26, 50, .iload_n 3, 1, []), (27, 51, .istore_n 3, 1, []), (28, 52, .iinc 4 1, 3, []), (29, 55, .goto (-38), 3, [10]), (30, 58, .iconst 1, 1, []), (31, 59, .istore 4, 2, []), (32, 61, .iload 4, 2, []), (33, 63, .iload_n 3, 1, []), (34, 64, .if_icmp .gt 104, 3, [83]), (35, 67, .aload_n 0, 1, []), (36, 68, .getfield 11, 3, [7, 6, 2, 598, 1]), (37, 71, .getfield 83, 3, [10, 0, 2, 479, 1]), (38, 74, .aload_n 1, 1, []), (39, 75, .invokevirtual 87, 3, [1, 80, 1, 5, 0, 0, 8, 1293, 1047, 1048, 130, 1049]), (40, 78, .ifCond .ne 14, 3, [46]), (41, 81, .aload_n 0, 1, []), (42, 82, .getfield 11, 3, [7, 6, 2, 598, 1]), (43, 85, .getfield 83, 3, [10, 0, 2, 479, 1]), (44, 88, .aload_n 1, 1, []), (45, 89, .invokevirtual 93, 3, [1, 75, 1, 9, 0, 0, 8, 1294, 979, 980, 130, 981]), (46, 92, .iconst 0, 1, []), (47, 93, .istore 5, 2, []), (48, 95, .iload 5, 2, []), (49, 97, .aload_n 0, 1, []), (50, 98, .getfield 45, 3, [7, 0, 0, 591, 0]), (51, 101, .if_icmp .ge 61, 3, [81]), (52, 104, .aload_n 0, 1, []), (53, 105, .getfield 21, 3, [7, 2, 2, 594, 1]), (54, 108, .iload 5, 2, []), (55, 110, .iaload, 1, []), (56, 111, .iload 4, 2, []), (57, 113, .if_icmp .ne 43, 3, [79]), (58, 116, .aload_n 0, 1, []), (59, 117, .iload 5, 2, []), (60, 119, .iload_n 2, 1, []), (61, 120, .invokevirtual 73, 3, [1, 63, 2, 5, 0, 0, 7, 1288, 1290, 42, 136, 1291]), (62, 123, .ifCond .eq 33, 3, [79]), (63, 126, .aload_n 0, 1, []), (64, 127, .getfield 11, 3, [7, 6, 2, 598, 1]), (65, 130, .getfield 83, 3, [10, 0, 2, 479, 1]), (66, 133, .getfield 97, 3, [8, 2, 2, 413, 1]), (67, 136, .aload_n 0, 1, []), (68, 137, .getfield 17, 3, [7, 1, 2, 593, 1]), (69, 140, .iload 5, 2, []), (70, 142, .iaload, 1, []), (71, 143, .iaload, 1, []), (72, 144, .aload_n 0, 1, []), (73, 145, .getfield 24, 3, [7, 3, 2, 595, 1]), (74, 148, .iload 5, 2, []), (75, 150, .iaload, 1, []), (76, 151, .if_icmp .eq 5, 3, [79]), (77, 154, .iconst 0, 1, []), (78, 155, .ireturn, 1, [5]), (79, 156, .iinc 5 1, 3, []), (80, 159, .goto (-64), 3, [48]), (81, 162, .iinc 4 1, 3, []), (82, 165, .goto (-104), 3, [32]), (83, 168, .iconst 1, 1, []), (84, 169, .ireturn, 1, [5])]
set_option maxRecDepth 20000 in
def kX8_init : List INS := [(0, 0, .aload_n 0, 1, []), (1, 1, .invokespecial 3, 3, [9, 0, 0, 9, 0, 0, 0, 407, 147, 0, 0, 148]), (2, 4, .aload_n 0, 1, []), (3, 5, .sipush 256, 3, []), (4, 8, .newarray .int, 2, [100, 259]), (5, 10, .putfield 13, 3, [8, 0, 2, 408, 1]), (6, 13, .aload_n 0, 1, []), (7, 14, .bipush 10, 2, []), (8, 16, .newarray .int, 2, [100, 259]), (9, 18, .putfield 17, 3, [8, 1, 2, 409, 1]), (10, 21, .aload_n 0, 1, []), (11, 22, .bipush 10, 2, []), (12, 24, .newarray .int, 2, [100, 259]), (13, 26, .putfield 20, 3, [8, 2, 2, 410, 1]), (14, 29, .aload_n 0, 1, []), (15, 30, .bipush 10, 2, []), (16, 32, .newarray .int, 2, [100, 259]), (17, 34, .putfield 23, 3, [8, 3, 2, 414, 1]), (18, 37, .return_, 1, [])]
set_option maxRecDepth 20000 in
def kX8_clear : List INS := [(0, 0, .iconst 0, 1, []), (1, 1, .istore_n 2, 1, []), (2, 2, .iload_n 2, 1, []), (3, 3, .aload_n 0, 1, []), (4, 4, .getfield 13, 3, [8, 0, 2, 408, 1]), (5, 7, .arraylength, 1, []), (6, 8, .if_icmp .ge 16, 3, [14]), (7, 11, .aload_n 0, 1, []), (8, 12, .getfield 13, 3, [8, 0, 2, 408, 1]), (9, 15, .iload_n 2, 1, []), (10, 16, .iconst 0, 1, []), (11, 17, .iastore, 1, []), (12, 18, .iinc 2 1, 3, []), (13, 21, .goto (-19), 3, [2]), (14, 24, .iconst 0, 1, []), (15, 25, .istore_n 2, 1, []), (16, 26, .iload_n 2, 1, []), (17, 27, .bipush 10, 2, []), (18, 29, .if_icmp .ge 23, 3, [31]), (19, 32, .aload_n 0, 1, []), (20, 33, .getfield 20, 3, [8, 2, 2, 410, 1]), (21, 36, .iload_n 2, 1, []), (22, 37, .iconst 0, 1, []), (23, 38, .iastore, 1, []), (24, 39, .aload_n 0, 1, []), (25, 40, .getfield 23, 3, [8, 3, 2, 414, 1]), (26, 43, .iload_n 2, 1, []), (27, 44, .iconst 0, 1, []), (28, 45, .iastore, 1, []), (29, 46, .iinc 2 1, 3, []), (30, 49, .goto (-23), 3, [16]), (31, 52, .aload_n 0, 1, []), (32, 53, .iconst 0, 1, []), (33, 54, .putfield 26, 3, [8, 4, 0, 416, 0]), (34, 57, .aload_n 0, 1, []), (35, 58, .iconst 0, 1, []), (36, 59, .putfield 30, 3, [8, 5, 0, 418, 0]), (37, 62, .aload_n 0, 1, []), (38, 63, .iconst 0, 1, []), (39, 64, .putfield 33, 3, [8, 6, 0, 420, 0]), (40, 67, .aload_n 0, 1, []), (41, 68, .iconst 0, 1, []), (42, 69, .putfield 36, 3, [8, 7, 0, 422, 0]), (43, 72, .aload_n 0, 1, []), (44, 73, .iconst 0, 1, []), (45, 74, .putfield 39, 3, [8, 8, 0, 424, 0]), (46, 77, .aload_n 0, 1, []), (47, 78, .iload_n 1, 1, []), (48, 79, .putfield 42, 3, [8, 9, 0, 426, 0]), (49, 82, .aload_n 0, 1, []), (50, 83, .iconst 0, 1, []), (51, 84, .putfield 45, 3, [8, 10, 0, 428, 0]), (52, 87, .return_, 1, [])]
set_option maxRecDepth 20000 in
def kX8_copy : List INS := [(0, 0, .aload_n 1, 1, []), (1, 1, .getfield 13, 3, [8, 0, 2, 408, 1]), (2, 4, .iconst 0, 1, []), (3, 5, .aload_n 0, 1, []), (4, 6, .getfield 13, 3, [8, 0, 2, 408, 1]), (5, 9, .iconst 0, 1, []), (6, 10, .aload_n 0, 1, []), (7, 11, .getfield 13, 3, [8, 0, 2, 408, 1]), (8, 14, .arraylength, 1, []), (9, 15, .invokestatic 48, 3, [5, 0, 5, 9, 0, 0, 0, 966, 967, 968, 140, 0]), (10, 18, .aload_n 1, 1, []), (11, 19, .getfield 20, 3, [8, 2, 2, 410, 1]), (12, 22, .iconst 0, 1, []), (13, 23, .aload_n 0, 1, []), (14, 24, .getfield 20, 3, [8, 2, 2, 410, 1]), (15, 27, .iconst 0, 1, []), (16, 28, .bipush 10, 2, []), (17, 30, .invokestatic 48, 3, [5, 0, 5, 9, 0, 0, 0, 966, 967, 968, 140, 0]), (18, 33, .aload_n 1, 1, []), (19, 34, .getfield 23, 3, [8, 3, 2, 414, 1]), (20, 37, .iconst 0, 1, []), (21, 38, .aload_n 0, 1, []), (22, 39, .getfield 23, 3, [8, 3, 2, 414, 1]), (23, 42, .iconst 0, 1, []), (24, 43, .bipush 10, 2, []), (25, 45, .invokestatic 48, 3, [5, 0, 5, 9, 0, 0, 0, 966, 967, 968, 140, 0]), (26, 48, .aload_n 0, 1, []), (27, 49, .aload_n 1, 1, []), (28, 50, .getfield 26, 3, [8, 4, 0, 416, 0]), (29, 53, .putfield 26, 3, [8, 4, 0, 416, 0]), (30, 56, .aload_n 0, 1, []), (31, 57, .aload_n 1, 1, []), (32, 58, .getfield 30, 3, [8, 5, 0, 418, 0]), (33, 61, .putfield 30, 3, [8, 5, 0, 418, 0]), (34, 64, .aload_n 0, 1, []), (35, 65, .aload_n 1, 1, []), (36, 66, .getfield 33, 3, [8, 6, 0, 420, 0]), (37, 69, .putfield 33, 3, [8, 6, 0, 420, 0]), (38, 72, .aload_n 0, 1, []), (39, 73, .aload_n 1, 1, []), (40, 74, .getfield 36, 3, [8, 7, 0, 422, 0]), (41, 77, .putfield 36, 3, [8, 7, 0, 422, 0]), (42, 80, .aload_n 0, 1, []), (43, 81, .aload_n 1, 1, []), (44, 82, .getfield 39, 3, [8, 8, 0, 424, 0]), (45, 85, .putfield 39, 3, [8, 8, 0, 424, 0]), (46, 88, .aload_n 0, 1, []), (47, 89, .aload_n 1, 1, []), (48, 90, .getfield 42, 3, [8, 9, 0, 426, 0]), (49, 93, .putfield 42, 3, [8, 9, 0, 426, 0]), (50, 96, .aload_n 0, 1, []), (51, 97, .aload_n 1, 1, []), (52, 98, .getfield 45, 3, [8, 10, 0, 428, 0]), (53, 101, .putfield 45, 3, [8, 10, 0, 428, 0]), (54, 104, .return_, 1, [])]
set_option maxRecDepth 20000 in
def kX8_slot : List INS := [(0, 0, .iload_n 1, 1, []), (1, 1, .bipush 16, 2, []), (2, 3, .imul, 1, []), (3, 4, .aload_n 0, 1, []), (4, 5, .getfield 45, 3, [8, 10, 0, 428, 0]), (5, 8, .iload_n 2, 1, []), (6, 9, .iadd, 1, []), (7, 10, .bipush 16, 2, []), (8, 12, .irem, 1, []), (9, 13, .iadd, 1, []), (10, 14, .ireturn, 1, [0])]
set_option maxRecDepth 20000 in
def kX8_left : List INS := [(0, 0, .aload_n 0, 1, []), (1, 1, .getfield 13, 3, [8, 0, 2, 408, 1]), (2, 4, .aload_n 0, 1, []), (3, 5, .iload_n 1, 1, []), (4, 6, .iload_n 2, 1, []), (5, 7, .invokevirtual 54, 3, [1, 69, 2, 0, 0, 0, 8, 929, 931, 24, 130, 932]), (6, 10, .iaload, 1, []), (7, 11, .ireturn, 1, [0])]
set_option maxRecDepth 20000 in
def kX8_onWay : List INS := [(0, 0, .iconst 0, 1, []), (1, 1, .istore_n 2, 1, []), (2, 2, .iconst 1, 1, []), (3, 3, .istore_n 3, 1, []), (4, 4, .iload_n 3, 1, []), (5, 5, .bipush 12, 2, []), (6, 7, .if_icmp .gt 23, 3, [19]), (7, 10, .iload_n 2, 1, []), (8, 11, .aload_n 0, 1, []), (9, 12, .getfield 13, 3, [8, 0, 2, 408, 1]), (10, 15, .aload_n 0, 1, []), (11, 16, .iload_n 1, 1, []), (12, 17, .iload_n 3, 1, []), (13, 18, .invokevirtual 54, 3, [1, 69, 2, 0, 0, 0, 8, 929, 931, 24, 130, 932]), (14, 21, .iaload, 1, []), (15, 22, .iadd, 1, []), (16, 23, .istore_n 2, 1, []), (17, 24, .iinc 3 1, 3, []), (18, 27, .goto (-23), 3, [4]), (19, 30, .iload_n 2, 1, []), (20, 31, .ireturn, 1, [0])]
set_option maxRecDepth 20000 in
def kX8_atTowers : List INS := [(0, 0, .iconst 0, 1, []), (1, 1, .istore_n 1, 1, []), (2, 2, .iconst 0, 1, []), (3, 3, .istore_n 2, 1, []), (4, 4, .iload_n 2, 1, []), (5, 5, .bipush 10, 2, []), (6, 7, .if_icmp .ge 18, 3, [16]), (7, 10, .iload_n 1, 1, []), (8, 11, .aload_n 0, 1, []), (9, 12, .getfield 20, 3, [8, 2, 2, 410, 1]), (10, 15, .iload_n 2, 1, []), (11, 16, .iaload, 1, []), (12, 17, .iadd, 1, []), (13, 18, .istore_n 1, 1, []), (14, 19, .iinc 2 1, 3, []), (15, 22, .goto (-18), 3, [4]), (16, 25, .iload_n 1, 1, []), (17, 26, .ireturn, 1, [0])]
set_option maxRecDepth 20000 in
def kX8_settle : List INS := [(0, 0, .aload_n 0, 1, []), (1, 1, .getfield 20, 3, [8, 2, 2, 410, 1]), (2, 4, .iload_n 1, 1, []), (3, 5, .dup2, 1, []), (4, 6, .iaload, 1, []), (5, 7, .iload_n 2, 1, []), (6, 8, .iadd, 1, []), (7, 9, .iastore, 1, []), (8, 10, .aload_n 0, 1, []), (9, 11, .dup, 1, []), (10, 12, .getfield 26, 3, [8, 4, 0, 416, 0]), (11, 15, .iload_n 2, 1, []), (12, 16, .iadd, 1, []), (13, 17, .putfield 26, 3, [8, 4, 0, 416, 0]), (14, 20, .return_, 1, [])]
set_option maxRecDepth 20000 in
def kX8_lose : List INS := [(0, 0, .aload_n 0, 1, []), (1, 1, .getfield 13, 3, [8, 0, 2, 408, 1]), (2, 4, .aload_n 0, 1, []), (3, 5, .iload_n 1, 1, []), (4, 6, .iload_n 2, 1, []), (5, 7, .invokevirtual 54, 3, [1, 69, 2, 0, 0, 0, 8, 929, 931, 24, 130, 932]), (6, 10, .dup2, 1, []), (7, 11, .iaload, 1, []), (8, 12, .iconst 1, 1, []), (9, 13, .isub, 1, []), (10, 14, .iastore, 1, []), (11, 15, .aload_n 0, 1, []), (12, 16, .dup, 1, []), (13, 17, .getfield 33, 3, [8, 6, 0, 420, 0]), (14, 20, .iconst 1, 1, []), (15, 21, .isub, 1, []), (16, 22, .putfield 33, 3, [8, 6, 0, 420, 0]), (17, 25, .aload_n 0, 1, []), (18, 26, .dup, 1, []), (19, 27, .getfield 36, 3, [8, 7, 0, 422, 0]), (20, 30, .iconst 1, 1, []), (21, 31, .iadd, 1, []), (22, 32, .putfield 36, 3, [8, 7, 0, 422, 0]), (23, 35, .return_, 1, [])]
set_option maxRecDepth 20000 in
def kX8_pass : List INS := [(0, 0, .aload_n 0, 1, []), (1, 1, .dup, 1, []), (2, 2, .getfield 45, 3, [8, 10, 0, 428, 0]), (3, 5, .iconst 1, 1, []), (4, 6, .iadd, 1, []), (5, 7, .putfield 45, 3, [8, 10, 0, 428, 0]), (6, 10, .aload_n 0, 1, []), (7, 11, .aload_n 1, 1, []), (8, 12, .invokevirtual 58, 3, [1, 76, 1, 9, 0, 0, 8, 982, 984, 26, 130, 985]), (9, 15, .iconst 0, 1, []), (10, 16, .istore_n 2, 1, []), (11, 17, .iload_n 2, 1, []), (12, 18, .aload_n 1, 1, []), (13, 19, .getfield 62, 3, [4, 0, 0, 159, 0]), (14, 22, .if_icmp .ge 15, 3, [21]), (15, 25, .aload_n 0, 1, []), (16, 26, .aload_n 1, 1, []), (17, 27, .iload_n 2, 1, []), (18, 28, .invokevirtual 65, 3, [1, 77, 2, 9, 0, 0, 8, 986, 988, 27, 130, 989]), (19, 31, .iinc 2 1, 3, []), (20, 34, .goto (-17), 3, [11]), (21, 37, .return_, 1, [])]
set_option maxRecDepth 20000 in
def kX8_gather : List INS := [(0, 0, .iconst 0, 1, []), (1, 1, .istore_n 2, 1, []), (2, 2, .iload_n 2, 1, []), (3, 3, .aload_n 1, 1, []), (4, 4, .getfield 62, 3, [4, 0, 0, 159, 0]), (5, 7, .if_icmp .ge 16, 3, [13]), (6, 10, .aload_n 0, 1, []), (7, 11, .getfield 17, 3, [8, 1, 2, 409, 1]), (8, 14, .iload_n 2, 1, []), (9, 15, .iconst 0, 1, []), (10, 16, .iastore, 1, []), (11, 17, .iinc 2 1, 3, []), (12, 20, .goto (-18), 3, [2]), (13, 23, .iconst 0, 1, []), (14, 24, .istore_n 2, 1, []), (15, 25, .iload_n 2, 1, []), (16, 26, .aload_n 1, 1, []), (17, 27, .getfield 69, 3, [4, 5, 0, 177, 0]), (18, 30, .if_icmp .ge 35, 3, [39]), (19, 33, .aload_n 1, 1, []), (20, 34, .getfield 72, 3, [4, 6, 2, 183, 1]), (21, 37, .iload_n 2, 1, []), (22, 38, .iaload, 1, []), (23, 39, .istore_n 3, 1, []), (24, 40, .aload_n 0, 1, []), (25, 41, .getfield 17, 3, [8, 1, 2, 409, 1]), (26, 44, .iload_n 3, 1, []), (27, 45, .aload_n 0, 1, []), (28, 46, .getfield 20, 3, [8, 2, 2, 410, 1]), (29, 49, .iload_n 3, 1, []), (30, 50, .iaload, 1, []), (31, 51, .iastore, 1, []), (32, 52, .aload_n 0, 1, []), (33, 53, .getfield 20, 3, [8, 2, 2, 410, 1]), (34, 56, .iload_n 3, 1, []), (35, 57, .iconst 0, 1, []), (36, 58, .iastore, 1, []), (37, 59, .iinc 2 1, 3, []), (38, 62, .goto (-37), 3, [15]), (39, 65, .iconst 0, 1, []), (40, 66, .istore_n 2, 1, []), (41, 67, .iload_n 2, 1, []), (42, 68, .aload_n 1, 1, []), (43, 69, .getfield 75, 3, [4, 7, 0, 190, 0]), (44, 72, .if_icmp .ge 58, 3, [80]), (45, 75, .aload_n 0, 1, []), (46, 76, .iload_n 2, 1, []), (47, 77, .iconst 0, 1, []), (48, 78, .invokevirtual 54, 3, [1, 69, 2, 0, 0, 0, 8, 929, 931, 24, 130, 932]), (49, 81, .istore_n 3, 1, []), (50, 82, .aload_n 0, 1, []), (51, 83, .getfield 17, 3, [8, 1, 2, 409, 1]), (52, 86, .aload_n 1, 1, []), (53, 87, .getfield 78, 3, [4, 9, 2, 198, 1]), (54, 90, .iload_n 2, 1, []), (55, 91, .iaload, 1, []), (56, 92, .dup2, 1, []), (57, 93, .iaload, 1, []), (58, 94, .aload_n 0, 1, []), (59, 95, .getfield 13, 3, [8, 0, 2, 408, 1]), (60, 98, .iload_n 3, 1, []), (61, 99, .iaload, 1, []), (62, 100, .iadd, 1, []), (63, 101, .iastore, 1, []), (64, 102, .aload_n 0, 1, []), (65, 103, .dup, 1, []), (66, 104, .getfield 33, 3, [8, 6, 0, 420, 0]), (67, 107, .aload_n 0, 1, []), (68, 108, .getfield 13, 3, [8, 0, 2, 408, 1]), (69, 111, .iload_n 3, 1, []), (70, 112, .iaload, 1, []), (71, 113, .isub, 1, []), (72, 114, .putfield 33, 3, [8, 6, 0, 420, 0]), (73, 117, .aload_n 0, 1, []), (74, 118, .getfield 13, 3, [8, 0, 2, 408, 1]), (75, 121, .iload_n 3, 1, []), (76, 122, .iconst 0, 1, []), (77, 123, .iastore, 1, []), (78, 124, .iinc 2 1, 3, []), (79, 127, .goto (-60), 3, [41]), (80, 130, .return_, 1, [])]
set_option maxRecDepth 20000 in
def kX8_work : List INS := [(0, 0, .aload_n 1, 1, []), (1, 1, .getfield 81, 3, [4, 2, 2, 166, 1]), (2, 4, .iload_n 2, 1, []), (3, 5, .iaload, 1, []), (4, 6, .istore_n 3, 1, []), (5, 7, .aload_n 1, 1, []), (6, 8, .getfield 84, 3, [4, 3, 2, 168, 1]), (7, 11, .iload_n 2, 1, []), (8, 12, .iaload, 1, []), (9, 13, .istore 4, 2, []), (10, 15, .aload_n 0, 1, []), (11, 16, .getfield 17, 3, [8, 1, 2, 409, 1]), (12, 19, .iload_n 2, 1, []), (13, 20, .iaload, 1, []), (14, 21, .istore 5, 2, []), (15, 23, .iload 5, 2, []), (16, 25, .aload_n 0, 1, []), (17, 26, .getfield 20, 3, [8, 2, 2, 410, 1]), (18, 29, .iload_n 2, 1, []), (19, 30, .iaload, 1, []), (20, 31, .iadd, 1, []), (21, 32, .istore 6, 2, []), (22, 34, .iload 5, 2, []), (23, 36, .ifCond .le 13, 3, [32]), (24, 39, .aload_n 0, 1, []), (25, 40, .getfield 23, 3, [8, 3, 2, 414, 1]), (26, 43, .iload_n 2, 1, []), (27, 44, .dup2, 1, []), (28, 45, .iaload, 1, []), (29, 46, .iconst 1, 1, []), (30, 47, .iadd, 1, []), (31, 48, .iastore, 1, []), (32, 49, .aload_n 1, 1, []), (33, 50, .getfield 87, 3, [4, 1, 2, 163, 1]), (34, 53, .iload_n 2, 1, []), (35, 54, .iaload, 1, []), (36, 55, .tableswitch 271 2 8 #[41, 80, 109, 120, 160, 189, 231], 41, [167, 37, 62, 78, 84, 107, 123, 145]), (37, 96, .aload_n 0, 1, []), (38, 97, .getfield 20, 3, [8, 2, 2, 410, 1]), (39, 100, .iload_n 2, 1, []), (40, 101, .iload 6, 2, []), (41, 103, .iconst 2, 1, []), (42, 104, .irem, 1, []), (43, 105, .iastore, 1, []), (44, 106, .aload_n 0, 1, []), (45, 107, .aload_n 1, 1, []), (46, 108, .iload 4, 2, []), (47, 110, .iload 6, 2, []), (48, 112, .iconst 2, 1, []), (49, 113, .idiv, 1, []), (50, 114, .invokevirtual 90, 3, [1, 78, 3, 9, 0, 0, 8, 990, 992, 28, 130, 993]), (51, 117, .aload_n 0, 1, []), (52, 118, .aload_n 1, 1, []), (53, 119, .aload_n 1, 1, []), (54, 120, .getfield 94, 3, [4, 4, 2, 170, 1]), (55, 123, .iload_n 2, 1, []), (56, 124, .iaload, 1, []), (57, 125, .iload 6, 2, []), (58, 127, .iconst 2, 1, []), (59, 128, .idiv, 1, []), (60, 129, .invokevirtual 90, 3, [1, 78, 3, 9, 0, 0, 8, 990, 992, 28, 130, 993]), (61, 132, .goto 203, 3, [172]), (62, 135, .aload_n 0, 1, []), (63, 136, .aload_n 1, 1, []), (64, 137, .iload 5, 2, []), (65, 139, .iconst 2, 1, []), (66, 140, .irem, 1, []), (67, 141, .iconst 1, 1, []), (68, 142, .if_icmp .ne 8, 3, [71]), (69, 145, .iload 4, 2, []), (70, 147, .goto 9, 3, [75]), (71, 150, .aload_n 1, 1, []), (72, 151, .getfield 94, 3, [4, 4, 2, 170, 1]), (73, 154, .iload_n 2, 1, []), (74, 155, .iaload, 1, []), (75, 156, .iload 5, 2, []), (76, 158, .invokevirtual 90, 3, [1, 78, 3, 9, 0, 0, 8, 990, 992, 28, 130, 993]), (77, 161, .goto 174, 3, [172]), (78, 164, .aload_n 0, 1, []), (79, 165, .getfield 20, 3, [8, 2, 2, 410, 1]), (80, 168, .iload_n 2, 1, []), (81, 169, .iload 6, 2, []), (82, 171, .iastore, 1, []), (83, 172, .goto 163, 3, [172]), (84, 175, .aload_n 0, 1, []), (85, 176, .getfield 20, 3, [8, 2, 2, 410, 1]), (86, 179, .iload_n 2, 1, []), (87, 180, .iload 6, 2, []), (88, 182, .iload_n 3, 1, []), (89, 183, .if_icmp .ge 8, 3, [92]), (90, 186, .iload 6, 2, []), (91, 188, .goto 7, 3, [95]), (92, 191, .iload 6, 2, []), (93, 193, .iload_n 3, 1, []), (94, 194, .isub, 1, []), (95, 195, .iastore, 1, []), (96, 196, .aload_n 0, 1, []), (97, 197, .aload_n 1, 1, []), (98, 198, .iload 4, 2, []), (99, 200, .iload 6, 2, []), (100, 202, .aload_n 0, 1, []), (101, 203, .getfield 20, 3, [8, 2, 2, 410, 1]), (102, 206, .iload_n 2, 1, []), (103, 207, .iaload, 1, []), (104, 208, .isub, 1, []), (105, 209, .invokevirtual 90, 3, [1, 78, 3, 9, 0, 0, 8, 990, 992, 28, 130, 993]), (106, 212, .goto 123, 3, [172]), (107, 215, .aload_n 0, 1, []), (108, 216, .dup, 1, []), (109, 217, .getfield 39, 3, [8, 8, 0, 424, 0]), (110, 220, .iload_n 3, 1, []), (111, 221, .iload 5, 2, []), (112, 223, .invokestatic 97, 3, [4, 0, 2, 0, 0, 0, 0, 995, 749, 0, 138, 750]), (113, 226, .iadd, 1, []), (114, 227, .putfield 39, 3, [8, 8, 0, 424, 0]), (115, 230, .aload_n 0, 1, []), (116, 231, .aload_n 1, 1, []), (117, 232, .iload 4, 2, []), (118, 234, .iload 5, 2, []), (119, 236, .iload_n 3, 1, []), (120, 237, .isub, 1, []), (121, 238, .invokevirtual 90, 3, [1, 78, 3, 9, 0, 0, 8, 990, 992, 28, 130, 993]), (122, 241, .goto 94, 3, [172]), (123, 244, .aload_n 0, 1, []), (124, 245, .dup, 1, []), (125, 246, .getfield 30, 3, [8, 5, 0, 418, 0]), (126, 249, .iload 5, 2, []), (127, 251, .ifCond .le 7, 3, [130]), (128, 254, .iload_n 3, 1, []), (129, 255, .goto 4, 3, [131]), (130, 258, .iconst 0, 1, []), (131, 259, .iadd, 1, []), (132, 260, .putfield 30, 3, [8, 5, 0, 418, 0]), (133, 263, .aload_n 0, 1, []), (134, 264, .aload_n 1, 1, []), (135, 265, .iload 4, 2, []), (136, 267, .iload 5, 2, []), (137, 269, .ifCond .le 10, 3, [142]), (138, 272, .iload 5, 2, []), (139, 274, .iload_n 3, 1, []), (140, 275, .iadd, 1, []), (141, 276, .goto 4, 3, [143]), (142, 279, .iconst 0, 1, []), (143, 280, .invokevirtual 90, 3, [1, 78, 3, 9, 0, 0, 8, 990, 992, 28, 130, 993]), (144, 283, .goto 52, 3, [172]), (145, 286, .iload_n 3, 1, []), (146, 287, .ifCond .le 10, 3, [151]), (147, 290, .iload 5, 2, []), (148, 292, .iload_n 3, 1, []), (149, 293, .irem, 1, []), (150, 294, .goto 4, 3, [152]), (151, 297, .iconst 0, 1, []), (152, 298, .istore 7, 2, []), (153, 300, .aload_n 0, 1, []), (154, 301, .dup, 1, []), (155, 302, .getfield 36, 3, [8, 7, 0, 422, 0]), (156, 305, .iload 7, 2, []), (157, 307, .iadd, 1, []), (158, 308, .putfield 36, 3, [8, 7, 0, 422, 0]), (159, 311, .aload_n 0, 1, []), (160, 312, .aload_n 1, 1, []), (161, 313, .iload 4, 2, []), (162, 315, .iload 5, 2, []), (163, 317, .iload 7, 2, []), (164, 319, .isub, 1, []), (165, 320, .invokevirtual 90, 3, [1, 78, 3, 9, 0, 0, 8, 990, 992, 28, 130, 993]), (166, 323, .goto 12, 3, [172]), (167, 326, .aload_n 0, 1, []), (168, 327, .aload_n 1, 1, []), (169, 328, .iload 4, 2, []), (170, 330, .iload 5, 2, []), (171, 332, .invokevirtual 90, 3, [1, 78, 3, 9, 0, 0, 8, 990, 992, 28, 130, 993]), (172, 335, .return_, 1, [])]
set_option maxRecDepth 20000 in
def kX8_setOut : List INS := [(0, 0, .iload_n 3, 1, []), (1, 1, .ifCond .gt 4, 3, [3]), (2, 4, .return_, 1, []), (3, 5, .iload_n 2, 1, []), (4, 6, .iconst (-1), 1, []), (5, 7, .if_icmp .ne 14, 3, [13]), (6, 10, .aload_n 0, 1, []), (7, 11, .dup, 1, []), (8, 12, .getfield 36, 3, [8, 7, 0, 422, 0]), (9, 15, .iload_n 3, 1, []), (10, 16, .iadd, 1, []), (11, 17, .putfield 36, 3, [8, 7, 0, 422, 0]), (12, 20, .return_, 1, []), (13, 21, .iload_n 3, 1, []), (14, 22, .ldc 102, 2, [999999, 994]), (15, 24, .if_icmp .ge 7, 3, [18]), (16, 27, .iload_n 3, 1, []), (17, 28, .goto 5, 3, [19]), (18, 31, .ldc 102, 2, [999999, 994]), (19, 33, .istore 4, 2, []), (20, 35, .aload_n 0, 1, []), (21, 36, .dup, 1, []), (22, 37, .getfield 36, 3, [8, 7, 0, 422, 0]), (23, 40, .iload_n 3, 1, []), (24, 41, .iload 4, 2, []), (25, 43, .isub, 1, []), (26, 44, .iadd, 1, []), (27, 45, .putfield 36, 3, [8, 7, 0, 422, 0]), (28, 48, .aload_n 0, 1, []), (29, 49, .dup, 1, []), (30, 50, .getfield 33, 3, [8, 6, 0, 420, 0]), (31, 53, .iload 4, 2, []), (32, 55, .iadd, 1, []), (33, 56, .putfield 33, 3, [8, 6, 0, 420, 0]), (34, 59, .aload_n 0, 1, []), (35, 60, .getfield 13, 3, [8, 0, 2, 408, 1]), (36, 63, .iload_n 2, 1, []), (37, 64, .bipush 16, 2, []), (38, 66, .imul, 1, []), (39, 67, .aload_n 0, 1, []), (40, 68, .getfield 45, 3, [8, 10, 0, 428, 0]), (41, 71, .aload_n 1, 1, []), (42, 72, .getfield 103, 3, [4, 10, 2, 204, 1]), (43, 75, .iload_n 2, 1, []), (44, 76, .iaload, 1, []), (45, 77, .iadd, 1, []), (46, 78, .bipush 16, 2, []), (47, 80, .irem, 1, []), (48, 81, .iadd, 1, []), (49, 82, .dup2, 1, []), (50, 83, .iaload, 1, []), (51, 84, .iload 4, 2, []), (52, 86, .iadd, 1, []), (53, 87, .iastore, 1, []), (54, 88, .return_, 1, [])]
set_option maxRecDepth 20000 in
def kX8_blow : List INS := [(0, 0, .aload_n 0, 1, []), (1, 1, .aload_n 0, 1, []), (2, 2, .getfield 42, 3, [8, 9, 0, 426, 0]), (3, 5, .sipush 137, 3, []), (4, 8, .imul, 1, []), (5, 9, .bipush 71, 2, []), (6, 11, .iadd, 1, []), (7, 12, .sipush 1000, 3, []), (8, 15, .irem, 1, []), (9, 16, .putfield 42, 3, [8, 9, 0, 426, 0]), (10, 19, .iload_n 1, 1, []), (11, 20, .ifCond .le 12, 3, [17]), (12, 23, .aload_n 0, 1, []), (13, 24, .getfield 42, 3, [8, 9, 0, 426, 0]), (14, 27, .iload_n 1, 1, []), (15, 28, .irem, 1, []), (16, 29, .goto 4, 3, [18]), (17, 32, .iconst 0, 1, []), (18, 33, .istore_n 2, 1, []), (19, 34, .aload_n 0, 1, []), (20, 35, .getfield 13, 3, [8, 0, 2, 408, 1]), (21, 38, .aload_n 0, 1, []), (22, 39, .iload_n 2, 1, []), (23, 40, .bipush 12, 2, []), (24, 42, .invokevirtual 54, 3, [1, 69, 2, 0, 0, 0, 8, 929, 931, 24, 130, 932]), (25, 45, .dup2, 1, []), (26, 46, .iaload, 1, []), (27, 47, .aload_n 0, 1, []), (28, 48, .getfield 13, 3, [8, 0, 2, 408, 1]), (29, 51, .aload_n 0, 1, []), (30, 52, .iload_n 2, 1, []), (31, 53, .bipush 11, 2, []), (32, 55, .invokevirtual 54, 3, [1, 69, 2, 0, 0, 0, 8, 929, 931, 24, 130, 932]), (33, 58, .iaload, 1, []), (34, 59, .iadd, 1, []), (35, 60, .iastore, 1, []), (36, 61, .bipush 11, 2, []), (37, 63, .istore_n 3, 1, []), (38, 64, .iload_n 3, 1, []), (39, 65, .iconst 1, 1, []), (40, 66, .if_icmp .le 33, 3, [59]), (41, 69, .aload_n 0, 1, []), (42, 70, .getfield 13, 3, [8, 0, 2, 408, 1]), (43, 73, .aload_n 0, 1, []), (44, 74, .iload_n 2, 1, []), (45, 75, .iload_n 3, 1, []), (46, 76, .invokevirtual 54, 3, [1, 69, 2, 0, 0, 0, 8, 929, 931, 24, 130, 932]), (47, 79, .aload_n 0, 1, []), (48, 80, .getfield 13, 3, [8, 0, 2, 408, 1]), (49, 83, .aload_n 0, 1, []), (50, 84, .iload_n 2, 1, []), (51, 85, .iload_n 3, 1, []), (52, 86, .iconst 1, 1, []), (53, 87, .isub, 1, []), (54, 88, .invokevirtual 54, 3, [1, 69, 2, 0, 0, 0, 8, 929, 931, 24, 130, 932]), (55, 91, .iaload, 1, []), (56, 92, .iastore, 1, []), (57, 93, .iinc 3 (-1), 3, []), (58, 96, .goto (-32), 3, [38]), (59, 99, .aload_n 0, 1, []), (60, 100, .getfield 13, 3, [8, 0, 2, 408, 1]), (61, 103, .aload_n 0, 1, []), (62, 104, .iload_n 2, 1, []), (63, 105, .iconst 1, 1, []), (64, 106, .invokevirtual 54, 3, [1, 69, 2, 0, 0, 0, 8, 929, 931, 24, 130, 932]), (65, 109, .iconst 0, 1, []), (66, 110, .iastore, 1, []), (67, 111, .iload_n 2, 1, []), (68, 112, .ireturn, 1, [0])]
set_option maxRecDepth 20000 in
def kX8_isStill : List INS := [(0, 0, .aload_n 0, 1, []), (1, 1, .getfield 33, 3, [8, 6, 0, 420, 0]), (2, 4, .ifCond .le 5, 3, [5]), (3, 7, .iconst 0, 1, []), (4, 8, .ireturn, 1, [5]), (5, 9, .iconst 0, 1, []), (6, 10, .istore_n 2, 1, []), (7, 11, .iload_n 2, 1, []), (8, 12, .aload_n 1, 1, []), (9, 13, .getfield 62, 3, [4, 0, 0, 159, 0]), (10, 16, .if_icmp .ge 53, 3, [41]), (11, 19, .aload_n 1, 1, []), (12, 20, .getfield 87, 3, [4, 1, 2, 163, 1]), (13, 23, .iload_n 2, 1, []), (14, 24, .iaload, 1, []), (15, 25, .istore_n 3, 1, []), (16, 26, .iload_n 3, 1, []), (17, 27, .ifCond .ne 14, 3, [25]), (18, 30, .aload_n 0, 1, []), (19, 31, .getfield 20, 3, [8, 2, 2, 410, 1]), (20, 34, .iload_n 2, 1, []), (21, 35, .iaload, 1, []), (22, 36, .ifCond .le 5, 3, [25]), (23, 39, .iconst 0, 1, []), (24, 40, .ireturn, 1, [5]), (25, 41, .iload_n 3, 1, []), (26, 42, .iconst 5, 1, []), (27, 43, .if_icmp .ne 20, 3, [39]), (28, 46, .aload_n 0, 1, []), (29, 47, .getfield 20, 3, [8, 2, 2, 410, 1]), (30, 50, .iload_n 2, 1, []), (31, 51, .iaload, 1, []), (32, 52, .aload_n 1, 1, []), (33, 53, .getfield 81, 3, [4, 2, 2, 166, 1]), (34, 56, .iload_n 2, 1, []), (35, 57, .iaload, 1, []), (36, 58, .if_icmp .lt 5, 3, [39]), (37, 61, .iconst 0, 1, []), (38, 62, .ireturn, 1, [5]), (39, 63, .iinc 2 1, 3, []), (40, 66, .goto (-55), 3, [7]), (41, 69, .iconst 1, 1, []), (42, 70, .ireturn, 1, [5])]
set_option maxRecDepth 20000 in
def kX9_init : List INS := [(0, 0, .aload_n 0, 1, []), (1, 1, .invokespecial 1, 3, [9, 0, 0, 9, 0, 0, 0, 265, 147, 0, 0, 148]), (2, 4, .aload_n 0, 1, []), (3, 5, .sipush 1600, 3, []), (4, 8, .newarray .int, 2, [100, 259]), (5, 10, .putfield 9, 3, [9, 0, 2, 319, 1]), (6, 13, .aload_n 0, 1, []), (7, 14, .bipush 18, 2, []), (8, 16, .newarray .long, 2, [101, 357]), (9, 18, .putfield 13, 3, [9, 2, 2, 322, 1]), (10, 21, .aload_n 0, 1, []), (11, 22, .sipush 1601, 3, []), (12, 25, .newarray .int, 2, [100, 259]), (13, 27, .putfield 17, 3, [9, 3, 2, 323, 1]), (14, 30, .aload_n 0, 1, []), (15, 31, .sipush 1601, 3, []), (16, 34, .newarray .int, 2, [100, 259]), (17, 36, .putfield 20, 3, [9, 4, 2, 324, 1]), (18, 39, .aload_n 0, 1, []), (19, 40, .sipush 1601, 3, []), (20, 43, .newarray .long, 2, [101, 357]), (21, 45, .putfield 23, 3, [9, 5, 2, 325, 1]), (22, 48, .iconst 0, 1, []), (23, 49, .istore_n 1, 1, []), (24, 50, .iconst 0, 1, []), (25, 51, .istore_n 2, 1, []), (26, 52, .iload_n 2, 1, []), (27, 53, .ldc 26, 2, [1, 266, 1]), (28, 55, .invokevirtual 28, 3, [6, 282, 0, 0, 0, 0, 0, 267, 268, 269, 124, 270]), (29, 58, .if_icmp .ge 53, 3, [54]), (30, 61, .iload_n 1, 1, []), (31, 62, .bipush 18, 2, []), (32, 64, .if_icmp .ge 47, 3, [54]), (33, 67, .ldc 26, 2, [1, 266, 1]), (34, 69, .iload_n 2, 1, []), (35, 70, .invokevirtual 34, 3, [7, 283, 1, 0, 0, 0, 0, 277, 278, 279, 124, 280]), (36, 73, .bipush 32, 2, []), (37, 75, .if_icmp .ne 9, 3, [40]), (38, 78, .iinc 1 1, 3, []), (39, 81, .goto 24, 3, [52]), (40, 84, .aload_n 0, 1, []), (41, 85, .getfield 13, 3, [9, 2, 2, 322, 1]), (42, 88, .iload_n 1, 1, []), (43, 89, .aload_n 0, 1, []), (44, 90, .getfield 13, 3, [9, 2, 2, 322, 1]), (45, 93, .iload_n 1, 1, []), (46, 94, .laload, 1, []), (47, 95, .ldc 26, 2, [1, 266, 1]), (48, 97, .iload_n 2, 1, []), (49, 98, .invokevirtual 34, 3, [7, 283, 1, 0, 0, 0, 0, 277, 278, 279, 124, 280]), (50, 101, .invokestatic 38, 3, [0, 91, 2, 1, 0, 0, 0, 315, 316, 0, 123, 317]), (51, 104, .lastore, 1, []), (52, 105, .iinc 2 1, 3, []), (53, 108, .goto (-56), 3, [26]), (54, 111, .return_, 1, [])]
set_option maxRecDepth 20000 in
def kX9_put : List INS := [(0, 0, .bipush 24, 2, []), (1, 2, .istore_n 2, 1, []), (2, 3, .iload_n 2, 1, []), (3, 4, .ifCond .lt 45, 3, [26]), (4, 7, .aload_n 0, 1, []), (5, 8, .getfield 42, 3, [9, 1, 0, 321, 0]), (6, 11, .sipush 1600, 3, []), (7, 14, .if_icmp .ge 35, 3, [26]), (8, 17, .aload_n 0, 1, []), (9, 18, .getfield 9, 3, [9, 0, 2, 319, 1]), (10, 21, .aload_n 0, 1, []), (11, 22, .getfield 42, 3, [9, 1, 0, 321, 0]), (12, 25, .iload_n 1, 1, []), (13, 26, .iload_n 2, 1, []), (14, 27, .ishr, 1, []), (15, 28, .sipush 255, 3, []), (16, 31, .iand, 1, []), (17, 32, .iastore, 1, []), (18, 33, .aload_n 0, 1, []), (19, 34, .dup, 1, []), (20, 35, .getfield 42, 3, [9, 1, 0, 321, 0]), (21, 38, .iconst 1, 1, []), (22, 39, .iadd, 1, []), (23, 40, .putfield 42, 3, [9, 1, 0, 321, 0]), (24, 43, .iinc 2 (-8), 3, []), (25, 46, .goto (-43), 3, [2]), (26, 49, .return_, 1, [])]
set_option maxRecDepth 20000 in
def kX9_part : List INS := [(0, 0, .aload_n 0, 1, []), (1, 1, .iconst 0, 1, []), (2, 2, .putfield 45, 3, [9, 6, 0, 326, 0]), (3, 5, .iconst 0, 1, []), (4, 6, .istore_n 1, 1, []), (5, 7, .iconst 0, 1, []), (6, 8, .istore_n 2, 1, []), (7, 9, .iload_n 2, 1, []), (8, 10, .sipush 1600, 3, []), (9, 13, .if_icmp .ge 23, 3, [20]), (10, 16, .iload_n 1, 1, []), (11, 17, .aload_n 0, 1, []), (12, 18, .getfield 42, 3, [9, 1, 0, 321, 0]), (13, 21, .if_icmp .ge 15, 3, [20]), (14, 24, .aload_n 0, 1, []), (15, 25, .iload_n 1, 1, []), (16, 26, .invokevirtual 48, 3, [1, 84, 1, 0, 0, 0, 9, 703, 705, 0, 123, 706]), (17, 29, .istore_n 1, 1, []), (18, 30, .iinc 2 1, 3, []), (19, 33, .goto (-24), 3, [7]), (20, 36, .aload_n 0, 1, []), (21, 37, .iconst 1, 1, []), (22, 38, .aload_n 0, 1, []), (23, 39, .getfield 42, 3, [9, 1, 0, 321, 0]), (24, 42, .lconst 0, 1, []), (25, 43, .invokevirtual 52, 3, [1, 88, 3, 9, 0, 0, 9, 718, 720, 3, 123, 721]), (26, 46, .aload_n 0, 1, []), (27, 47, .iconst (-1), 1, []), (28, 48, .putfield 56, 3, [9, 7, 0, 327, 0]), (29, 51, .aload_n 0, 1, []), (30, 52, .invokevirtual 59, 3, [1, 94, 0, 9, 0, 0, 9, 789, 790, 791, 123, 792]), (31, 55, .return_, 1, [])]
set_option maxRecDepth 20000 in
def kX9_partOne : List INS := [(0, 0, .aload_n 0, 1, []), (1, 1, .getfield 9, 3, [9, 0, 2, 319, 1]), (2, 4, .iload_n 1, 1, []), (3, 5, .iaload, 1, []), (4, 6, .istore_n 2, 1, []), (5, 7, .iload_n 2, 1, []), (6, 8, .bipush 32, 2, []), (7, 10, .if_icmp .eq 9, 3, [11]), (8, 13, .iload_n 2, 1, []), (9, 14, .bipush 10, 2, []), (10, 16, .if_icmp .ne 7, 3, [15]), (11, 19, .iload_n 1, 1, []), (12, 20, .iconst 1, 1, []), (13, 21, .iadd, 1, []), (14, 22, .ireturn, 1, [0]), (15, 23, .iload_n 2, 1, []), (16, 24, .invokestatic 62, 3, [0, 89, 1, 5, 0, 0, 0, 707, 708, 0, 123, 709]), (17, 27, .ifCond .eq 9, 3, [22]), (18, 30, .aload_n 0, 1, []), (19, 31, .iload_n 1, 1, []), (20, 32, .invokevirtual 66, 3, [1, 85, 1, 0, 0, 0, 9, 710, 712, 1, 123, 713]), (21, 35, .ireturn, 1, [0]), (22, 36, .iload_n 2, 1, []), (23, 37, .invokestatic 69, 3, [0, 90, 1, 5, 0, 0, 0, 722, 723, 0, 123, 724]), (24, 40, .ifCond .eq 9, 3, [29]), (25, 43, .aload_n 0, 1, []), (26, 44, .iload_n 1, 1, []), (27, 45, .invokevirtual 72, 3, [1, 86, 1, 0, 0, 0, 9, 725, 727, 4, 123, 728]), (28, 48, .ireturn, 1, [0]), (29, 49, .ldc 75, 2, [2, 729, 1]), (30, 51, .iload_n 2, 1, []), (31, 52, .i2c, 1, []), (32, 53, .invokevirtual 77, 3, [8, 284, 1, 0, 0, 0, 0, 730, 731, 732, 124, 733]), (33, 56, .ifCond .lt 15, 3, [44]), (34, 59, .aload_n 0, 1, []), (35, 60, .iconst 5, 1, []), (36, 61, .iload_n 1, 1, []), (37, 62, .iload_n 2, 1, []), (38, 63, .i2l, 1, []), (39, 64, .invokevirtual 52, 3, [1, 88, 3, 9, 0, 0, 9, 718, 720, 3, 123, 721]), (40, 67, .iload_n 1, 1, []), (41, 68, .iconst 1, 1, []), (42, 69, .iadd, 1, []), (43, 70, .ireturn, 1, [0]), (44, 71, .aload_n 0, 1, []), (45, 72, .iload_n 1, 1, []), (46, 73, .invokevirtual 80, 3, [1, 87, 1, 0, 0, 0, 9, 714, 716, 2, 123, 717]), (47, 76, .ireturn, 1, [0])]
set_option maxRecDepth 20000 in
def kX9_partWord : List INS := [(0, 0, .iload_n 1, 1, []), (1, 1, .istore_n 2, 1, []), (2, 2, .lconst 0, 1, []), (3, 3, .lstore_n 3, 1, []), (4, 4, .iload_n 1, 1, []), (5, 5, .istore 5, 2, []), (6, 7, .iload 5, 2, []), (7, 9, .aload_n 0, 1, []), (8, 10, .getfield 42, 3, [9, 1, 0, 321, 0]), (9, 13, .if_icmp .ge 39, 3, [29]), (10, 16, .aload_n 0, 1, []), (11, 17, .getfield 9, 3, [9, 0, 2, 319, 1]), (12, 20, .iload 5, 2, []), (13, 22, .iaload, 1, []), (14, 23, .invokestatic 62, 3, [0, 89, 1, 5, 0, 0, 0, 707, 708, 0, 123, 709]), (15, 26, .ifCond .eq 26, 3, [29]), (16, 29, .lload_n 3, 1, []), (17, 30, .aload_n 0, 1, []), (18, 31, .getfield 9, 3, [9, 0, 2, 319, 1]), (19, 34, .iload 5, 2, []), (20, 36, .iaload, 1, []), (21, 37, .invokestatic 38, 3, [0, 91, 2, 1, 0, 0, 0, 315, 316, 0, 123, 317]), (22, 40, .lstore_n 3, 1, []), (23, 41, .iload 5, 2, []), (24, 43, .iconst 1, 1, []), (25, 44, .iadd, 1, []), (26, 45, .istore_n 2, 1, []), (27, 46, .iinc 5 1, 3, []), (28, 49, .goto (-42), 3, [6]), (29, 52, .iload_n 2, 1, []), (30, 53, .iload_n 1, 1, []), (31, 54, .isub, 1, []), (32, 55, .bipush 8, 2, []), (33, 57, .if_icmp .le 9, 3, [38]), (34, 60, .aload_n 0, 1, []), (35, 61, .iload_n 1, 1, []), (36, 62, .invokevirtual 80, 3, [1, 87, 1, 0, 0, 0, 9, 714, 716, 2, 123, 717]), (37, 65, .ireturn, 1, [0]), (38, 66, .iconst 0, 1, []), (39, 67, .istore 5, 2, []), (40, 69, .iload 5, 2, []), (41, 71, .bipush 18, 2, []), (42, 73, .if_icmp .ge 32, 3, [60]), (43, 76, .aload_n 0, 1, []), (44, 77, .getfield 13, 3, [9, 2, 2, 322, 1]), (45, 80, .iload 5, 2, []), (46, 82, .laload, 1, []), (47, 83, .lload_n 3, 1, []), (48, 84, .lcmp, 1, []), (49, 85, .ifCond .ne 14, 3, [58]), (50, 88, .aload_n 0, 1, []), (51, 89, .iconst 2, 1, []), (52, 90, .iload_n 1, 1, []), (53, 91, .iload 5, 2, []), (54, 93, .i2l, 1, []), (55, 94, .invokevirtual 52, 3, [1, 88, 3, 9, 0, 0, 9, 718, 720, 3, 123, 721]), (56, 97, .iload_n 2, 1, []), (57, 98, .ireturn, 1, [0]), (58, 99, .iinc 5 1, 3, []), (59, 102, .goto (-33), 3, [40]), (60, 105, .aload_n 0, 1, []), (61, 106, .iconst 3, 1, []), (62, 107, .iload_n 1, 1, []), (63, 108, .lload_n 3, 1, []), (64, 109, .invokevirtual 52, 3, [1, 88, 3, 9, 0, 0, 9, 718, 720, 3, 123, 721]), (65, 112, .iload_n 2, 1, []), (66, 113, .ireturn, 1, [0])]
set_option maxRecDepth 20000 in
def kX9_partNumber : List INS := [(0, 0, .iload_n 1, 1, []), (1, 1, .istore_n 2, 1, []), (2, 2, .iconst 0, 1, []), (3, 3, .istore_n 3, 1, []), (4, 4, .iload_n 1, 1, []), (5, 5, .istore 4, 2, []), (6, 7, .iload 4, 2, []), (7, 9, .aload_n 0, 1, []), (8, 10, .getfield 42, 3, [9, 1, 0, 321, 0]), (9, 13, .if_icmp .ge 43, 3, [33]), (10, 16, .aload_n 0, 1, []), (11, 17, .getfield 9, 3, [9, 0, 2, 319, 1]), (12, 20, .iload 4, 2, []), (13, 22, .iaload, 1, []), (14, 23, .invokestatic 69, 3, [0, 90, 1, 5, 0, 0, 0, 722, 723, 0, 123, 724]), (15, 26, .ifCond .eq 30, 3, [33]), (16, 29, .iload_n 3, 1, []), (17, 30, .bipush 10, 2, []), (18, 32, .imul, 1, []), (19, 33, .aload_n 0, 1, []), (20, 34, .getfield 9, 3, [9, 0, 2, 319, 1]), (21, 37, .iload 4, 2, []), (22, 39, .iaload, 1, []), (23, 40, .bipush 48, 2, []), (24, 42, .isub, 1, []), (25, 43, .iadd, 1, []), (26, 44, .istore_n 3, 1, []), (27, 45, .iload 4, 2, []), (28, 47, .iconst 1, 1, []), (29, 48, .iadd, 1, []), (30, 49, .istore_n 2, 1, []), (31, 50, .iinc 4 1, 3, []), (32, 53, .goto (-46), 3, [6]), (33, 56, .iload_n 2, 1, []), (34, 57, .aload_n 0, 1, []), (35, 58, .getfield 42, 3, [9, 1, 0, 321, 0]), (36, 61, .if_icmp .ge 19, 3, [45]), (37, 64, .aload_n 0, 1, []), (38, 65, .getfield 9, 3, [9, 0, 2, 319, 1]), (39, 68, .iload_n 2, 1, []), (40, 69, .iaload, 1, []), (41, 70, .invokestatic 62, 3, [0, 89, 1, 5, 0, 0, 0, 707, 708, 0, 123, 709]), (42, 73, .ifCond .eq 7, 3, [45]), (43, 76, .iconst 1, 1, []), (44, 77, .goto 4, 3, [46]), (45, 80, .iconst 0, 1, []), (46, 81, .istore 4, 2, []), (47, 83, .iload 4, 2, []), (48, 85, .ifCond .ne 10, 3, [54]), (49, 88, .iload_n 2, 1, []), (50, 89, .iload_n 1, 1, []), (51, 90, .isub, 1, []), (52, 91, .iconst 4, 1, []), (53, 92, .if_icmp .le 9, 3, [58]), (54, 95, .aload_n 0, 1, []), (55, 96, .iload_n 1, 1, []), (56, 97, .invokevirtual 80, 3, [1, 87, 1, 0, 0, 0, 9, 714, 716, 2, 123, 717]), (57, 100, .ireturn, 1, [0]), (58, 101, .aload_n 0, 1, []), (59, 102, .iconst 4, 1, []), (60, 103, .iload_n 1, 1, []), (61, 104, .iload_n 3, 1, []), (62, 105, .i2l, 1, []), (63, 106, .invokevirtual 52, 3, [1, 88, 3, 9, 0, 0, 9, 718, 720, 3, 123, 721]), (64, 109, .iload_n 2, 1, []), (65, 110, .ireturn, 1, [0])]
set_option maxRecDepth 20000 in
def kX9_partBad : List INS := [(0, 0, .aload_n 0, 1, []), (1, 1, .iconst 0, 1, []), (2, 2, .iload_n 1, 1, []), (3, 3, .lconst 0, 1, []), (4, 4, .invokevirtual 52, 3, [1, 88, 3, 9, 0, 0, 9, 718, 720, 3, 123, 721]), (5, 7, .aload_n 0, 1, []), (6, 8, .getfield 42, 3, [9, 1, 0, 321, 0]), (7, 11, .ireturn, 1, [0])]
set_option maxRecDepth 20000 in
def kX9_add : List INS := [(0, 0, .aload_n 0, 1, []), (1, 1, .getfield 45, 3, [9, 6, 0, 326, 0]), (2, 4, .sipush 1600, 3, []), (3, 7, .if_icmp .gt 43, 3, [28]), (4, 10, .aload_n 0, 1, []), (5, 11, .getfield 17, 3, [9, 3, 2, 323, 1]), (6, 14, .aload_n 0, 1, []), (7, 15, .getfield 45, 3, [9, 6, 0, 326, 0]), (8, 18, .iload_n 1, 1, []), (9, 19, .iastore, 1, []), (10, 20, .aload_n 0, 1, []), (11, 21, .getfield 20, 3, [9, 4, 2, 324, 1]), (12, 24, .aload_n 0, 1, []), (13, 25, .getfield 45, 3, [9, 6, 0, 326, 0]), (14, 28, .iload_n 2, 1, []), (15, 29, .iastore, 1, []), (16, 30, .aload_n 0, 1, []), (17, 31, .getfield 23, 3, [9, 5, 2, 325, 1]), (18, 34, .aload_n 0, 1, []), (19, 35, .getfield 45, 3, [9, 6, 0, 326, 0]), (20, 38, .lload_n 3, 1, []), (21, 39, .lastore, 1, []), (22, 40, .aload_n 0, 1, []), (23, 41, .dup, 1, []), (24, 42, .getfield 45, 3, [9, 6, 0, 326, 0]), (25, 45, .iconst 1, 1, []), (26, 46, .iadd, 1, []), (27, 47, .putfield 45, 3, [9, 6, 0, 326, 0]), (28, 50, .return_, 1, [])]
set_option maxRecDepth 20000 in
def kX9_isLetter : List INS := [(0, 0, .iload_n 0, 1, []), (1, 1, .bipush 97, 2, []), (2, 3, .if_icmp .lt 13, 3, [8]), (3, 6, .iload_n 0, 1, []), (4, 7, .bipush 122, 2, []), (5, 9, .if_icmp .gt 7, 3, [8]), (6, 12, .iconst 1, 1, []), (7, 13, .goto 4, 3, [9]), (8, 16, .iconst 0, 1, []), (9, 17, .ireturn, 1, [5])]
set_option maxRecDepth 20000 in
def kX9_isDigit : List INS := [(0, 0, .iload_n 0, 1, []), (1, 1, .bipush 48, 2, []), (2, 3, .if_icmp .lt 13, 3, [8]), (3, 6, .iload_n 0, 1, []), (4, 7, .bipush 57, 2, []), (5, 9, .if_icmp .gt 7, 3, [8]), (6, 12, .iconst 1, 1, []), (7, 13, .goto 4, 3, [9]), (8, 16, .iconst 0, 1, []), (9, 17, .ireturn, 1, [5])]
set_option maxRecDepth 20000 in
def kX9_withLetter : List INS := [(0, 0, .lload_n 0, 1, []), (1, 1, .ldc2_w 83, 3, [32, 318]), (2, 4, .lmul, 1, []), (3, 5, .iload_n 2, 1, []), (4, 6, .bipush 97, 2, []), (5, 8, .isub, 1, []), (6, 9, .iconst 1, 1, []), (7, 10, .iadd, 1, []), (8, 11, .i2l, 1, []), (9, 12, .ladd, 1, []), (10, 13, .lreturn, 1, [])]
set_option maxRecDepth 20000 in
def kX9_isKeyword : List INS := [(0, 0, .aload_n 0, 1, []), (1, 1, .getfield 85, 3, [9, 8, 0, 329, 0]), (2, 4, .iconst 2, 1, []), (3, 5, .if_icmp .ne 17, 3, [12]), (4, 8, .aload_n 0, 1, []), (5, 9, .getfield 88, 3, [9, 10, 1, 333, 0]), (6, 12, .iload_n 1, 1, []), (7, 13, .i2l, 1, []), (8, 14, .lcmp, 1, []), (9, 15, .ifCond .ne 7, 3, [12]), (10, 18, .iconst 1, 1, []), (11, 19, .goto 4, 3, [13]), (12, 22, .iconst 0, 1, []), (13, 23, .ireturn, 1, [5])]
set_option maxRecDepth 20000 in
def kX9_isSign : List INS := [(0, 0, .aload_n 0, 1, []), (1, 1, .getfield 85, 3, [9, 8, 0, 329, 0]), (2, 4, .iconst 5, 1, []), (3, 5, .if_icmp .ne 17, 3, [12]), (4, 8, .aload_n 0, 1, []), (5, 9, .getfield 88, 3, [9, 10, 1, 333, 0]), (6, 12, .iload_n 1, 1, []), (7, 13, .i2l, 1, []), (8, 14, .lcmp, 1, []), (9, 15, .ifCond .ne 7, 3, [12]), (10, 18, .iconst 1, 1, []), (11, 19, .goto 4, 3, [13]), (12, 22, .iconst 0, 1, []), (13, 23, .ireturn, 1, [5])]
set_option maxRecDepth 20000 in
def kX9_step : List INS := [(0, 0, .aload_n 0, 1, []), (1, 1, .getfield 56, 3, [9, 7, 0, 327, 0]), (2, 4, .aload_n 0, 1, []), (3, 5, .getfield 45, 3, [9, 6, 0, 326, 0]), (4, 8, .iconst 1, 1, []), (5, 9, .isub, 1, []), (6, 10, .if_icmp .ge 52, 3, [34]), (7, 13, .aload_n 0, 1, []), (8, 14, .dup, 1, []), (9, 15, .getfield 56, 3, [9, 7, 0, 327, 0]), (10, 18, .iconst 1, 1, []), (11, 19, .iadd, 1, []), (12, 20, .putfield 56, 3, [9, 7, 0, 327, 0]), (13, 23, .aload_n 0, 1, []), (14, 24, .aload_n 0, 1, []), (15, 25, .getfield 17, 3, [9, 3, 2, 323, 1]), (16, 28, .aload_n 0, 1, []), (17, 29, .getfield 56, 3, [9, 7, 0, 327, 0]), (18, 32, .iaload, 1, []), (19, 33, .putfield 85, 3, [9, 8, 0, 329, 0]), (20, 36, .aload_n 0, 1, []), (21, 37, .aload_n 0, 1, []), (22, 38, .getfield 20, 3, [9, 4, 2, 324, 1]), (23, 41, .aload_n 0, 1, []), (24, 42, .getfield 56, 3, [9, 7, 0, 327, 0]), (25, 45, .iaload, 1, []), (26, 46, .putfield 92, 3, [9, 9, 0, 331, 0]), (27, 49, .aload_n 0, 1, []), (28, 50, .aload_n 0, 1, []), (29, 51, .getfield 23, 3, [9, 5, 2, 325, 1]), (30, 54, .aload_n 0, 1, []), (31, 55, .getfield 56, 3, [9, 7, 0, 327, 0]), (32, 58, .laload, 1, []), (33, 59, .putfield 88, 3, [9, 10, 1, 333, 0]), (34, 62, .return_, 1, [])]
set_option maxRecDepth 20000 in
def kX10_init : List INS := [(0, 0, .aload_n 0, 1, []), (1, 1, .invokespecial 3, 3, [9, 0, 0, 9, 0, 0, 0, 475, 147, 0, 0, 148]), (2, 4, .aload_n 0, 1, []), (3, 5, .new 9, 3, [8, 11, 476, 403, 130]), (4, 8, .dup, 1, []), (5, 9, .invokespecial 11, 3, [2, 66, 0, 9, 4, 286, 8, 477, 405, 0, 130, 406]), (6, 12, .putfield 12, 3, [10, 0, 2, 478, 1]), (7, 15, .aload_n 0, 1, []), (8, 16, .new 9, 3, [8, 11, 476, 403, 130]), (9, 19, .dup, 1, []), (10, 20, .invokespecial 11, 3, [2, 66, 0, 9, 4, 286, 8, 477, 405, 0, 130, 406]), (11, 23, .putfield 18, 3, [10, 1, 2, 480, 1]), (12, 26, .aload_n 0, 1, []), (13, 27, .iconst 3, 1, []), (14, 28, .newarray .int, 2, [100, 259]), (15, 30, .putfield 23, 3, [10, 2, 2, 481, 1]), (16, 33, .aload_n 0, 1, []), (17, 34, .bipush 41, 2, []), (18, 36, .newarray .int, 2, [100, 259]), (19, 38, .putfield 27, 3, [10, 3, 2, 482, 1]), (20, 41, .return_, 1, [])]
set_option maxRecDepth 20000 in
def kX10_open : List INS := [(0, 0, .aload_n 0, 1, []), (1, 1, .getfield 12, 3, [10, 0, 2, 478, 1]), (2, 4, .iconst 0, 1, []), (3, 5, .invokevirtual 30, 3, [1, 67, 1, 9, 0, 0, 8, 1044, 895, 896, 130, 897]), (4, 8, .iconst 0, 1, []), (5, 9, .istore_n 3, 1, []), (6, 10, .iload_n 3, 1, []), (7, 11, .aload_n 1, 1, []), (8, 12, .getfield 34, 3, [4, 5, 0, 172, 0]), (9, 15, .if_icmp .ge 25, 3, [22]), (10, 18, .aload_n 0, 1, []), (11, 19, .getfield 12, 3, [10, 0, 2, 478, 1]), (12, 22, .aload_n 1, 1, []), (13, 23, .getfield 38, 3, [4, 6, 2, 180, 1]), (14, 26, .iload_n 3, 1, []), (15, 27, .iaload, 1, []), (16, 28, .aload_n 2, 1, []), (17, 29, .iload_n 3, 1, []), (18, 30, .iaload, 1, []), (19, 31, .invokevirtual 41, 3, [1, 73, 2, 9, 0, 0, 8, 1045, 971, 972, 130, 973]), (20, 34, .iinc 3 1, 3, []), (21, 37, .goto (-27), 3, [6]), (22, 40, .return_, 1, [])]
set_option maxRecDepth 20000 in
def kX10_reckoned : List INS := [(0, 0, .aload_n 0, 1, []), (1, 1, .aload_n 1, 1, []), (2, 2, .aload_n 2, 1, []), (3, 3, .invokevirtual 45, 3, [1, 96, 2, 9, 0, 0, 10, 1040, 1041, 1042, 131, 1043]), (4, 6, .iconst 0, 1, []), (5, 7, .istore 5, 2, []), (6, 9, .iload 5, 2, []), (7, 11, .iload 4, 2, []), (8, 13, .if_icmp .ge 28, 3, [20]), (9, 16, .aload_n 0, 1, []), (10, 17, .getfield 12, 3, [10, 0, 2, 478, 1]), (11, 20, .aload_n 1, 1, []), (12, 21, .invokevirtual 49, 3, [1, 80, 1, 5, 0, 0, 8, 1046, 1047, 1048, 130, 1049]), (13, 24, .ifCond .ne 17, 3, [20]), (14, 27, .aload_n 0, 1, []), (15, 28, .getfield 12, 3, [10, 0, 2, 478, 1]), (16, 31, .aload_n 1, 1, []), (17, 32, .invokevirtual 53, 3, [1, 75, 1, 9, 0, 0, 8, 1050, 979, 980, 130, 981]), (18, 35, .iinc 5 1, 3, []), (19, 38, .goto (-29), 3, [6]), (20, 41, .aload_n 0, 1, []), (21, 42, .getfield 12, 3, [10, 0, 2, 478, 1]), (22, 45, .getfield 57, 3, [8, 2, 2, 411, 1]), (23, 48, .iload_n 3, 1, []), (24, 49, .iaload, 1, []), (25, 50, .ireturn, 1, [0])]
set_option maxRecDepth 20000 in
def kX10_stillAt : List INS := [(0, 0, .aload_n 0, 1, []), (1, 1, .aload_n 1, 1, []), (2, 2, .aload_n 2, 1, []), (3, 3, .invokevirtual 45, 3, [1, 96, 2, 9, 0, 0, 10, 1040, 1041, 1042, 131, 1043]), (4, 6, .iconst 0, 1, []), (5, 7, .istore_n 3, 1, []), (6, 8, .iload_n 3, 1, []), (7, 9, .sipush 200, 3, []), (8, 12, .if_icmp .gt 30, 3, [22]), (9, 15, .aload_n 0, 1, []), (10, 16, .getfield 12, 3, [10, 0, 2, 478, 1]), (11, 19, .aload_n 1, 1, []), (12, 20, .invokevirtual 49, 3, [1, 80, 1, 5, 0, 0, 8, 1046, 1047, 1048, 130, 1049]), (13, 23, .ifCond .eq 5, 3, [16]), (14, 26, .iload_n 3, 1, []), (15, 27, .ireturn, 1, [0]), (16, 28, .aload_n 0, 1, []), (17, 29, .getfield 12, 3, [10, 0, 2, 478, 1]), (18, 32, .aload_n 1, 1, []), (19, 33, .invokevirtual 53, 3, [1, 75, 1, 9, 0, 0, 8, 1050, 979, 980, 130, 981]), (20, 36, .iinc 3 1, 3, []), (21, 39, .goto (-31), 3, [6]), (22, 42, .iconst (-1), 1, []), (23, 43, .ireturn, 1, [0])]
set_option maxRecDepth 20000 in
def kX10_reckonedWithout : List INS := [(0, 0, .aload_n 0, 1, []), (1, 1, .getfield 18, 3, [10, 1, 2, 480, 1]), (2, 4, .aload_n 0, 1, []), (3, 5, .getfield 12, 3, [10, 0, 2, 478, 1]), (4, 8, .invokevirtual 60, 3, [1, 68, 1, 9, 0, 0, 8, 1155, 963, 964, 130, 965]), (5, 11, .aload_n 0, 1, []), (6, 12, .getfield 18, 3, [10, 1, 2, 480, 1]), (7, 15, .iload_n 2, 1, []), (8, 16, .aload_n 1, 1, []), (9, 17, .getfield 64, 3, [4, 10, 2, 201, 1]), (10, 20, .iload_n 2, 1, []), (11, 21, .iaload, 1, []), (12, 22, .invokevirtual 67, 3, [1, 74, 2, 9, 0, 0, 8, 1156, 1157, 1158, 130, 1159]), (13, 25, .iconst 0, 1, []), (14, 26, .istore 5, 2, []), (15, 28, .iload 5, 2, []), (16, 30, .iload 4, 2, []), (17, 32, .if_icmp .ge 28, 3, [29]), (18, 35, .aload_n 0, 1, []), (19, 36, .getfield 18, 3, [10, 1, 2, 480, 1]), (20, 39, .aload_n 1, 1, []), (21, 40, .invokevirtual 49, 3, [1, 80, 1, 5, 0, 0, 8, 1046, 1047, 1048, 130, 1049]), (22, 43, .ifCond .ne 17, 3, [29]), (23, 46, .aload_n 0, 1, []), (24, 47, .getfield 18, 3, [10, 1, 2, 480, 1]), (25, 50, .aload_n 1, 1, []), (26, 51, .invokevirtual 53, 3, [1, 75, 1, 9, 0, 0, 8, 1050, 979, 980, 130, 981]), (27, 54, .iinc 5 1, 3, []), (28, 57, .goto (-29), 3, [15]), (29, 60, .aload_n 0, 1, []), (30, 61, .getfield 18, 3, [10, 1, 2, 480, 1]), (31, 64, .getfield 57, 3, [8, 2, 2, 411, 1]), (32, 67, .iload_n 3, 1, []), (33, 68, .iaload, 1, []), (34, 69, .ireturn, 1, [0])]
set_option maxRecDepth 20000 in
def kX10_hasSetOut : List INS := [(0, 0, .aload_n 0, 1, []), (1, 1, .getfield 12, 3, [10, 0, 2, 478, 1]), (2, 4, .iload_n 2, 1, []), (3, 5, .aload_n 1, 1, []), (4, 6, .getfield 64, 3, [4, 10, 2, 201, 1]), (5, 9, .iload_n 2, 1, []), (6, 10, .iaload, 1, []), (7, 11, .invokevirtual 70, 3, [1, 70, 2, 0, 0, 0, 8, 1150, 938, 939, 130, 940]), (8, 14, .ifCond .le 7, 3, [11]), (9, 17, .iconst 1, 1, []), (10, 18, .goto 4, 3, [12]), (11, 21, .iconst 0, 1, []), (12, 22, .ireturn, 1, [5])]
set_option maxRecDepth 20000 in
def kX10_lossOf : List INS := [(0, 0, .aload_n 0, 1, []), (1, 1, .aload_n 1, 1, []), (2, 2, .aload_n 2, 1, []), (3, 3, .iload 5, 2, []), (4, 5, .iload 6, 2, []), (5, 7, .invokevirtual 74, 3, [1, 97, 4, 0, 0, 0, 10, 1145, 1037, 1038, 131, 1039]), (6, 10, .istore 7, 2, []), (7, 12, .aload_n 0, 1, []), (8, 13, .aload_n 1, 1, []), (9, 14, .aload_n 2, 1, []), (10, 15, .invokevirtual 45, 3, [1, 96, 2, 9, 0, 0, 10, 1040, 1041, 1042, 131, 1043]), (11, 18, .iconst 0, 1, []), (12, 19, .istore 8, 2, []), (13, 21, .iload 8, 2, []), (14, 23, .iload 4, 2, []), (15, 25, .if_icmp .ge 17, 3, [22]), (16, 28, .aload_n 0, 1, []), (17, 29, .getfield 12, 3, [10, 0, 2, 478, 1]), (18, 32, .aload_n 1, 1, []), (19, 33, .invokevirtual 53, 3, [1, 75, 1, 9, 0, 0, 8, 1050, 979, 980, 130, 981]), (20, 36, .iinc 8 1, 3, []), (21, 39, .goto (-18), 3, [13]), (22, 42, .aload_n 0, 1, []), (23, 43, .aload_n 1, 1, []), (24, 44, .iload_n 3, 1, []), (25, 45, .invokevirtual 78, 3, [1, 100, 2, 5, 0, 0, 10, 1146, 1148, 36, 131, 1149]), (26, 48, .ifCond .ne 5, 3, [29]), (27, 51, .iconst 0, 1, []), (28, 52, .ireturn, 1, [0]), (29, 53, .iload 7, 2, []), (30, 55, .aload_n 0, 1, []), (31, 56, .aload_n 1, 1, []), (32, 57, .iload_n 3, 1, []), (33, 58, .iload 5, 2, []), (34, 60, .iload 6, 2, []), (35, 62, .iload 4, 2, []), (36, 64, .isub, 1, []), (37, 65, .invokevirtual 82, 3, [1, 99, 4, 0, 0, 0, 10, 1151, 1153, 37, 131, 1154]), (38, 68, .isub, 1, []), (39, 69, .ireturn, 1, [0])]
set_option maxRecDepth 20000 in
def kX10_unseen : List INS := [(0, 0, .aload_n 0, 1, []), (1, 1, .aload_n 1, 1, []), (2, 2, .aload_n 2, 1, []), (3, 3, .iload_n 3, 1, []), (4, 4, .iload 4, 2, []), (5, 6, .invokevirtual 74, 3, [1, 97, 4, 0, 0, 0, 10, 1145, 1037, 1038, 131, 1039]), (6, 9, .istore 5, 2, []), (7, 11, .iconst 0, 1, []), (8, 12, .istore 6, 2, []), (9, 14, .aload_n 0, 1, []), (10, 15, .aload_n 1, 1, []), (11, 16, .aload_n 2, 1, []), (12, 17, .invokevirtual 45, 3, [1, 96, 2, 9, 0, 0, 10, 1040, 1041, 1042, 131, 1043]), (13, 20, .iconst 1, 1, []), (14, 21, .istore 7, 2, []), (15, 23, .iload 7, 2, []), (16, 25, .iload 4, 2, []), (17, 27, .if_icmp .gt 77, 3, [53]), (18, 30, .aload_n 0, 1, []), (19, 31, .getfield 12, 3, [10, 0, 2, 478, 1]), (20, 34, .aload_n 1, 1, []), (21, 35, .invokevirtual 49, 3, [1, 80, 1, 5, 0, 0, 8, 1046, 1047, 1048, 130, 1049]), (22, 38, .ifCond .ne 66, 3, [53]), (23, 41, .aload_n 0, 1, []), (24, 42, .getfield 12, 3, [10, 0, 2, 478, 1]), (25, 45, .aload_n 1, 1, []), (26, 46, .invokevirtual 53, 3, [1, 75, 1, 9, 0, 0, 8, 1050, 979, 980, 130, 981]), (27, 49, .iconst 0, 1, []), (28, 50, .istore 8, 2, []), (29, 52, .iload 8, 2, []), (30, 54, .aload_n 1, 1, []), (31, 55, .getfield 86, 3, [4, 7, 0, 189, 0]), (32, 58, .if_icmp .ge 40, 3, [51]), (33, 61, .aload_n 0, 1, []), (34, 62, .aload_n 1, 1, []), (35, 63, .iload 8, 2, []), (36, 65, .invokevirtual 78, 3, [1, 100, 2, 5, 0, 0, 10, 1146, 1148, 36, 131, 1149]), (37, 68, .ifCond .eq 24, 3, [49]), (38, 71, .aload_n 0, 1, []), (39, 72, .aload_n 1, 1, []), (40, 73, .iload 8, 2, []), (41, 75, .iload_n 3, 1, []), (42, 76, .iload 4, 2, []), (43, 78, .iload 7, 2, []), (44, 80, .isub, 1, []), (45, 81, .invokevirtual 82, 3, [1, 99, 4, 0, 0, 0, 10, 1151, 1153, 37, 131, 1154]), (46, 84, .iload 5, 2, []), (47, 86, .if_icmp .ne 6, 3, [49]), (48, 89, .iinc 6 1, 3, []), (49, 92, .iinc 8 1, 3, []), (50, 95, .goto (-43), 3, [29]), (51, 98, .iinc 7 1, 3, []), (52, 101, .goto (-78), 3, [15]), (53, 104, .iload 6, 2, []), (54, 106, .ireturn, 1, [0])]
set_option maxRecDepth 20000 in
def kX10_unadded : List INS := [(0, 0, .iconst 0, 1, []), (1, 1, .istore 7, 2, []), (2, 3, .iload 7, 2, []), (3, 5, .iconst 3, 1, []), (4, 6, .if_icmp .ge 17, 3, [12]), (5, 9, .aload_n 0, 1, []), (6, 10, .getfield 23, 3, [10, 2, 2, 481, 1]), (7, 13, .iload 7, 2, []), (8, 15, .iconst 0, 1, []), (9, 16, .iastore, 1, []), (10, 17, .iinc 7 1, 3, []), (11, 20, .goto (-17), 3, [2]), (12, 23, .iconst 1, 1, []), (13, 24, .istore 7, 2, []), (14, 26, .iload 7, 2, []), (15, 28, .iload 4, 2, []), (16, 30, .if_icmp .gt 43, 3, [38]), (17, 33, .iload 7, 2, []), (18, 35, .bipush 40, 2, []), (19, 37, .if_icmp .gt 36, 3, [38]), (20, 40, .aload_n 0, 1, []), (21, 41, .getfield 23, 3, [10, 2, 2, 481, 1]), (22, 44, .iload_n 2, 1, []), (23, 45, .iload 7, 2, []), (24, 47, .iastore, 1, []), (25, 48, .aload_n 0, 1, []), (26, 49, .getfield 27, 3, [10, 3, 2, 482, 1]), (27, 52, .iload 7, 2, []), (28, 54, .aload_n 0, 1, []), (29, 55, .aload_n 1, 1, []), (30, 56, .aload_n 0, 1, []), (31, 57, .getfield 23, 3, [10, 2, 2, 481, 1]), (32, 60, .iload_n 3, 1, []), (33, 61, .iload 5, 2, []), (34, 63, .invokevirtual 74, 3, [1, 97, 4, 0, 0, 0, 10, 1145, 1037, 1038, 131, 1039]), (35, 66, .iastore, 1, []), (36, 67, .iinc 7 1, 3, []), (37, 70, .goto (-44), 3, [14]), (38, 73, .iconst 0, 1, []), (39, 74, .istore 7, 2, []), (40, 76, .iconst 1, 1, []), (41, 77, .istore 8, 2, []), (42, 79, .iload 8, 2, []), (43, 81, .iload 4, 2, []), (44, 83, .if_icmp .gt 86, 3, [85]), (45, 86, .iload 4, 2, []), (46, 88, .bipush 40, 2, []), (47, 90, .if_icmp .gt 79, 3, [85]), (48, 93, .iload 8, 2, []), (49, 95, .istore 9, 2, []), (50, 97, .iload 9, 2, []), (51, 99, .iload 4, 2, []), (52, 101, .iload 8, 2, []), (53, 103, .isub, 1, []), (54, 104, .if_icmp .gt 59, 3, [83]), (55, 107, .aload_n 0, 1, []), (56, 108, .getfield 27, 3, [10, 3, 2, 482, 1]), (57, 111, .iload 8, 2, []), (58, 113, .iload 9, 2, []), (59, 115, .iadd, 1, []), (60, 116, .iaload, 1, []), (61, 117, .aload_n 0, 1, []), (62, 118, .getfield 27, 3, [10, 3, 2, 482, 1]), (63, 121, .iload 8, 2, []), (64, 123, .iaload, 1, []), (65, 124, .aload_n 0, 1, []), (66, 125, .getfield 27, 3, [10, 3, 2, 482, 1]), (67, 128, .iload 9, 2, []), (68, 130, .iaload, 1, []), (69, 131, .iadd, 1, []), (70, 132, .if_icmp .eq 25, 3, [81]), (71, 135, .iload 6, 2, []), (72, 137, .ifCond .le 17, 3, [80]), (73, 140, .iload 6, 2, []), (74, 142, .iconst 1, 1, []), (75, 143, .if_icmp .ne 8, 3, [78]), (76, 146, .iload 8, 2, []), (77, 148, .goto 5, 3, [79]), (78, 151, .iload 9, 2, []), (79, 153, .ireturn, 1, [0]), (80, 154, .iinc 7 1, 3, []), (81, 157, .iinc 9 1, 3, []), (82, 160, .goto (-63), 3, [50]), (83, 163, .iinc 8 1, 3, []), (84, 166, .goto (-87), 3, [42]), (85, 169, .iload 6, 2, []), (86, 171, .ifCond .le 7, 3, [89]), (87, 174, .iconst (-1), 1, []), (88, 175, .goto 5, 3, [90]), (89, 178, .iload 7, 2, []), (90, 180, .ireturn, 1, [0])]
set_option maxRecDepth 20000 in
def kX11_init : List INS := [(0, 0, .aload_n 0, 1, []), (1, 1, .invokespecial 1, 3, [9, 0, 0, 9, 0, 0, 0, 146, 147, 0, 0, 148]), (2, 4, .aload_n 0, 1, []), (3, 5, .new 7, 3, [4, 19, 149, 150, 122]), (4, 8, .dup, 1, []), (5, 9, .invokespecial 9, 3, [2, 22, 0, 9, 12, 1735, 4, 151, 152, 0, 122, 153]), (6, 12, .putfield 10, 3, [11, 12, 2, 641, 0]), (7, 15, .aload_n 0, 1, []), (8, 16, .new 7, 3, [4, 19, 149, 150, 122]), (9, 19, .dup, 1, []), (10, 20, .invokespecial 9, 3, [2, 22, 0, 9, 12, 1735, 4, 151, 152, 0, 122, 153]), (11, 23, .putfield 16, 3, [11, 13, 2, 642, 0]), (12, 26, .aload_n 0, 1, []), (13, 27, .new 19, 3, [9, 11, 260, 261, 123]), (14, 30, .dup, 1, []), (15, 31, .invokespecial 21, 3, [2, 81, 0, 9, 5, 6421, 9, 262, 263, 0, 123, 264]), (16, 34, .putfield 22, 3, [11, 0, 2, 629, 1]), (17, 37, .aload_n 0, 1, []), (18, 38, .new 26, 3, [5, 9, 359, 360, 128]), (19, 41, .dup, 1, []), (20, 42, .aload_n 0, 1, []), (21, 43, .getfield 22, 3, [11, 0, 2, 629, 1]), (22, 46, .aload_n 0, 1, []), (23, 47, .getfield 16, 3, [11, 13, 2, 642, 0]), (24, 50, .invokespecial 28, 3, [2, 33, 2, 9, 2, 16, 5, 361, 362, 0, 128, 363]), (25, 53, .putfield 31, 3, [11, 1, 2, 630, 1]), (26, 56, .aload_n 0, 1, []), (27, 57, .new 35, 3, [0, 4, 395, 396, 129]), (28, 60, .dup, 1, []), (29, 61, .invokespecial 37, 3, [2, 0, 0, 9, 206, 12218, 0, 397, 398, 0, 129, 399]), (30, 64, .putfield 38, 3, [11, 2, 2, 631, 1]), (31, 67, .aload_n 0, 1, []), (32, 68, .iconst 3, 1, []), (33, 69, .anewarray 42, 3, [104, 468, 402]), (34, 72, .putfield 44, 3, [11, 3, 2, 632, 1]), (35, 75, .iconst 0, 1, []), (36, 76, .istore_n 1, 1, []), (37, 77, .iload_n 1, 1, []), (38, 78, .iconst 3, 1, []), (39, 79, .if_icmp .ge 22, 3, [49]), (40, 82, .aload_n 0, 1, []), (41, 83, .getfield 44, 3, [11, 3, 2, 632, 1]), (42, 86, .iload_n 1, 1, []), (43, 87, .new 42, 3, [8, 11, 468, 403, 130]), (44, 90, .dup, 1, []), (45, 91, .invokespecial 48, 3, [2, 66, 0, 9, 4, 286, 8, 469, 405, 0, 130, 406]), (46, 94, .aastore, 1, []), (47, 95, .iinc 1 1, 3, []), (48, 98, .goto (-21), 3, [37]), (49, 101, .aload_n 0, 1, []), (50, 102, .iconst 3, 1, []), (51, 103, .newarray .boolean, 2, [103, 492]), (52, 105, .putfield 49, 3, [11, 4, 2, 633, 1]), (53, 108, .aload_n 0, 1, []), (54, 109, .iconst 3, 1, []), (55, 110, .newarray .int, 2, [100, 259]), (56, 112, .putfield 53, 3, [11, 5, 2, 634, 1]), (57, 115, .aload_n 0, 1, []), (58, 116, .new 57, 3, [10, 4, 470, 471, 131]), (59, 119, .dup, 1, []), (60, 120, .invokespecial 59, 3, [2, 95, 0, 9, 12, 638, 10, 472, 473, 0, 131, 474]), (61, 123, .putfield 60, 3, [11, 6, 2, 635, 1]), (62, 126, .aload_n 0, 1, []), (63, 127, .new 64, 3, [6, 2, 493, 494, 132]), (64, 130, .dup, 1, []), (65, 131, .invokespecial 66, 3, [2, 52, 0, 9, 63, 681, 6, 495, 496, 0, 132, 497]), (66, 134, .putfield 67, 3, [11, 8, 2, 637, 1]), (67, 137, .aload_n 0, 1, []), (68, 138, .new 71, 3, [3, 2, 508, 509, 133]), (69, 141, .dup, 1, []), (70, 142, .invokespecial 73, 3, [2, 20, 0, 9, 1, 8, 3, 510, 511, 0, 133, 512]), (71, 145, .putfield 74, 3, [11, 11, 2, 640, 1]), (72, 148, .aload_n 0, 1, []), (73, 149, .new 78, 3, [2, 10, 524, 525, 134]), (74, 152, .dup, 1, []), (75, 153, .aload_n 0, 1, []), (76, 154, .getfield 60, 3, [11, 6, 2, 635, 1]), (77, 157, .aload_n 0, 1, []), (78, 158, .getfield 67, 3, [11, 8, 2, 637, 1]), (79, 161, .aload_n 0, 1, []), (80, 162, .getfield 74, 3, [11, 11, 2, 640, 1]), (81, 165, .invokespecial 80, 3, [2, 13, 3, 9, 1, 3, 2, 526, 527, 0, 134, 528]), (82, 168, .putfield 83, 3, [11, 7, 2, 636, 1]), (83, 171, .aload_n 0, 1, []), (84, 172, .new 87, 3, [1, 5, 561, 562, 135]), (85, 175, .dup, 1, []), (86, 176, .aload_n 0, 1, []), (87, 177, .getfield 74, 3, [11, 11, 2, 640, 1]), (88, 180, .invokespecial 89, 3, [2, 7, 1, 9, 12, 57, 1, 563, 564, 0, 135, 565]), (89, 183, .putfield 92, 3, [11, 9, 2, 638, 1]), (90, 186, .aload_n 0, 1, []), (91, 187, .new 96, 3, [7, 11, 585, 586, 136]), (92, 190, .dup, 1, []), (93, 191, .aload_n 0, 1, []), (94, 192, .getfield 60, 3, [11, 6, 2, 635, 1]), (95, 195, .invokespecial 98, 3, [2, 60, 1, 9, 8, 109, 7, 587, 588, 0, 136, 589]), (96, 198, .putfield 101, 3, [11, 10, 2, 639, 1]), (97, 201, .return_, 1, [])]
set_option maxRecDepth 20000 in
def kX11_feed : List INS := [(0, 0, .aload_n 0, 1, []), (1, 1, .getfield 22, 3, [11, 0, 2, 629, 1]), (2, 4, .getfield 105, 3, [9, 1, 0, 320, 0]), (3, 7, .sipush 1580, 3, []), (4, 10, .if_icmp .le 5, 3, [7]), (5, 13, .iconst (-1), 1, []), (6, 14, .ireturn, 1, [0]), (7, 15, .aload_n 0, 1, []), (8, 16, .getfield 22, 3, [11, 0, 2, 629, 1]), (9, 19, .iload_n 1, 1, []), (10, 20, .invokevirtual 109, 3, [1, 82, 1, 9, 0, 0, 9, 679, 680, 681, 123, 682]), (11, 23, .aload_n 0, 1, []), (12, 24, .getfield 22, 3, [11, 0, 2, 629, 1]), (13, 27, .iload_n 2, 1, []), (14, 28, .invokevirtual 109, 3, [1, 82, 1, 9, 0, 0, 9, 679, 680, 681, 123, 682]), (15, 31, .aload_n 0, 1, []), (16, 32, .getfield 22, 3, [11, 0, 2, 629, 1]), (17, 35, .iload_n 3, 1, []), (18, 36, .invokevirtual 109, 3, [1, 82, 1, 9, 0, 0, 9, 679, 680, 681, 123, 682]), (19, 39, .aload_n 0, 1, []), (20, 40, .getfield 22, 3, [11, 0, 2, 629, 1]), (21, 43, .iload 4, 2, []), (22, 45, .invokevirtual 109, 3, [1, 82, 1, 9, 0, 0, 9, 679, 680, 681, 123, 682]), (23, 48, .aload_n 0, 1, []), (24, 49, .getfield 22, 3, [11, 0, 2, 629, 1]), (25, 52, .iload 5, 2, []), (26, 54, .invokevirtual 109, 3, [1, 82, 1, 9, 0, 0, 9, 679, 680, 681, 123, 682]), (27, 57, .aload_n 0, 1, []), (28, 58, .getfield 22, 3, [11, 0, 2, 629, 1]), (29, 61, .getfield 105, 3, [9, 1, 0, 320, 0]), (30, 64, .ireturn, 1, [0])]
set_option maxRecDepth 20000 in
def kX11_end : List INS := [(0, 0, .iload_n 1, 1, []), (1, 1, .ifCond .lt 14, 3, [7]), (2, 4, .iload_n 1, 1, []), (3, 5, .aload_n 0, 1, []), (4, 6, .getfield 22, 3, [11, 0, 2, 629, 1]), (5, 9, .getfield 105, 3, [9, 1, 0, 320, 0]), (6, 12, .if_icmp .le 5, 3, [9]), (7, 15, .iconst (-1), 1, []), (8, 16, .ireturn, 1, [0]), (9, 17, .aload_n 0, 1, []), (10, 18, .getfield 22, 3, [11, 0, 2, 629, 1]), (11, 21, .iload_n 1, 1, []), (12, 22, .putfield 105, 3, [9, 1, 0, 320, 0]), (13, 25, .iload_n 1, 1, []), (14, 26, .ireturn, 1, [0])]
set_option maxRecDepth 20000 in
def kX11_net : List INS := [(0, 0, .aload_n 0, 1, []), (1, 1, .getfield 31, 3, [11, 1, 2, 630, 1]), (2, 4, .aload_n 0, 1, []), (3, 5, .getfield 16, 3, [11, 13, 2, 642, 0]), (4, 8, .invokevirtual 113, 3, [1, 34, 1, 5, 0, 0, 5, 691, 692, 693, 128, 694]), (5, 11, .istore_n 1, 1, []), (6, 12, .aload_n 0, 1, []), (7, 13, .getfield 22, 3, [11, 0, 2, 629, 1]), (8, 16, .iconst 0, 1, []), (9, 17, .putfield 105, 3, [9, 1, 0, 320, 0]), (10, 20, .iload_n 1, 1, []), (11, 21, .ifCond .ne 5, 3, [14]), (12, 24, .iconst (-1), 1, []), (13, 25, .ireturn, 1, [0]), (14, 26, .aload_n 0, 1, []), (15, 27, .getfield 10, 3, [11, 12, 2, 641, 0]), (16, 30, .astore_n 2, 1, []), (17, 31, .aload_n 0, 1, []), (18, 32, .aload_n 0, 1, []), (19, 33, .getfield 16, 3, [11, 13, 2, 642, 0]), (20, 36, .putfield 10, 3, [11, 12, 2, 641, 0]), (21, 39, .aload_n 0, 1, []), (22, 40, .aload_n 2, 1, []), (23, 41, .putfield 16, 3, [11, 13, 2, 642, 0]), (24, 44, .aload_n 0, 1, []), (25, 45, .getfield 38, 3, [11, 2, 2, 631, 1]), (26, 48, .aload_n 0, 1, []), (27, 49, .getfield 10, 3, [11, 12, 2, 641, 0]), (28, 52, .getfield 117, 3, [4, 18, 0, 218, 0]), (29, 55, .invokevirtual 120, 3, [1, 5, 1, 9, 0, 0, 0, 890, 891, 892, 129, 893]), (30, 58, .iconst 0, 1, []), (31, 59, .istore_n 3, 1, []), (32, 60, .iload_n 3, 1, []), (33, 61, .iconst 3, 1, []), (34, 62, .if_icmp .ge 16, 3, [42]), (35, 65, .aload_n 0, 1, []), (36, 66, .getfield 49, 3, [11, 4, 2, 633, 1]), (37, 69, .iload_n 3, 1, []), (38, 70, .iconst 0, 1, []), (39, 71, .bastore, 1, [103]), (40, 72, .iinc 3 1, 3, []), (41, 75, .goto (-15), 3, [32]), (42, 78, .iconst 0, 1, []), (43, 79, .istore_n 3, 1, []), (44, 80, .iload_n 3, 1, []), (45, 81, .iconst 3, 1, []), (46, 82, .if_icmp .ge 16, 3, [54]), (47, 85, .aload_n 0, 1, []), (48, 86, .getfield 53, 3, [11, 5, 2, 634, 1]), (49, 89, .iload_n 3, 1, []), (50, 90, .iconst 0, 1, []), (51, 91, .iastore, 1, []), (52, 92, .iinc 3 1, 3, []), (53, 95, .goto (-15), 3, [44]), (54, 98, .aload_n 0, 1, []), (55, 99, .getfield 92, 3, [11, 9, 2, 638, 1]), (56, 102, .iconst 0, 1, []), (57, 103, .putfield 123, 3, [1, 0, 0, 569, 0]), (58, 106, .aload_n 0, 1, []), (59, 107, .getfield 101, 3, [11, 10, 2, 639, 1]), (60, 110, .iconst 0, 1, []), (61, 111, .putfield 126, 3, [7, 0, 0, 592, 0]), (62, 114, .aload_n 0, 1, []), (63, 115, .getfield 74, 3, [11, 11, 2, 640, 1]), (64, 118, .iconst 0, 1, []), (65, 119, .putfield 127, 3, [3, 1, 0, 517, 0]), (66, 122, .aload_n 0, 1, []), (67, 123, .getfield 10, 3, [11, 12, 2, 641, 0]), (68, 126, .getfield 128, 3, [4, 0, 0, 157, 0]), (69, 129, .ireturn, 1, [0])]
set_option maxRecDepth 20000 in
def kX11_fault : List INS := [(0, 0, .iload_n 1, 1, []), (1, 1, .ifCond .ne 11, 3, [6]), (2, 4, .aload_n 0, 1, []), (3, 5, .getfield 31, 3, [11, 1, 2, 630, 1]), (4, 8, .getfield 131, 3, [5, 0, 0, 366, 0]), (5, 11, .ireturn, 1, [0]), (6, 12, .iload_n 1, 1, []), (7, 13, .iconst 1, 1, []), (8, 14, .if_icmp .ne 13, 3, [13]), (9, 17, .aload_n 0, 1, []), (10, 18, .getfield 31, 3, [11, 1, 2, 630, 1]), (11, 21, .getfield 134, 3, [5, 1, 0, 368, 0]), (12, 24, .goto 4, 3, [14]), (13, 27, .iconst (-1), 1, []), (14, 28, .ireturn, 1, [0])]
set_option maxRecDepth 20000 in
def kX11_tower : List INS := [(0, 0, .aload_n 0, 1, []), (1, 1, .iload_n 1, 1, []), (2, 2, .invokevirtual 137, 3, [1, 145, 1, 5, 0, 0, 11, 906, 908, 22, 121, 909]), (3, 5, .ifCond .ne 5, 3, [6]), (4, 8, .iconst (-1), 1, []), (5, 9, .ireturn, 1, [0]), (6, 10, .iload_n 2, 1, []), (7, 11, .tableswitch 75 0 3 #[29, 39, 49, 62], 29, [34, 8, 14, 20, 27]), (8, 40, .aload_n 0, 1, []), (9, 41, .getfield 10, 3, [11, 12, 2, 641, 0]), (10, 44, .getfield 141, 3, [4, 1, 2, 161, 1]), (11, 47, .iload_n 1, 1, []), (12, 48, .iaload, 1, []), (13, 49, .ireturn, 1, [0]), (14, 50, .aload_n 0, 1, []), (15, 51, .getfield 10, 3, [11, 12, 2, 641, 0]), (16, 54, .getfield 144, 3, [4, 2, 2, 165, 1]), (17, 57, .iload_n 1, 1, []), (18, 58, .iaload, 1, []), (19, 59, .ireturn, 1, [0]), (20, 60, .aload_n 0, 1, []), (21, 61, .getfield 38, 3, [11, 2, 2, 631, 1]), (22, 64, .invokevirtual 147, 3, [1, 1, 0, 2, 0, 0, 0, 913, 914, 915, 129, 916]), (23, 67, .getfield 151, 3, [8, 2, 2, 412, 1]), (24, 70, .iload_n 1, 1, []), (25, 71, .iaload, 1, []), (26, 72, .ireturn, 1, [0]), (27, 73, .aload_n 0, 1, []), (28, 74, .getfield 38, 3, [11, 2, 2, 631, 1]), (29, 77, .invokevirtual 147, 3, [1, 1, 0, 2, 0, 0, 0, 913, 914, 915, 129, 916]), (30, 80, .getfield 154, 3, [8, 3, 2, 415, 1]), (31, 83, .iload_n 1, 1, []), (32, 84, .iaload, 1, []), (33, 85, .ireturn, 1, [0]), (34, 86, .iconst (-1), 1, []), (35, 87, .ireturn, 1, [0])]
set_option maxRecDepth 20000 in
def kX11_way : List INS := [(0, 0, .aload_n 0, 1, []), (1, 1, .iload_n 1, 1, []), (2, 2, .invokevirtual 157, 3, [1, 148, 1, 5, 0, 0, 11, 921, 923, 23, 121, 924]), (3, 5, .ifCond .ne 5, 3, [6]), (4, 8, .iconst (-1), 1, []), (5, 9, .ireturn, 1, [0]), (6, 10, .iload_n 2, 1, []), (7, 11, .tableswitch 71 0 3 #[29, 39, 49, 59], 29, [32, 8, 14, 20, 26]), (8, 40, .aload_n 0, 1, []), (9, 41, .getfield 10, 3, [11, 12, 2, 641, 0]), (10, 44, .getfield 160, 3, [4, 8, 2, 194, 1]), (11, 47, .iload_n 1, 1, []), (12, 48, .iaload, 1, []), (13, 49, .ireturn, 1, [0]), (14, 50, .aload_n 0, 1, []), (15, 51, .getfield 10, 3, [11, 12, 2, 641, 0]), (16, 54, .getfield 163, 3, [4, 9, 2, 197, 1]), (17, 57, .iload_n 1, 1, []), (18, 58, .iaload, 1, []), (19, 59, .ireturn, 1, [0]), (20, 60, .aload_n 0, 1, []), (21, 61, .getfield 10, 3, [11, 12, 2, 641, 0]), (22, 64, .getfield 166, 3, [4, 10, 2, 202, 1]), (23, 67, .iload_n 1, 1, []), (24, 68, .iaload, 1, []), (25, 69, .ireturn, 1, [0]), (26, 70, .aload_n 0, 1, []), (27, 71, .getfield 38, 3, [11, 2, 2, 631, 1]), (28, 74, .invokevirtual 147, 3, [1, 1, 0, 2, 0, 0, 0, 913, 914, 915, 129, 916]), (29, 77, .iload_n 1, 1, []), (30, 78, .invokevirtual 169, 3, [1, 71, 1, 0, 0, 0, 8, 925, 926, 927, 130, 928]), (31, 81, .ireturn, 1, [0]), (32, 82, .iconst (-1), 1, []), (33, 83, .ireturn, 1, [0])]
set_option maxRecDepth 20000 in
def kX11_flock : List INS := [(0, 0, .aload_n 0, 1, []), (1, 1, .iload_n 1, 1, []), (2, 2, .invokevirtual 157, 3, [1, 148, 1, 5, 0, 0, 11, 921, 923, 23, 121, 924]), (3, 5, .ifCond .eq 13, 3, [9]), (4, 8, .iload_n 2, 1, []), (5, 9, .iconst 1, 1, []), (6, 10, .bipush 12, 2, []), (7, 12, .invokestatic 173, 3, [0, 144, 3, 5, 0, 0, 0, 910, 911, 0, 121, 912]), (8, 15, .ifCond .ne 5, 3, [11]), (9, 18, .iconst (-1), 1, []), (10, 19, .ireturn, 1, [0]), (11, 20, .aload_n 0, 1, []), (12, 21, .getfield 38, 3, [11, 2, 2, 631, 1]), (13, 24, .invokevirtual 147, 3, [1, 1, 0, 2, 0, 0, 0, 913, 914, 915, 129, 916]), (14, 27, .iload_n 1, 1, []), (15, 28, .iload_n 2, 1, []), (16, 29, .invokevirtual 177, 3, [1, 70, 2, 0, 0, 0, 8, 937, 938, 939, 130, 940]), (17, 32, .ireturn, 1, [0])]
set_option maxRecDepth 20000 in
def kX11_geese : List INS := [(0, 0, .aload_n 0, 1, []), (1, 1, .getfield 38, 3, [11, 2, 2, 631, 1]), (2, 4, .invokevirtual 147, 3, [1, 1, 0, 2, 0, 0, 0, 913, 914, 915, 129, 916]), (3, 7, .astore_n 2, 1, []), (4, 8, .iload_n 1, 1, []), (5, 9, .tableswitch 69 0 5 #[39, 44, 49, 54, 59, 64], 39, [24, 6, 9, 12, 15, 18, 21]), (6, 48, .aload_n 2, 1, []), (7, 49, .getfield 181, 3, [8, 4, 0, 417, 0]), (8, 52, .ireturn, 1, [0]), (9, 53, .aload_n 2, 1, []), (10, 54, .getfield 184, 3, [8, 5, 0, 419, 0]), (11, 57, .ireturn, 1, [0]), (12, 58, .aload_n 2, 1, []), (13, 59, .getfield 187, 3, [8, 6, 0, 421, 0]), (14, 62, .ireturn, 1, [0]), (15, 63, .aload_n 2, 1, []), (16, 64, .invokevirtual 190, 3, [1, 72, 0, 0, 0, 0, 8, 945, 946, 947, 130, 948]), (17, 67, .ireturn, 1, [0]), (18, 68, .aload_n 2, 1, []), (19, 69, .getfield 194, 3, [8, 7, 0, 423, 0]), (20, 72, .ireturn, 1, [0]), (21, 73, .aload_n 2, 1, []), (22, 74, .getfield 197, 3, [8, 8, 0, 425, 0]), (23, 77, .ireturn, 1, [0]), (24, 78, .iconst (-1), 1, []), (25, 79, .ireturn, 1, [0])]
set_option maxRecDepth 20000 in
def kX11_begin : List INS := [(0, 0, .aload_n 0, 1, []), (1, 1, .iload_n 1, 1, []), (2, 2, .invokevirtual 200, 3, [1, 147, 1, 5, 0, 0, 11, 953, 955, 25, 121, 956]), (3, 5, .ifCond .eq 14, 3, [9]), (4, 8, .iload_n 2, 1, []), (5, 9, .iconst 1, 1, []), (6, 10, .sipush 999, 3, []), (7, 13, .invokestatic 173, 3, [0, 144, 3, 5, 0, 0, 0, 910, 911, 0, 121, 912]), (8, 16, .ifCond .ne 5, 3, [11]), (9, 19, .iconst (-1), 1, []), (10, 20, .ireturn, 1, [0]), (11, 21, .aload_n 0, 1, []), (12, 22, .getfield 10, 3, [11, 12, 2, 641, 0]), (13, 25, .getfield 203, 3, [4, 6, 2, 182, 1]), (14, 28, .iload_n 1, 1, []), (15, 29, .iaload, 1, []), (16, 30, .istore_n 3, 1, []), (17, 31, .aload_n 0, 1, []), (18, 32, .getfield 38, 3, [11, 2, 2, 631, 1]), (19, 35, .invokevirtual 147, 3, [1, 1, 0, 2, 0, 0, 0, 913, 914, 915, 129, 916]), (20, 38, .getfield 151, 3, [8, 2, 2, 412, 1]), (21, 41, .iload_n 3, 1, []), (22, 42, .iaload, 1, []), (23, 43, .ldc 206, 2, [999999, 957]), (24, 45, .iload_n 2, 1, []), (25, 46, .isub, 1, []), (26, 47, .if_icmp .le 5, 3, [29]), (27, 50, .iconst (-1), 1, []), (28, 51, .ireturn, 1, [0]), (29, 52, .aload_n 0, 1, []), (30, 53, .getfield 38, 3, [11, 2, 2, 631, 1]), (31, 56, .invokevirtual 207, 3, [1, 2, 0, 2, 0, 0, 0, 958, 959, 960, 129, 961]), (32, 59, .astore 4, 2, []), (33, 61, .aload 4, 2, []), (34, 63, .iload_n 3, 1, []), (35, 64, .iload_n 2, 1, []), (36, 65, .invokevirtual 210, 3, [1, 73, 2, 9, 0, 0, 8, 970, 971, 972, 130, 973]), (37, 68, .aload 4, 2, []), (38, 70, .getfield 151, 3, [8, 2, 2, 412, 1]), (39, 73, .iload_n 3, 1, []), (40, 74, .iaload, 1, []), (41, 75, .ireturn, 1, [0])]
set_option maxRecDepth 20000 in
def kX11_beats : List INS := [(0, 0, .iload_n 1, 1, []), (1, 1, .iconst 0, 1, []), (2, 2, .bipush 60, 2, []), (3, 4, .invokestatic 173, 3, [0, 144, 3, 5, 0, 0, 0, 910, 911, 0, 121, 912]), (4, 7, .ifCond .eq 21, 3, [13]), (5, 10, .aload_n 0, 1, []), (6, 11, .getfield 38, 3, [11, 2, 2, 631, 1]), (7, 14, .invokevirtual 147, 3, [1, 1, 0, 2, 0, 0, 0, 913, 914, 915, 129, 916]), (8, 17, .getfield 214, 3, [8, 10, 0, 429, 0]), (9, 20, .sipush 1000, 3, []), (10, 23, .iload_n 1, 1, []), (11, 24, .isub, 1, []), (12, 25, .if_icmp .le 5, 3, [15]), (13, 28, .iconst (-1), 1, []), (14, 29, .ireturn, 1, [0]), (15, 30, .aload_n 0, 1, []), (16, 31, .getfield 38, 3, [11, 2, 2, 631, 1]), (17, 34, .invokevirtual 207, 3, [1, 2, 0, 2, 0, 0, 0, 958, 959, 960, 129, 961]), (18, 37, .astore_n 2, 1, []), (19, 38, .iconst 0, 1, []), (20, 39, .istore_n 3, 1, []), (21, 40, .iload_n 3, 1, []), (22, 41, .iload_n 1, 1, []), (23, 42, .if_icmp .ge 17, 3, [30]), (24, 45, .aload_n 2, 1, []), (25, 46, .aload_n 0, 1, []), (26, 47, .getfield 10, 3, [11, 12, 2, 641, 0]), (27, 50, .invokevirtual 216, 3, [1, 75, 1, 9, 0, 0, 8, 978, 979, 980, 130, 981]), (28, 53, .iinc 3 1, 3, []), (29, 56, .goto (-16), 3, [21]), (30, 59, .aload_n 2, 1, []), (31, 60, .getfield 214, 3, [8, 10, 0, 429, 0]), (32, 63, .ireturn, 1, [0])]
set_option maxRecDepth 20000 in
def kX11_gust : List INS := [(0, 0, .aload_n 0, 1, []), (1, 1, .getfield 10, 3, [11, 12, 2, 641, 0]), (2, 4, .getfield 220, 3, [4, 7, 0, 191, 0]), (3, 7, .ifCond .ne 5, 3, [6]), (4, 10, .iconst (-1), 1, []), (5, 11, .ireturn, 1, [0]), (6, 12, .aload_n 0, 1, []), (7, 13, .getfield 38, 3, [11, 2, 2, 631, 1]), (8, 16, .invokevirtual 207, 3, [1, 2, 0, 2, 0, 0, 0, 958, 959, 960, 129, 961]), (9, 19, .aload_n 0, 1, []), (10, 20, .getfield 10, 3, [11, 12, 2, 641, 0]), (11, 23, .getfield 220, 3, [4, 7, 0, 191, 0]), (12, 26, .invokevirtual 223, 3, [1, 79, 1, 0, 0, 0, 8, 1000, 1001, 1002, 130, 1003]), (13, 29, .ireturn, 1, [0])]
set_option maxRecDepth 20000 in
def kX11_undo : List INS := [(0, 0, .aload_n 0, 1, []), (1, 1, .getfield 38, 3, [11, 2, 2, 631, 1]), (2, 4, .invokevirtual 226, 3, [1, 3, 0, 5, 0, 0, 0, 1008, 1009, 1010, 129, 1011]), (3, 7, .ireturn, 1, [5])]
set_option maxRecDepth 20000 in
def kX11_redo : List INS := [(0, 0, .aload_n 0, 1, []), (1, 1, .getfield 38, 3, [11, 2, 2, 631, 1]), (2, 4, .invokevirtual 230, 3, [1, 4, 0, 5, 0, 0, 0, 1016, 1017, 1018, 129, 1019]), (3, 7, .ireturn, 1, [5])]
set_option maxRecDepth 20000 in
def kX11_row : List INS := [(0, 0, .aload_n 0, 1, []), (1, 1, .iload_n 1, 1, []), (2, 2, .invokevirtual 200, 3, [1, 147, 1, 5, 0, 0, 11, 953, 955, 25, 121, 956]), (3, 5, .ifCond .eq 14, 3, [9]), (4, 8, .iload_n 2, 1, []), (5, 9, .iconst 0, 1, []), (6, 10, .sipush 999, 3, []), (7, 13, .invokestatic 173, 3, [0, 144, 3, 5, 0, 0, 0, 910, 911, 0, 121, 912]), (8, 16, .ifCond .ne 5, 3, [11]), (9, 19, .iconst (-1), 1, []), (10, 20, .ireturn, 1, [0]), (11, 21, .aload_n 0, 1, []), (12, 22, .getfield 53, 3, [11, 5, 2, 634, 1]), (13, 25, .iload_n 1, 1, []), (14, 26, .iaload, 1, []), (15, 27, .istore_n 3, 1, []), (16, 28, .aload_n 0, 1, []), (17, 29, .getfield 53, 3, [11, 5, 2, 634, 1]), (18, 32, .iload_n 1, 1, []), (19, 33, .iload_n 2, 1, []), (20, 34, .iastore, 1, []), (21, 35, .iload_n 3, 1, []), (22, 36, .ireturn, 1, [0])]
set_option maxRecDepth 20000 in
def kX11_reckon : List INS := [(0, 0, .aload_n 0, 1, []), (1, 1, .iload_n 1, 1, []), (2, 2, .iload_n 2, 1, []), (3, 3, .invokevirtual 233, 3, [1, 150, 2, 5, 0, 0, 11, 1028, 1030, 29, 121, 1031]), (4, 6, .ifCond .ne 5, 3, [7]), (5, 9, .iconst (-1), 1, []), (6, 10, .ireturn, 1, [0]), (7, 11, .aload_n 0, 1, []), (8, 12, .getfield 60, 3, [11, 6, 2, 635, 1]), (9, 15, .aload_n 0, 1, []), (10, 16, .getfield 10, 3, [11, 12, 2, 641, 0]), (11, 19, .aload_n 0, 1, []), (12, 20, .getfield 53, 3, [11, 5, 2, 634, 1]), (13, 23, .iload_n 1, 1, []), (14, 24, .iload_n 2, 1, []), (15, 25, .invokevirtual 237, 3, [1, 97, 4, 0, 0, 0, 10, 1036, 1037, 1038, 131, 1039]), (16, 28, .ireturn, 1, [0])]
set_option maxRecDepth 20000 in
def kX11_still : List INS := [(0, 0, .aload_n 0, 1, []), (1, 1, .getfield 60, 3, [11, 6, 2, 635, 1]), (2, 4, .aload_n 0, 1, []), (3, 5, .getfield 10, 3, [11, 12, 2, 641, 0]), (4, 8, .aload_n 0, 1, []), (5, 9, .getfield 53, 3, [11, 5, 2, 634, 1]), (6, 12, .invokevirtual 241, 3, [1, 98, 2, 0, 0, 0, 10, 1055, 1056, 1057, 131, 1058]), (7, 15, .ireturn, 1, [0])]
set_option maxRecDepth 20000 in
def kX11_says : List INS := [(0, 0, .aload_n 0, 1, []), (1, 1, .iload_n 1, 1, []), (2, 2, .invokevirtual 245, 3, [1, 149, 1, 5, 0, 0, 11, 1063, 1065, 31, 121, 1066]), (3, 5, .ifCond .eq 18, 3, [11]), (4, 8, .aload_n 0, 1, []), (5, 9, .getfield 10, 3, [11, 12, 2, 641, 0]), (6, 12, .iload_n 1, 1, []), (7, 13, .aload_n 0, 1, []), (8, 14, .getfield 53, 3, [11, 5, 2, 634, 1]), (9, 17, .invokevirtual 248, 3, [1, 31, 2, 0, 0, 0, 4, 1067, 1068, 1069, 122, 1070]), (10, 20, .goto 4, 3, [12]), (11, 23, .iconst 0, 1, []), (12, 24, .ireturn, 1, [0])]
set_option maxRecDepth 20000 in
def kX11_wrong : List INS := [(0, 0, .aload_n 0, 1, []), (1, 1, .iload_n 1, 1, []), (2, 2, .iload_n 2, 1, []), (3, 3, .iload_n 3, 1, []), (4, 4, .invokevirtual 252, 3, [1, 151, 3, 5, 0, 0, 11, 1078, 1080, 32, 121, 1081]), (5, 7, .ifCond .ne 5, 3, [8]), (6, 10, .iconst (-1), 1, []), (7, 11, .ireturn, 1, [0]), (8, 12, .aload_n 0, 1, []), (9, 13, .getfield 83, 3, [11, 7, 2, 636, 1]), (10, 16, .aload_n 0, 1, []), (11, 17, .getfield 10, 3, [11, 12, 2, 641, 0]), (12, 20, .iload_n 1, 1, []), (13, 21, .iload_n 2, 1, []), (14, 22, .iload_n 3, 1, []), (15, 23, .invokevirtual 255, 3, [1, 14, 4, 0, 0, 0, 2, 1082, 1083, 1084, 134, 1085]), (16, 26, .sipush 1000, 3, []), (17, 29, .if_icmp .le 8, 3, [20]), (18, 32, .bipush (-2), 2, []), (19, 34, .goto 14, 3, [25]), (20, 37, .aload_n 0, 1, []), (21, 38, .getfield 83, 3, [11, 7, 2, 636, 1]), (22, 41, .aload_n 0, 1, []), (23, 42, .getfield 10, 3, [11, 12, 2, 641, 0]), (24, 45, .invokevirtual 259, 3, [1, 16, 1, 0, 0, 0, 2, 1098, 1099, 1100, 134, 1101]), (25, 48, .ireturn, 1, [0])]
set_option maxRecDepth 20000 in
def kX11_against : List INS := [(0, 0, .aload_n 0, 1, []), (1, 1, .getfield 74, 3, [11, 11, 2, 640, 1]), (2, 4, .iconst 0, 1, []), (3, 5, .putfield 127, 3, [3, 1, 0, 517, 0]), (4, 8, .aload_n 0, 1, []), (5, 9, .iload_n 1, 1, []), (6, 10, .iload_n 2, 1, []), (7, 11, .iload_n 3, 1, []), (8, 12, .invokevirtual 252, 3, [1, 151, 3, 5, 0, 0, 11, 1078, 1080, 32, 121, 1081]), (9, 15, .ifCond .ne 5, 3, [12]), (10, 18, .iconst (-1), 1, []), (11, 19, .ireturn, 1, [0]), (12, 20, .aload_n 0, 1, []), (13, 21, .getfield 83, 3, [11, 7, 2, 636, 1]), (14, 24, .aload_n 0, 1, []), (15, 25, .getfield 10, 3, [11, 12, 2, 641, 0]), (16, 28, .iload_n 1, 1, []), (17, 29, .iload_n 2, 1, []), (18, 30, .iload_n 3, 1, []), (19, 31, .invokevirtual 255, 3, [1, 14, 4, 0, 0, 0, 2, 1082, 1083, 1084, 134, 1085]), (20, 34, .sipush 1000, 3, []), (21, 37, .if_icmp .le 8, 3, [24]), (22, 40, .bipush (-2), 2, []), (23, 42, .goto 14, 3, [29]), (24, 45, .aload_n 0, 1, []), (25, 46, .getfield 83, 3, [11, 7, 2, 636, 1]), (26, 49, .aload_n 0, 1, []), (27, 50, .getfield 10, 3, [11, 12, 2, 641, 0]), (28, 53, .invokevirtual 263, 3, [1, 17, 1, 0, 0, 0, 2, 1117, 1118, 1119, 134, 1120]), (29, 56, .ireturn, 1, [0])]
set_option maxRecDepth 20000 in
def kX11_mend : List INS := [(0, 0, .aload_n 0, 1, []), (1, 1, .getfield 74, 3, [11, 11, 2, 640, 1]), (2, 4, .iconst 0, 1, []), (3, 5, .putfield 127, 3, [3, 1, 0, 517, 0]), (4, 8, .aload_n 0, 1, []), (5, 9, .iload_n 1, 1, []), (6, 10, .iload_n 2, 1, []), (7, 11, .iload_n 3, 1, []), (8, 12, .invokevirtual 252, 3, [1, 151, 3, 5, 0, 0, 11, 1078, 1080, 32, 121, 1081]), (9, 15, .ifCond .ne 5, 3, [12]), (10, 18, .iconst (-1), 1, []), (11, 19, .ireturn, 1, [0]), (12, 20, .aload_n 0, 1, []), (13, 21, .getfield 83, 3, [11, 7, 2, 636, 1]), (14, 24, .aload_n 0, 1, []), (15, 25, .getfield 10, 3, [11, 12, 2, 641, 0]), (16, 28, .iload_n 1, 1, []), (17, 29, .iload_n 2, 1, []), (18, 30, .iload_n 3, 1, []), (19, 31, .invokevirtual 255, 3, [1, 14, 4, 0, 0, 0, 2, 1082, 1083, 1084, 134, 1085]), (20, 34, .bipush 16, 2, []), (21, 36, .if_icmp .le 6, 3, [24]), (22, 39, .bipush (-2), 2, []), (23, 41, .ireturn, 1, [0]), (24, 42, .aload_n 0, 1, []), (25, 43, .getfield 83, 3, [11, 7, 2, 636, 1]), (26, 46, .aload_n 0, 1, []), (27, 47, .getfield 10, 3, [11, 12, 2, 641, 0]), (28, 50, .invokevirtual 266, 3, [1, 18, 1, 0, 0, 0, 2, 1129, 1130, 1131, 134, 1132]), (29, 53, .ireturn, 1, [0])]
set_option maxRecDepth 20000 in
def kX11_loss : List INS := [(0, 0, .aload_n 0, 1, []), (1, 1, .iload_n 1, 1, []), (2, 2, .invokevirtual 157, 3, [1, 148, 1, 5, 0, 0, 11, 921, 923, 23, 121, 924]), (3, 5, .ifCond .eq 23, 3, [14]), (4, 8, .aload_n 0, 1, []), (5, 9, .iload_n 3, 1, []), (6, 10, .iload 4, 2, []), (7, 12, .invokevirtual 233, 3, [1, 150, 2, 5, 0, 0, 11, 1028, 1030, 29, 121, 1031]), (8, 15, .ifCond .eq 13, 3, [14]), (9, 18, .iload_n 2, 1, []), (10, 19, .iconst 1, 1, []), (11, 20, .iload 4, 2, []), (12, 22, .invokestatic 173, 3, [0, 144, 3, 5, 0, 0, 0, 910, 911, 0, 121, 912]), (13, 25, .ifCond .ne 5, 3, [16]), (14, 28, .iconst (-1), 1, []), (15, 29, .ireturn, 1, [0]), (16, 30, .aload_n 0, 1, []), (17, 31, .getfield 60, 3, [11, 6, 2, 635, 1]), (18, 34, .aload_n 0, 1, []), (19, 35, .getfield 10, 3, [11, 12, 2, 641, 0]), (20, 38, .aload_n 0, 1, []), (21, 39, .getfield 53, 3, [11, 5, 2, 634, 1]), (22, 42, .iload_n 1, 1, []), (23, 43, .iload_n 2, 1, []), (24, 44, .iload_n 3, 1, []), (25, 45, .iload 4, 2, []), (26, 47, .invokevirtual 269, 3, [1, 101, 6, 0, 0, 0, 10, 1141, 1142, 1143, 131, 1144]), (27, 50, .ireturn, 1, [0])]
set_option maxRecDepth 20000 in
def kX11_blind : List INS := [(0, 0, .aload_n 0, 1, []), (1, 1, .iload_n 1, 1, []), (2, 2, .iload_n 2, 1, []), (3, 3, .invokevirtual 233, 3, [1, 150, 2, 5, 0, 0, 11, 1028, 1030, 29, 121, 1031]), (4, 6, .ifCond .ne 5, 3, [7]), (5, 9, .iconst (-1), 1, []), (6, 10, .ireturn, 1, [0]), (7, 11, .aload_n 0, 1, []), (8, 12, .getfield 60, 3, [11, 6, 2, 635, 1]), (9, 15, .aload_n 0, 1, []), (10, 16, .getfield 10, 3, [11, 12, 2, 641, 0]), (11, 19, .aload_n 0, 1, []), (12, 20, .getfield 53, 3, [11, 5, 2, 634, 1]), (13, 23, .iload_n 1, 1, []), (14, 24, .iload_n 2, 1, []), (15, 25, .invokevirtual 273, 3, [1, 102, 4, 0, 0, 0, 10, 1164, 1165, 1166, 131, 1167]), (16, 28, .ireturn, 1, [0])]
set_option maxRecDepth 20000 in
def kX11_adds : List INS := [(0, 0, .aload_n 0, 1, []), (1, 1, .iload_n 1, 1, []), (2, 2, .invokevirtual 200, 3, [1, 147, 1, 5, 0, 0, 11, 953, 955, 25, 121, 956]), (3, 5, .ifCond .eq 13, 3, [9]), (4, 8, .aload_n 0, 1, []), (5, 9, .iload_n 2, 1, []), (6, 10, .iload 4, 2, []), (7, 12, .invokevirtual 233, 3, [1, 150, 2, 5, 0, 0, 11, 1028, 1030, 29, 121, 1031]), (8, 15, .ifCond .ne 5, 3, [11]), (9, 18, .iconst (-1), 1, []), (10, 19, .ireturn, 1, [0]), (11, 20, .iload_n 3, 1, []), (12, 21, .iconst 0, 1, []), (13, 22, .bipush 40, 2, []), (14, 24, .invokestatic 173, 3, [0, 144, 3, 5, 0, 0, 0, 910, 911, 0, 121, 912]), (15, 27, .ifCond .eq 13, 3, [21]), (16, 30, .iload 5, 2, []), (17, 32, .iconst 0, 1, []), (18, 33, .iconst 2, 1, []), (19, 34, .invokestatic 173, 3, [0, 144, 3, 5, 0, 0, 0, 910, 911, 0, 121, 912]), (20, 37, .ifCond .ne 5, 3, [23]), (21, 40, .iconst (-1), 1, []), (22, 41, .ireturn, 1, [0]), (23, 42, .aload_n 0, 1, []), (24, 43, .getfield 60, 3, [11, 6, 2, 635, 1]), (25, 46, .aload_n 0, 1, []), (26, 47, .getfield 10, 3, [11, 12, 2, 641, 0]), (27, 50, .iload_n 1, 1, []), (28, 51, .iload_n 2, 1, []), (29, 52, .iload_n 3, 1, []), (30, 53, .iload 4, 2, []), (31, 55, .iload 5, 2, []), (32, 57, .invokevirtual 276, 3, [1, 103, 6, 0, 0, 0, 10, 1172, 1173, 1174, 131, 1175]), (33, 60, .ireturn, 1, [0])]
set_option maxRecDepth 20000 in
def kX11_paths : List INS := [(0, 0, .aload_n 0, 1, []), (1, 1, .iload_n 1, 1, []), (2, 2, .invokevirtual 137, 3, [1, 145, 1, 5, 0, 0, 11, 906, 908, 22, 121, 909]), (3, 5, .ifCond .eq 21, 3, [13]), (4, 8, .aload_n 0, 1, []), (5, 9, .iload_n 2, 1, []), (6, 10, .invokevirtual 137, 3, [1, 145, 1, 5, 0, 0, 11, 906, 908, 22, 121, 909]), (7, 13, .ifCond .eq 13, 3, [13]), (8, 16, .iload_n 3, 1, []), (9, 17, .iconst 0, 1, []), (10, 18, .bipush 60, 2, []), (11, 20, .invokestatic 173, 3, [0, 144, 3, 5, 0, 0, 0, 910, 911, 0, 121, 912]), (12, 23, .ifCond .ne 5, 3, [15]), (13, 26, .iconst (-1), 1, []), (14, 27, .ireturn, 1, [0]), (15, 28, .aload_n 0, 1, []), (16, 29, .getfield 67, 3, [11, 8, 2, 637, 1]), (17, 32, .aload_n 0, 1, []), (18, 33, .getfield 10, 3, [11, 12, 2, 641, 0]), (19, 36, .iload_n 1, 1, []), (20, 37, .iload_n 2, 1, []), (21, 38, .iload_n 3, 1, []), (22, 39, .invokevirtual 280, 3, [1, 54, 4, 0, 0, 0, 6, 1180, 1181, 1182, 132, 1183]), (23, 42, .ireturn, 1, [0])]
set_option maxRecDepth 20000 in
def kX11_meet : List INS := [(0, 0, .aload_n 0, 1, []), (1, 1, .iload_n 1, 1, []), (2, 2, .invokevirtual 137, 3, [1, 145, 1, 5, 0, 0, 11, 906, 908, 22, 121, 909]), (3, 5, .ifCond .eq 19, 3, [12]), (4, 8, .aload_n 0, 1, []), (5, 9, .iload_n 2, 1, []), (6, 10, .invokevirtual 137, 3, [1, 145, 1, 5, 0, 0, 11, 906, 908, 22, 121, 909]), (7, 13, .ifCond .eq 11, 3, [12]), (8, 16, .aload_n 0, 1, []), (9, 17, .iload_n 3, 1, []), (10, 18, .invokevirtual 137, 3, [1, 145, 1, 5, 0, 0, 11, 906, 908, 22, 121, 909]), (11, 21, .ifCond .ne 5, 3, [14]), (12, 24, .iconst (-1), 1, []), (13, 25, .ireturn, 1, [0]), (14, 26, .aload_n 0, 1, []), (15, 27, .getfield 67, 3, [11, 8, 2, 637, 1]), (16, 30, .aload_n 0, 1, []), (17, 31, .getfield 10, 3, [11, 12, 2, 641, 0]), (18, 34, .iload_n 1, 1, []), (19, 35, .iload_n 2, 1, []), (20, 36, .iload_n 3, 1, []), (21, 37, .invokevirtual 283, 3, [1, 55, 4, 0, 0, 0, 6, 1194, 1195, 1196, 132, 1197]), (22, 40, .ireturn, 1, [0])]
set_option maxRecDepth 20000 in
def kX11_spread : List INS := [(0, 0, .aload_n 0, 1, []), (1, 1, .iload_n 1, 1, []), (2, 2, .invokevirtual 137, 3, [1, 145, 1, 5, 0, 0, 11, 906, 908, 22, 121, 909]), (3, 5, .ifCond .eq 11, 3, [8]), (4, 8, .aload_n 0, 1, []), (5, 9, .iload_n 2, 1, []), (6, 10, .invokevirtual 137, 3, [1, 145, 1, 5, 0, 0, 11, 906, 908, 22, 121, 909]), (7, 13, .ifCond .ne 5, 3, [10]), (8, 16, .iconst (-1), 1, []), (9, 17, .ireturn, 1, [0]), (10, 18, .aload_n 0, 1, []), (11, 19, .getfield 67, 3, [11, 8, 2, 637, 1]), (12, 22, .aload_n 0, 1, []), (13, 23, .getfield 10, 3, [11, 12, 2, 641, 0]), (14, 26, .iload_n 1, 1, []), (15, 27, .iload_n 2, 1, []), (16, 28, .invokevirtual 286, 3, [1, 56, 3, 0, 0, 0, 6, 1202, 1203, 1204, 132, 1205]), (17, 31, .ireturn, 1, [0])]
set_option maxRecDepth 20000 in
def kX11_ring : List INS := [(0, 0, .aload_n 0, 1, []), (1, 1, .getfield 67, 3, [11, 8, 2, 637, 1]), (2, 4, .aload_n 0, 1, []), (3, 5, .getfield 10, 3, [11, 12, 2, 641, 0]), (4, 8, .invokevirtual 290, 3, [1, 58, 1, 0, 0, 0, 6, 1210, 1211, 1212, 132, 1213]), (5, 11, .ireturn, 1, [0])]
set_option maxRecDepth 20000 in
def kX11_pair : List INS := [(0, 0, .iload_n 1, 1, []), (1, 1, .iconst 0, 1, []), (2, 2, .sipush 999, 3, []), (3, 5, .invokestatic 173, 3, [0, 144, 3, 5, 0, 0, 0, 910, 911, 0, 121, 912]), (4, 8, .ifCond .eq 14, 3, [10]), (5, 11, .iload_n 2, 1, []), (6, 12, .iconst 0, 1, []), (7, 13, .sipush 999, 3, []), (8, 16, .invokestatic 173, 3, [0, 144, 3, 5, 0, 0, 0, 910, 911, 0, 121, 912]), (9, 19, .ifCond .ne 5, 3, [12]), (10, 22, .iconst (-1), 1, []), (11, 23, .ireturn, 1, [0]), (12, 24, .aload_n 0, 1, []), (13, 25, .getfield 92, 3, [11, 9, 2, 638, 1]), (14, 28, .iload_n 1, 1, []), (15, 29, .iload_n 2, 1, []), (16, 30, .invokevirtual 293, 3, [1, 8, 2, 0, 0, 0, 1, 1218, 1219, 1220, 135, 1221]), (17, 33, .ireturn, 1, [0])]
set_option maxRecDepth 20000 in
def kX11_hush : List INS := [(0, 0, .aload_n 0, 1, []), (1, 1, .getfield 92, 3, [11, 9, 2, 638, 1]), (2, 4, .getfield 123, 3, [1, 0, 0, 569, 0]), (3, 7, .istore_n 1, 1, []), (4, 8, .aload_n 0, 1, []), (5, 9, .getfield 92, 3, [11, 9, 2, 638, 1]), (6, 12, .iconst 0, 1, []), (7, 13, .putfield 123, 3, [1, 0, 0, 569, 0]), (8, 16, .iload_n 1, 1, []), (9, 17, .ireturn, 1, [0])]
set_option maxRecDepth 20000 in
def kX11_chain : List INS := [(0, 0, .aload_n 0, 1, []), (1, 1, .getfield 74, 3, [11, 11, 2, 640, 1]), (2, 4, .iconst 0, 1, []), (3, 5, .putfield 127, 3, [3, 1, 0, 517, 0]), (4, 8, .aload_n 0, 1, []), (5, 9, .getfield 92, 3, [11, 9, 2, 638, 1]), (6, 12, .invokevirtual 296, 3, [1, 9, 0, 0, 0, 0, 1, 1230, 1231, 1232, 135, 1233]), (7, 15, .ireturn, 1, [0])]
set_option maxRecDepth 20000 in
def kX11_lies : List INS := [(0, 0, .iload_n 1, 1, []), (1, 1, .iconst 0, 1, []), (2, 2, .aload_n 0, 1, []), (3, 3, .getfield 74, 3, [11, 11, 2, 640, 1]), (4, 6, .getfield 127, 3, [3, 1, 0, 517, 0]), (5, 9, .iconst 1, 1, []), (6, 10, .isub, 1, []), (7, 11, .invokestatic 173, 3, [0, 144, 3, 5, 0, 0, 0, 910, 911, 0, 121, 912]), (8, 14, .ifCond .eq 15, 3, [15]), (9, 17, .aload_n 0, 1, []), (10, 18, .getfield 74, 3, [11, 11, 2, 640, 1]), (11, 21, .getfield 299, 3, [3, 0, 2, 515, 1]), (12, 24, .iload_n 1, 1, []), (13, 25, .iaload, 1, []), (14, 26, .goto 4, 3, [16]), (15, 29, .iconst (-1), 1, []), (16, 30, .ireturn, 1, [0])]
set_option maxRecDepth 20000 in
def kX11_sight : List INS := [(0, 0, .aload_n 0, 1, []), (1, 1, .iload_n 1, 1, []), (2, 2, .invokevirtual 302, 3, [1, 146, 1, 5, 0, 0, 11, 1032, 1034, 30, 121, 1035]), (3, 5, .ifCond .eq 23, 3, [14]), (4, 8, .iload_n 2, 1, []), (5, 9, .iconst 1, 1, []), (6, 10, .bipush 60, 2, []), (7, 12, .invokestatic 173, 3, [0, 144, 3, 5, 0, 0, 0, 910, 911, 0, 121, 912]), (8, 15, .ifCond .eq 13, 3, [14]), (9, 18, .iload_n 3, 1, []), (10, 19, .iconst 0, 1, []), (11, 20, .ldc 206, 2, [999999, 957]), (12, 22, .invokestatic 173, 3, [0, 144, 3, 5, 0, 0, 0, 910, 911, 0, 121, 912]), (13, 25, .ifCond .ne 5, 3, [16]), (14, 28, .iconst (-1), 1, []), (15, 29, .ireturn, 1, [0]), (16, 30, .aload_n 0, 1, []), (17, 31, .getfield 101, 3, [11, 10, 2, 639, 1]), (18, 34, .iload_n 1, 1, []), (19, 35, .iload_n 2, 1, []), (20, 36, .iload_n 3, 1, []), (21, 37, .aload_n 0, 1, []), (22, 38, .getfield 305, 3, [11, 14, 0, 643, 0]), (23, 41, .invokevirtual 308, 3, [1, 61, 4, 0, 0, 0, 7, 1255, 1256, 1257, 136, 1258]), (24, 44, .ireturn, 1, [0])]
set_option maxRecDepth 20000 in
def kX11_untell : List INS := [(0, 0, .aload_n 0, 1, []), (1, 1, .getfield 101, 3, [11, 10, 2, 639, 1]), (2, 4, .iload_n 1, 1, []), (3, 5, .aload_n 0, 1, []), (4, 6, .getfield 305, 3, [11, 14, 0, 643, 0]), (5, 9, .invokevirtual 312, 3, [1, 62, 2, 5, 0, 0, 7, 1264, 1265, 1266, 136, 1267]), (6, 12, .ireturn, 1, [5])]
set_option maxRecDepth 20000 in
def kX11_later : List INS := [(0, 0, .iload_n 1, 1, []), (1, 1, .iconst 0, 1, []), (2, 2, .sipush 1000, 3, []), (3, 5, .invokestatic 173, 3, [0, 144, 3, 5, 0, 0, 0, 910, 911, 0, 121, 912]), (4, 8, .ifCond .eq 15, 3, [11]), (5, 11, .aload_n 0, 1, []), (6, 12, .getfield 305, 3, [11, 14, 0, 643, 0]), (7, 15, .ldc_w 314, 3, [100000, 1272]), (8, 18, .iload_n 1, 1, []), (9, 19, .isub, 1, []), (10, 20, .if_icmp .le 5, 3, [13]), (11, 23, .iconst (-1), 1, []), (12, 24, .ireturn, 1, [0]), (13, 25, .aload_n 0, 1, []), (14, 26, .dup, 1, []), (15, 27, .getfield 305, 3, [11, 14, 0, 643, 0]), (16, 30, .iload_n 1, 1, []), (17, 31, .iadd, 1, []), (18, 32, .putfield 305, 3, [11, 14, 0, 643, 0]), (19, 35, .aload_n 0, 1, []), (20, 36, .getfield 305, 3, [11, 14, 0, 643, 0]), (21, 39, .ireturn, 1, [0])]
set_option maxRecDepth 20000 in
def kX11_begun : List INS := [(0, 0, .aload_n 0, 1, []), (1, 1, .getfield 74, 3, [11, 11, 2, 640, 1]), (2, 4, .iconst 0, 1, []), (3, 5, .putfield 127, 3, [3, 1, 0, 517, 0]), (4, 8, .iload_n 1, 1, []), (5, 9, .iconst 0, 1, []), (6, 10, .bipush 9, 2, []), (7, 12, .invokestatic 173, 3, [0, 144, 3, 5, 0, 0, 0, 910, 911, 0, 121, 912]), (8, 15, .ifCond .ne 5, 3, [11]), (9, 18, .iconst (-1), 1, []), (10, 19, .ireturn, 1, [0]), (11, 20, .aload_n 0, 1, []), (12, 21, .getfield 101, 3, [11, 10, 2, 639, 1]), (13, 24, .aload_n 0, 1, []), (14, 25, .getfield 10, 3, [11, 12, 2, 641, 0]), (15, 28, .iload_n 1, 1, []), (16, 29, .iload_n 2, 1, []), (17, 30, .invokevirtual 315, 3, [1, 64, 3, 9, 0, 0, 7, 1277, 1278, 1279, 136, 1280]), (18, 33, .iconst 0, 1, []), (19, 34, .istore_n 3, 1, []), (20, 35, .iload_n 3, 1, []), (21, 36, .aload_n 0, 1, []), (22, 37, .getfield 10, 3, [11, 12, 2, 641, 0]), (23, 40, .getfield 319, 3, [4, 5, 0, 178, 0]), (24, 43, .if_icmp .ge 35, 3, [39]), (25, 46, .aload_n 0, 1, []), (26, 47, .getfield 101, 3, [11, 10, 2, 639, 1]), (27, 50, .getfield 322, 3, [7, 8, 0, 601, 0]), (28, 53, .ifCond .le 25, 3, [39]), (29, 56, .aload_n 0, 1, []), (30, 57, .getfield 74, 3, [11, 11, 2, 640, 1]), (31, 60, .aload_n 0, 1, []), (32, 61, .getfield 101, 3, [11, 10, 2, 639, 1]), (33, 64, .getfield 325, 3, [7, 9, 2, 603, 1]), (34, 67, .iload_n 3, 1, []), (35, 68, .iaload, 1, []), (36, 69, .invokevirtual 328, 3, [1, 21, 1, 9, 0, 0, 3, 1295, 1122, 1123, 133, 1124]), (37, 72, .iinc 3 1, 3, []), (38, 75, .goto (-40), 3, [20]), (39, 78, .aload_n 0, 1, []), (40, 79, .getfield 101, 3, [11, 10, 2, 639, 1]), (41, 82, .getfield 322, 3, [7, 8, 0, 601, 0]), (42, 85, .ireturn, 1, [0])]
set_option maxRecDepth 20000 in
def kX11_sure : List INS := [(0, 0, .aload_n 0, 1, []), (1, 1, .iload_n 1, 1, []), (2, 2, .invokevirtual 200, 3, [1, 147, 1, 5, 0, 0, 11, 953, 955, 25, 121, 956]), (3, 5, .ifCond .eq 13, 3, [9]), (4, 8, .iload_n 2, 1, []), (5, 9, .iconst 0, 1, []), (6, 10, .bipush 9, 2, []), (7, 12, .invokestatic 173, 3, [0, 144, 3, 5, 0, 0, 0, 910, 911, 0, 121, 912]), (8, 15, .ifCond .ne 5, 3, [11]), (9, 18, .iconst (-1), 1, []), (10, 19, .ireturn, 1, [0]), (11, 20, .aload_n 0, 1, []), (12, 21, .getfield 101, 3, [11, 10, 2, 639, 1]), (13, 24, .aload_n 0, 1, []), (14, 25, .getfield 10, 3, [11, 12, 2, 641, 0]), (15, 28, .iload_n 2, 1, []), (16, 29, .iload_n 3, 1, []), (17, 30, .invokevirtual 315, 3, [1, 64, 3, 9, 0, 0, 7, 1277, 1278, 1279, 136, 1280]), (18, 33, .aload_n 0, 1, []), (19, 34, .getfield 101, 3, [11, 10, 2, 639, 1]), (20, 37, .getfield 322, 3, [7, 8, 0, 601, 0]), (21, 40, .ifCond .ne 5, 3, [24]), (22, 43, .iconst (-1), 1, []), (23, 44, .ireturn, 1, [0]), (24, 45, .aload_n 0, 1, []), (25, 46, .getfield 101, 3, [11, 10, 2, 639, 1]), (26, 49, .getfield 329, 3, [7, 10, 2, 605, 1]), (27, 52, .iload_n 1, 1, []), (28, 53, .baload, 1, [103]), (29, 54, .ifCond .eq 8, 3, [32]), (30, 57, .bipush (-2), 2, []), (31, 59, .goto 12, 3, [37]), (32, 62, .aload_n 0, 1, []), (33, 63, .getfield 101, 3, [11, 10, 2, 639, 1]), (34, 66, .getfield 325, 3, [7, 9, 2, 603, 1]), (35, 69, .iload_n 1, 1, []), (36, 70, .iaload, 1, []), (37, 71, .ireturn, 1, [0])]
set_option maxRecDepth 20000 in
def kX11_image : List INS := [(0, 0, .iload_n 1, 1, []), (1, 1, .iconst 0, 1, []), (2, 2, .iconst 2, 1, []), (3, 3, .invokestatic 173, 3, [0, 144, 3, 5, 0, 0, 0, 910, 911, 0, 121, 912]), (4, 6, .ifCond .ne 5, 3, [7]), (5, 9, .iconst (-1), 1, []), (6, 10, .ireturn, 1, [0]), (7, 11, .aload_n 0, 1, []), (8, 12, .getfield 44, 3, [11, 3, 2, 632, 1]), (9, 15, .iload_n 1, 1, []), (10, 16, .aaload, 1, [104]), (11, 17, .aload_n 0, 1, []), (12, 18, .getfield 38, 3, [11, 2, 2, 631, 1]), (13, 21, .invokevirtual 147, 3, [1, 1, 0, 2, 0, 0, 0, 913, 914, 915, 129, 916]), (14, 24, .invokevirtual 332, 3, [1, 68, 1, 9, 0, 0, 8, 1304, 963, 964, 130, 965]), (15, 27, .aload_n 0, 1, []), (16, 28, .getfield 49, 3, [11, 4, 2, 633, 1]), (17, 31, .iload_n 1, 1, []), (18, 32, .iconst 1, 1, []), (19, 33, .bastore, 1, [103]), (20, 34, .aload_n 0, 1, []), (21, 35, .getfield 44, 3, [11, 3, 2, 632, 1]), (22, 38, .iload_n 1, 1, []), (23, 39, .aaload, 1, [104]), (24, 40, .getfield 214, 3, [8, 10, 0, 429, 0]), (25, 43, .ireturn, 1, [0])]
set_option maxRecDepth 20000 in
def kX11_back : List INS := [(0, 0, .iload_n 1, 1, []), (1, 1, .iconst 0, 1, []), (2, 2, .iconst 2, 1, []), (3, 3, .invokestatic 173, 3, [0, 144, 3, 5, 0, 0, 0, 910, 911, 0, 121, 912]), (4, 6, .ifCond .eq 12, 3, [10]), (5, 9, .aload_n 0, 1, []), (6, 10, .getfield 49, 3, [11, 4, 2, 633, 1]), (7, 13, .iload_n 1, 1, []), (8, 14, .baload, 1, [103]), (9, 15, .ifCond .ne 5, 3, [12]), (10, 18, .iconst (-1), 1, []), (11, 19, .ireturn, 1, [0]), (12, 20, .aload_n 0, 1, []), (13, 21, .getfield 38, 3, [11, 2, 2, 631, 1]), (14, 24, .aload_n 0, 1, []), (15, 25, .getfield 44, 3, [11, 3, 2, 632, 1]), (16, 28, .iload_n 1, 1, []), (17, 29, .aaload, 1, [104]), (18, 30, .invokevirtual 336, 3, [1, 6, 1, 9, 0, 0, 0, 1309, 1310, 1311, 129, 1312]), (19, 33, .aload_n 0, 1, []), (20, 34, .getfield 44, 3, [11, 3, 2, 632, 1]), (21, 37, .iload_n 1, 1, []), (22, 38, .aaload, 1, [104]), (23, 39, .getfield 214, 3, [8, 10, 0, 429, 0]), (24, 42, .ireturn, 1, [0])]
set_option maxRecDepth 20000 in
def kX11_about : List INS := [(0, 0, .iload_n 1, 1, []), (1, 1, .tableswitch 186 0 13 #[71, 79, 87, 95, 103, 114, 125, 133, 141, 149, 157, 162, 170, 178], 71, [59, 2, 6, 10, 14, 18, 23, 28, 32, 36, 40, 44, 47, 51, 55]), (2, 72, .aload_n 0, 1, []), (3, 73, .getfield 10, 3, [11, 12, 2, 641, 0]), (4, 76, .getfield 128, 3, [4, 0, 0, 157, 0]), (5, 79, .ireturn, 1, [0]), (6, 80, .aload_n 0, 1, []), (7, 81, .getfield 10, 3, [11, 12, 2, 641, 0]), (8, 84, .getfield 319, 3, [4, 5, 0, 178, 0]), (9, 87, .ireturn, 1, [0]), (10, 88, .aload_n 0, 1, []), (11, 89, .getfield 10, 3, [11, 12, 2, 641, 0]), (12, 92, .getfield 220, 3, [4, 7, 0, 191, 0]), (13, 95, .ireturn, 1, [0]), (14, 96, .aload_n 0, 1, []), (15, 97, .getfield 10, 3, [11, 12, 2, 641, 0]), (16, 100, .getfield 339, 3, [4, 11, 0, 207, 0]), (17, 103, .ireturn, 1, [0]), (18, 104, .aload_n 0, 1, []), (19, 105, .getfield 38, 3, [11, 2, 2, 631, 1]), (20, 108, .invokevirtual 147, 3, [1, 1, 0, 2, 0, 0, 0, 913, 914, 915, 129, 916]), (21, 111, .getfield 214, 3, [8, 10, 0, 429, 0]), (22, 114, .ireturn, 1, [0]), (23, 115, .aload_n 0, 1, []), (24, 116, .getfield 38, 3, [11, 2, 2, 631, 1]), (25, 119, .invokevirtual 147, 3, [1, 1, 0, 2, 0, 0, 0, 913, 914, 915, 129, 916]), (26, 122, .getfield 341, 3, [8, 9, 0, 427, 0]), (27, 125, .ireturn, 1, [0]), (28, 126, .aload_n 0, 1, []), (29, 127, .getfield 38, 3, [11, 2, 2, 631, 1]), (30, 130, .getfield 344, 3, [0, 2, 0, 456, 0]), (31, 133, .ireturn, 1, [0]), (32, 134, .aload_n 0, 1, []), (33, 135, .getfield 38, 3, [11, 2, 2, 631, 1]), (34, 138, .getfield 347, 3, [0, 3, 0, 458, 0]), (35, 141, .ireturn, 1, [0]), (36, 142, .aload_n 0, 1, []), (37, 143, .getfield 92, 3, [11, 9, 2, 638, 1]), (38, 146, .getfield 123, 3, [1, 0, 0, 569, 0]), (39, 149, .ireturn, 1, [0]), (40, 150, .aload_n 0, 1, []), (41, 151, .getfield 101, 3, [11, 10, 2, 639, 1]), (42, 154, .getfield 126, 3, [7, 0, 0, 592, 0]), (43, 157, .ireturn, 1, [0]), (44, 158, .aload_n 0, 1, []), (45, 159, .getfield 305, 3, [11, 14, 0, 643, 0]), (46, 162, .ireturn, 1, [0]), (47, 163, .aload_n 0, 1, []), (48, 164, .getfield 22, 3, [11, 0, 2, 629, 1]), (49, 167, .getfield 105, 3, [9, 1, 0, 320, 0]), (50, 170, .ireturn, 1, [0]), (51, 171, .aload_n 0, 1, []), (52, 172, .getfield 10, 3, [11, 12, 2, 641, 0]), (53, 175, .getfield 350, 3, [4, 17, 0, 216, 0]), (54, 178, .ireturn, 1, [0]), (55, 179, .aload_n 0, 1, []), (56, 180, .getfield 74, 3, [11, 11, 2, 640, 1]), (57, 183, .getfield 127, 3, [3, 1, 0, 517, 0]), (58, 186, .ireturn, 1, [0]), (59, 187, .iconst (-1), 1, []), (60, 188, .ireturn, 1, [0])]
set_option maxRecDepth 20000 in
def kX11_isWithin : List INS := [(0, 0, .iload_n 0, 1, []), (1, 1, .iload_n 1, 1, []), (2, 2, .if_icmp .lt 12, 3, [8]), (3, 5, .iload_n 0, 1, []), (4, 6, .iload_n 2, 1, []), (5, 7, .if_icmp .gt 7, 3, [8]), (6, 10, .iconst 1, 1, []), (7, 11, .goto 4, 3, [9]), (8, 14, .iconst 0, 1, []), (9, 15, .ireturn, 1, [5])]
set_option maxRecDepth 20000 in
def kX11_isTower : List INS := [(0, 0, .iload_n 1, 1, []), (1, 1, .iconst 0, 1, []), (2, 2, .aload_n 0, 1, []), (3, 3, .getfield 10, 3, [11, 12, 2, 641, 0]), (4, 6, .getfield 128, 3, [4, 0, 0, 157, 0]), (5, 9, .iconst 1, 1, []), (6, 10, .isub, 1, []), (7, 11, .invokestatic 173, 3, [0, 144, 3, 5, 0, 0, 0, 910, 911, 0, 121, 912]), (8, 14, .ireturn, 1, [5])]
set_option maxRecDepth 20000 in
def kX11_isDusk : List INS := [(0, 0, .aload_n 0, 1, []), (1, 1, .iload_n 1, 1, []), (2, 2, .invokevirtual 137, 3, [1, 145, 1, 5, 0, 0, 11, 906, 908, 22, 121, 909]), (3, 5, .ifCond .eq 20, 3, [13]), (4, 8, .aload_n 0, 1, []), (5, 9, .getfield 10, 3, [11, 12, 2, 641, 0]), (6, 12, .getfield 141, 3, [4, 1, 2, 161, 1]), (7, 15, .iload_n 1, 1, []), (8, 16, .iaload, 1, []), (9, 17, .iconst 4, 1, []), (10, 18, .if_icmp .ne 7, 3, [13]), (11, 21, .iconst 1, 1, []), (12, 22, .goto 4, 3, [14]), (13, 25, .iconst 0, 1, []), (14, 26, .ireturn, 1, [5])]
set_option maxRecDepth 20000 in
def kX11_isStart : List INS := [(0, 0, .iload_n 1, 1, []), (1, 1, .iconst 0, 1, []), (2, 2, .aload_n 0, 1, []), (3, 3, .getfield 10, 3, [11, 12, 2, 641, 0]), (4, 6, .getfield 319, 3, [4, 5, 0, 178, 0]), (5, 9, .iconst 1, 1, []), (6, 10, .isub, 1, []), (7, 11, .invokestatic 173, 3, [0, 144, 3, 5, 0, 0, 0, 910, 911, 0, 121, 912]), (8, 14, .ireturn, 1, [5])]
set_option maxRecDepth 20000 in
def kX11_isWay : List INS := [(0, 0, .iload_n 1, 1, []), (1, 1, .iconst 0, 1, []), (2, 2, .aload_n 0, 1, []), (3, 3, .getfield 10, 3, [11, 12, 2, 641, 0]), (4, 6, .getfield 220, 3, [4, 7, 0, 191, 0]), (5, 9, .iconst 1, 1, []), (6, 10, .isub, 1, []), (7, 11, .invokestatic 173, 3, [0, 144, 3, 5, 0, 0, 0, 910, 911, 0, 121, 912]), (8, 14, .ireturn, 1, [5])]
set_option maxRecDepth 20000 in
def kX11_isClaim : List INS := [(0, 0, .iload_n 1, 1, []), (1, 1, .iconst 0, 1, []), (2, 2, .aload_n 0, 1, []), (3, 3, .getfield 10, 3, [11, 12, 2, 641, 0]), (4, 6, .getfield 339, 3, [4, 11, 0, 207, 0]), (5, 9, .iconst 1, 1, []), (6, 10, .isub, 1, []), (7, 11, .invokestatic 173, 3, [0, 144, 3, 5, 0, 0, 0, 910, 911, 0, 121, 912]), (8, 14, .ireturn, 1, [5])]
set_option maxRecDepth 20000 in
def kX11_isTried : List INS := [(0, 0, .aload_n 0, 1, []), (1, 1, .iload_n 1, 1, []), (2, 2, .invokevirtual 302, 3, [1, 146, 1, 5, 0, 0, 11, 1032, 1034, 30, 121, 1035]), (3, 5, .ifCond .eq 17, 3, [11]), (4, 8, .iload_n 2, 1, []), (5, 9, .iconst 1, 1, []), (6, 10, .bipush 100, 2, []), (7, 12, .invokestatic 173, 3, [0, 144, 3, 5, 0, 0, 0, 910, 911, 0, 121, 912]), (8, 15, .ifCond .eq 7, 3, [11]), (9, 18, .iconst 1, 1, []), (10, 19, .goto 4, 3, [12]), (11, 22, .iconst 0, 1, []), (12, 23, .ireturn, 1, [5])]
set_option maxRecDepth 20000 in
def kX11_isClaimTried : List INS := [(0, 0, .aload_n 0, 1, []), (1, 1, .iload_n 1, 1, []), (2, 2, .invokevirtual 245, 3, [1, 149, 1, 5, 0, 0, 11, 1063, 1065, 31, 121, 1066]), (3, 5, .ifCond .eq 27, 3, [16]), (4, 8, .iload_n 2, 1, []), (5, 9, .iconst 0, 1, []), (6, 10, .bipush 99, 2, []), (7, 12, .invokestatic 173, 3, [0, 144, 3, 5, 0, 0, 0, 910, 911, 0, 121, 912]), (8, 15, .ifCond .eq 17, 3, [16]), (9, 18, .iload_n 3, 1, []), (10, 19, .iconst 1, 1, []), (11, 20, .bipush 100, 2, []), (12, 22, .invokestatic 173, 3, [0, 144, 3, 5, 0, 0, 0, 910, 911, 0, 121, 912]), (13, 25, .ifCond .eq 7, 3, [16]), (14, 28, .iconst 1, 1, []), (15, 29, .goto 4, 3, [17]), (16, 32, .iconst 0, 1, []), (17, 33, .ireturn, 1, [5])]
set_option maxRecDepth 20000 in
def kX12_init : List INS := [(0, 0, .aload_n 0, 1, []), (1, 1, .invokespecial 1, 3, [9, 0, 0, 9, 0, 0, 0, 1322, 147, 0, 0, 148]), (2, 4, .aload_n 0, 1, []), (3, 5, .sipush 1620, 3, []), (4, 8, .newarray .byte, 2, [102, 358]), (5, 10, .putfield 7, 3, [12, 0, 2, 1335, 1]), (6, 13, .aload_n 0, 1, []), (7, 14, .sipush 1600, 3, []), (8, 17, .newarray .byte, 2, [102, 358]), (9, 19, .putfield 13, 3, [12, 1, 2, 1336, 1]), (10, 22, .aload_n 0, 1, []), (11, 23, .iconst (-1), 1, []), (12, 24, .putfield 16, 3, [12, 5, 0, 1340, 0]), (13, 27, .aload_n 0, 1, []), (14, 28, .iconst 2, 1, []), (15, 29, .newarray .int, 2, [100, 259]), (16, 31, .putfield 20, 3, [12, 11, 2, 1346, 1]), (17, 34, .aload_n 0, 1, []), (18, 35, .iconst 2, 1, []), (19, 36, .newarray .int, 2, [100, 259]), (20, 38, .putfield 24, 3, [12, 12, 2, 1347, 1]), (21, 41, .aload_n 0, 1, []), (22, 42, .iconst 2, 1, []), (23, 43, .newarray .int, 2, [100, 259]), (24, 45, .putfield 27, 3, [12, 13, 2, 1348, 1]), (25, 48, .aload_n 0, 1, []), (26, 49, .iconst 2, 1, []), (27, 50, .newarray .int, 2, [100, 259]), (28, 52, .putfield 30, 3, [12, 14, 2, 1349, 1]), (29, 55, .aload_n 0, 1, []), (30, 56, .iconst 2, 1, []), (31, 57, .newarray .int, 2, [100, 259]), (32, 59, .putfield 33, 3, [12, 15, 2, 1350, 1]), (33, 62, .aload_n 0, 1, []), (34, 63, .iconst 2, 1, []), (35, 64, .newarray .int, 2, [100, 259]), (36, 66, .putfield 36, 3, [12, 16, 2, 1351, 1]), (37, 69, .aload_n 0, 1, []), (38, 70, .bipush 20, 2, []), (39, 72, .newarray .int, 2, [100, 259]), (40, 74, .putfield 39, 3, [12, 17, 2, 1352, 1]), (41, 77, .aload_n 0, 1, []), (42, 78, .bipush 20, 2, []), (43, 80, .newarray .int, 2, [100, 259]), (44, 82, .putfield 42, 3, [12, 18, 2, 1353, 1]), (45, 85, .aload_n 0, 1, []), (46, 86, .bipush 6, 2, []), (47, 88, .newarray .int, 2, [100, 259]), (48, 90, .putfield 45, 3, [12, 19, 2, 1354, 1]), (49, 93, .aload_n 0, 1, []), (50, 94, .bipush 32, 2, []), (51, 96, .newarray .int, 2, [100, 259]), (52, 98, .putfield 48, 3, [12, 20, 2, 1355, 1]), (53, 101, .aload_n 0, 1, []), (54, 102, .bipush 32, 2, []), (55, 104, .newarray .int, 2, [100, 259]), (56, 106, .putfield 51, 3, [12, 21, 2, 1356, 1]), (57, 109, .aload_n 0, 1, []), (58, 110, .bipush 32, 2, []), (59, 112, .newarray .int, 2, [100, 259]), (60, 114, .putfield 54, 3, [12, 22, 2, 1357, 1]), (61, 117, .aload_n 0, 1, []), (62, 118, .bipush 20, 2, []), (63, 120, .newarray .int, 2, [100, 259]), (64, 122, .putfield 57, 3, [12, 23, 2, 1358, 1]), (65, 125, .aload_n 0, 1, []), (66, 126, .bipush 20, 2, []), (67, 128, .newarray .int, 2, [100, 259]), (68, 130, .putfield 60, 3, [12, 24, 2, 1359, 1]), (69, 133, .aload_n 0, 1, []), (70, 134, .bipush 12, 2, []), (71, 136, .newarray .int, 2, [100, 259]), (72, 138, .putfield 63, 3, [12, 25, 2, 1360, 1]), (73, 141, .aload_n 0, 1, []), (74, 142, .bipush 12, 2, []), (75, 144, .newarray .int, 2, [100, 259]), (76, 146, .putfield 66, 3, [12, 26, 2, 1361, 1]), (77, 149, .aload_n 0, 1, []), (78, 150, .bipush 12, 2, []), (79, 152, .newarray .int, 2, [100, 259]), (80, 154, .putfield 69, 3, [12, 27, 2, 1362, 1]), (81, 157, .aload_n 0, 1, []), (82, 158, .iconst 2, 1, []), (83, 159, .newarray .boolean, 2, [103, 492]), (84, 161, .putfield 72, 3, [12, 28, 2, 1363, 1]), (85, 164, .aload_n 0, 1, []), (86, 165, .bipush 20, 2, []), (87, 167, .newarray .long, 2, [101, 357]), (88, 169, .putfield 76, 3, [12, 29, 2, 1364, 1]), (89, 172, .aload_n 0, 1, []), (90, 173, .bipush 12, 2, []), (91, 175, .newarray .long, 2, [101, 357]), (92, 177, .putfield 80, 3, [12, 30, 2, 1365, 1]), (93, 180, .aload_n 0, 1, []), (94, 181, .sipush 1200, 3, []), (95, 184, .newarray .int, 2, [100, 259]), (96, 186, .putfield 83, 3, [12, 31, 2, 1366, 1]), (97, 189, .aload_n 0, 1, []), (98, 190, .sipush 1200, 3, []), (99, 193, .newarray .int, 2, [100, 259]), (100, 195, .putfield 86, 3, [12, 32, 2, 1367, 1]), (101, 198, .aload_n 0, 1, []), (102, 199, .bipush 90, 2, []), (103, 201, .newarray .int, 2, [100, 259]), (104, 203, .putfield 89, 3, [12, 33, 2, 1368, 1]), (105, 206, .aload_n 0, 1, []), (106, 207, .bipush 90, 2, []), (107, 209, .newarray .int, 2, [100, 259]), (108, 211, .putfield 92, 3, [12, 34, 2, 1369, 1]), (109, 214, .aload_n 0, 1, []), (110, 215, .bipush 60, 2, []), (111, 217, .newarray .int, 2, [100, 259]), (112, 219, .putfield 95, 3, [12, 35, 2, 1370, 1]), (113, 222, .aload_n 0, 1, []), (114, 223, .sipush 218, 3, []), (115, 226, .newarray .int, 2, [100, 259]), (116, 228, .putfield 98, 3, [12, 42, 2, 1377, 1]), (117, 231, .aload_n 0, 1, []), (118, 232, .sipush 218, 3, []), (119, 235, .newarray .int, 2, [100, 259]), (120, 237, .putfield 101, 3, [12, 43, 2, 1378, 1]), (121, 240, .aload_n 0, 1, []), (122, 241, .bipush 16, 2, []), (123, 243, .newarray .int, 2, [100, 259]), (124, 245, .putfield 104, 3, [12, 44, 2, 1379, 1]), (125, 248, .aload_n 0, 1, []), (126, 249, .bipush 10, 2, []), (127, 251, .newarray .int, 2, [100, 259]), (128, 253, .putfield 107, 3, [12, 45, 2, 1380, 1]), (129, 256, .aload_n 0, 1, []), (130, 257, .iconst 3, 1, []), (131, 258, .newarray .int, 2, [100, 259]), (132, 260, .putfield 110, 3, [12, 46, 2, 1381, 1]), (133, 263, .aload_n 0, 1, []), (134, 264, .sipush 8938, 3, []), (135, 267, .newarray .int, 2, [100, 259]), (136, 269, .putfield 113, 3, [12, 50, 2, 1385, 1]), (137, 272, .aload_n 0, 1, []), (138, 273, .bipush 8, 2, []), (139, 275, .newarray .int, 2, [100, 259]), (140, 277, .putfield 116, 3, [12, 53, 2, 1388, 1]), (141, 280, .aload_n 0, 1, []), (142, 281, .iconst 3, 1, []), (143, 282, .newarray .int, 2, [100, 259]), (144, 284, .putfield 119, 3, [12, 54, 2, 1389, 1]), (145, 287, .aload_n 0, 1, []), (146, 288, .bipush 41, 2, []), (147, 290, .newarray .int, 2, [100, 259]), (148, 292, .putfield 122, 3, [12, 56, 2, 1391, 1]), (149, 295, .aload_n 0, 1, []), (150, 296, .sipush 610, 3, []), (151, 299, .newarray .int, 2, [100, 259]), (152, 301, .putfield 125, 3, [12, 57, 2, 1392, 1]), (153, 304, .aload_n 0, 1, []), (154, 305, .bipush 61, 2, []), (155, 307, .newarray .boolean, 2, [103, 492]), (156, 309, .putfield 128, 3, [12, 58, 2, 1393, 1]), (157, 312, .aload_n 0, 1, []), (158, 313, .iconst 4, 1, []), (159, 314, .newarray .int, 2, [100, 259]), (160, 316, .putfield 131, 3, [12, 59, 2, 1394, 1]), (161, 319, .aload_n 0, 1, []), (162, 320, .iconst 4, 1, []), (163, 321, .newarray .int, 2, [100, 259]), (164, 323, .putfield 134, 3, [12, 60, 2, 1395, 1]), (165, 326, .aload_n 0, 1, []), (166, 327, .bipush 20, 2, []), (167, 329, .newarray .int, 2, [100, 259]), (168, 331, .putfield 137, 3, [12, 62, 2, 1397, 1]), (169, 334, .aload_n 0, 1, []), (170, 335, .bipush 20, 2, []), (171, 337, .newarray .int, 2, [100, 259]), (172, 339, .putfield 140, 3, [12, 63, 2, 1398, 1]), (173, 342, .aload_n 0, 1, []), (174, 343, .bipush 20, 2, []), (175, 345, .newarray .int, 2, [100, 259]), (176, 347, .putfield 143, 3, [12, 64, 2, 1399, 1]), (177, 350, .aload_n 0, 1, []), (178, 351, .bipush 20, 2, []), (179, 353, .newarray .int, 2, [100, 259]), (180, 355, .putfield 146, 3, [12, 65, 2, 1400, 1]), (181, 358, .aload_n 0, 1, []), (182, 359, .bipush 20, 2, []), (183, 361, .newarray .int, 2, [100, 259]), (184, 363, .putfield 149, 3, [12, 66, 2, 1401, 1]), (185, 366, .aload_n 0, 1, []), (186, 367, .iconst 3, 1, []), (187, 368, .newarray .int, 2, [100, 259]), (188, 370, .putfield 152, 3, [12, 67, 2, 1402, 1]), (189, 373, .aload_n 0, 1, []), (190, 374, .iconst 3, 1, []), (191, 375, .newarray .int, 2, [100, 259]), (192, 377, .putfield 155, 3, [12, 68, 2, 1403, 1]), (193, 380, .aload_n 0, 1, []), (194, 381, .iconst 3, 1, []), (195, 382, .newarray .int, 2, [100, 259]), (196, 384, .putfield 158, 3, [12, 69, 2, 1404, 1]), (197, 387, .aload_n 0, 1, []), (198, 388, .sipush 654, 3, []), (199, 391, .newarray .int, 2, [100, 259]), (200, 393, .putfield 161, 3, [12, 72, 2, 1407, 1]), (201, 396, .aload_n 0, 1, []), (202, 397, .iconst 3, 1, []), (203, 398, .newarray .boolean, 2, [103, 492]), (204, 400, .putfield 164, 3, [12, 73, 2, 1408, 1]), (205, 403, .aload_n 0, 1, []), (206, 404, .invokevirtual 167, 3, [1, 167, 0, 9, 0, 0, 12, 1323, 1325, 43, 137, 1326]), (207, 407, .aload_n 0, 1, []), (208, 408, .invokevirtual 170, 3, [1, 202, 0, 9, 0, 0, 12, 1327, 1329, 44, 137, 1330]), (209, 411, .return_, 1, [])]
set_option maxRecDepth 20000 in
def kX12_sign : List INS := [(0, 0, .iload_n 1, 1, []), (1, 1, .aload_n 0, 1, []), (2, 2, .getfield 173, 3, [12, 3, 0, 1338, 0]), (3, 5, .if_icmp .ge 16, 3, [11]), (4, 8, .aload_n 0, 1, []), (5, 9, .getfield 13, 3, [12, 1, 2, 1336, 1]), (6, 12, .iload_n 1, 1, []), (7, 13, .baload, 1, [102]), (8, 14, .sipush 255, 3, []), (9, 17, .iand, 1, []), (10, 18, .goto 4, 3, [12]), (11, 21, .iconst 0, 1, []), (12, 22, .ireturn, 1, [0])]
set_option maxRecDepth 20000 in
def kX12_isLetter : List INS := [(0, 0, .iload_n 0, 1, []), (1, 1, .bipush 97, 2, []), (2, 3, .if_icmp .lt 13, 3, [8]), (3, 6, .iload_n 0, 1, []), (4, 7, .bipush 122, 2, []), (5, 9, .if_icmp .gt 7, 3, [8]), (6, 12, .iconst 1, 1, []), (7, 13, .goto 4, 3, [9]), (8, 16, .iconst 0, 1, []), (9, 17, .ireturn, 1, [5])]
set_option maxRecDepth 20000 in
def kX12_isDigit : List INS := [(0, 0, .iload_n 0, 1, []), (1, 1, .bipush 48, 2, []), (2, 3, .if_icmp .lt 13, 3, [8]), (3, 6, .iload_n 0, 1, []), (4, 7, .bipush 57, 2, []), (5, 9, .if_icmp .gt 7, 3, [8]), (6, 12, .iconst 1, 1, []), (7, 13, .goto 4, 3, [9]), (8, 16, .iconst 0, 1, []), (9, 17, .ireturn, 1, [5])]
set_option maxRecDepth 20000 in
def kX12_fails : List INS := [(0, 0, .aload_n 0, 1, []), (1, 1, .getfield 176, 3, [12, 4, 0, 1339, 0]), (2, 4, .ifCond .le 4, 3, [4]), (3, 7, .return_, 1, []), (4, 8, .aload_n 0, 1, []), (5, 9, .iload_n 1, 1, []), (6, 10, .putfield 176, 3, [12, 4, 0, 1339, 0]), (7, 13, .aload_n 0, 1, []), (8, 14, .iload_n 2, 1, []), (9, 15, .putfield 16, 3, [12, 5, 0, 1340, 0]), (10, 18, .return_, 1, [])]
set_option maxRecDepth 20000 in
def kX12_isGood : List INS := [(0, 0, .aload_n 0, 1, []), (1, 1, .getfield 176, 3, [12, 4, 0, 1339, 0]), (2, 4, .ifCond .ne 7, 3, [5]), (3, 7, .iconst 1, 1, []), (4, 8, .goto 4, 3, [6]), (5, 11, .iconst 0, 1, []), (6, 12, .ireturn, 1, [5])]
set_option maxRecDepth 20000 in
def kX12_isKept : List INS := [(0, 0, .lload_n 0, 1, []), (1, 1, .ldc2_w 179, 3, [495873782388, 1576]), (2, 4, .lcmp, 1, []), (3, 5, .ifCond .eq 67, 3, [36]), (4, 8, .lload_n 0, 1, []), (5, 9, .ldc2_w 181, 3, [1785686382, 1577]), (6, 12, .lcmp, 1, []), (7, 13, .ifCond .eq 59, 3, [36]), (8, 16, .lload_n 0, 1, []), (9, 17, .ldc2_w 183, 3, [495807392116, 1578]), (10, 20, .lcmp, 1, []), (11, 21, .ifCond .eq 51, 3, [36]), (12, 24, .lload_n 0, 1, []), (13, 25, .ldc2_w 185, 3, [7300196, 1579]), (14, 28, .lcmp, 1, []), (15, 29, .ifCond .eq 43, 3, [36]), (16, 32, .lload_n 0, 1, []), (17, 33, .ldc2_w 187, 3, [1685418859, 1580]), (18, 36, .lcmp, 1, []), (19, 37, .ifCond .eq 35, 3, [36]), (20, 40, .lload_n 0, 1, []), (21, 41, .ldc2_w 189, 3, [1886350948, 1581]), (22, 44, .lcmp, 1, []), (23, 45, .ifCond .eq 27, 3, [36]), (24, 48, .lload_n 0, 1, []), (25, 49, .ldc2_w 191, 3, [6713208, 1582]), (26, 52, .lcmp, 1, []), (27, 53, .ifCond .eq 19, 3, [36]), (28, 56, .lload_n 0, 1, []), (29, 57, .ldc2_w 193, 3, [422826041700, 1583]), (30, 60, .lcmp, 1, []), (31, 61, .ifCond .eq 11, 3, [36]), (32, 64, .lload_n 0, 1, []), (33, 65, .ldc2_w 195, 3, [2003398244, 1584]), (34, 68, .lcmp, 1, []), (35, 69, .ifCond .ne 7, 3, [38]), (36, 72, .iconst 1, 1, []), (37, 73, .goto 4, 3, [39]), (38, 76, .iconst 0, 1, []), (39, 77, .istore_n 2, 1, []), (40, 78, .iload_n 2, 1, []), (41, 79, .ifCond .ne 75, 3, [78]), (42, 82, .lload_n 0, 1, []), (43, 83, .ldc2_w 197, 3, [7823737, 1585]), (44, 86, .lcmp, 1, []), (45, 87, .ifCond .eq 67, 3, [78]), (46, 90, .lload_n 0, 1, []), (47, 91, .ldc2_w 199, 3, [29807, 1586]), (48, 94, .lcmp, 1, []), (49, 95, .ifCond .eq 59, 3, [78]), (50, 98, .lload_n 0, 1, []), (51, 99, .ldc2_w 201, 3, [26990, 1587]), (52, 102, .lcmp, 1, []), (53, 103, .ifCond .eq 51, 3, [78]), (54, 106, .lload_n 0, 1, []), (55, 107, .ldc2_w 203, 3, [427020085613, 1588]), (56, 110, .lcmp, 1, []), (57, 111, .ifCond .eq 43, 3, [78]), (58, 114, .lload_n 0, 1, []), (59, 115, .ldc2_w 205, 3, [24948, 1589]), (60, 118, .lcmp, 1, []), (61, 119, .ifCond .eq 35, 3, [78]), (62, 122, .lload_n 0, 1, []), (63, 123, .ldc2_w 207, 3, [1685217655, 1590]), (64, 126, .lcmp, 1, []), (65, 127, .ifCond .eq 27, 3, [78]), (66, 130, .lload_n 0, 1, []), (67, 131, .ldc2_w 209, 3, [28530, 1591]), (68, 134, .lcmp, 1, []), (69, 135, .ifCond .eq 19, 3, [78]), (70, 138, .lload_n 0, 1, []), (71, 139, .ldc2_w 211, 3, [6385252, 1592]), (72, 142, .lcmp, 1, []), (73, 143, .ifCond .eq 11, 3, [78]), (74, 146, .lload_n 0, 1, []), (75, 147, .ldc2_w 213, 3, [7237492, 1593]), (76, 150, .lcmp, 1, []), (77, 151, .ifCond .ne 7, 3, [80]), (78, 154, .iconst 1, 1, []), (79, 155, .goto 4, 3, [81]), (80, 158, .iconst 0, 1, []), (81, 159, .ireturn, 1, [5])]
set_option maxRecDepth 20000 in
def kX12_isSign : List INS := [(0, 0, .iload_n 0, 1, []), (1, 1, .bipush 59, 2, []), (2, 3, .if_icmp .eq 63, 3, [33]), (3, 6, .iload_n 0, 1, []), (4, 7, .bipush 40, 2, []), (5, 9, .if_icmp .eq 57, 3, [33]), (6, 12, .iload_n 0, 1, []), (7, 13, .bipush 41, 2, []), (8, 15, .if_icmp .eq 51, 3, [33]), (9, 18, .iload_n 0, 1, []), (10, 19, .bipush 60, 2, []), (11, 21, .if_icmp .eq 45, 3, [33]), (12, 24, .iload_n 0, 1, []), (13, 25, .bipush 62, 2, []), (14, 27, .if_icmp .eq 39, 3, [33]), (15, 30, .iload_n 0, 1, []), (16, 31, .bipush 61, 2, []), (17, 33, .if_icmp .eq 33, 3, [33]), (18, 36, .iload_n 0, 1, []), (19, 37, .bipush 43, 2, []), (20, 39, .if_icmp .eq 27, 3, [33]), (21, 42, .iload_n 0, 1, []), (22, 43, .bipush 45, 2, []), (23, 45, .if_icmp .eq 21, 3, [33]), (24, 48, .iload_n 0, 1, []), (25, 49, .bipush 42, 2, []), (26, 51, .if_icmp .eq 15, 3, [33]), (27, 54, .iload_n 0, 1, []), (28, 55, .bipush 47, 2, []), (29, 57, .if_icmp .eq 9, 3, [33]), (30, 60, .iload_n 0, 1, []), (31, 61, .bipush 37, 2, []), (32, 63, .if_icmp .ne 7, 3, [35]), (33, 66, .iconst 1, 1, []), (34, 67, .goto 4, 3, [36]), (35, 70, .iconst 0, 1, []), (36, 71, .ireturn, 1, [5])]
set_option maxRecDepth 20000 in
def kX12_goOn : List INS := [(0, 0, .aload_n 0, 1, []), (1, 1, .aload_n 0, 1, []), (2, 2, .getfield 215, 3, [12, 7, 0, 1342, 0]), (3, 5, .putfield 218, 3, [12, 6, 0, 1341, 0]), (4, 8, .aload_n 0, 1, []), (5, 9, .getfield 218, 3, [12, 6, 0, 1341, 0]), (6, 12, .aload_n 0, 1, []), (7, 13, .getfield 173, 3, [12, 3, 0, 1338, 0]), (8, 16, .if_icmp .ge 42, 3, [28]), (9, 19, .aload_n 0, 1, []), (10, 20, .aload_n 0, 1, []), (11, 21, .getfield 218, 3, [12, 6, 0, 1341, 0]), (12, 24, .invokevirtual 221, 3, [1, 153, 1, 0, 0, 0, 12, 1566, 1568, 47, 137, 1569]), (13, 27, .bipush 32, 2, []), (14, 29, .if_icmp .eq 16, 3, [21]), (15, 32, .aload_n 0, 1, []), (16, 33, .aload_n 0, 1, []), (17, 34, .getfield 218, 3, [12, 6, 0, 1341, 0]), (18, 37, .invokevirtual 221, 3, [1, 153, 1, 0, 0, 0, 12, 1566, 1568, 47, 137, 1569]), (19, 40, .bipush 10, 2, []), (20, 42, .if_icmp .ne 16, 3, [28]), (21, 45, .aload_n 0, 1, []), (22, 46, .dup, 1, []), (23, 47, .getfield 218, 3, [12, 6, 0, 1341, 0]), (24, 50, .iconst 1, 1, []), (25, 51, .iadd, 1, []), (26, 52, .putfield 218, 3, [12, 6, 0, 1341, 0]), (27, 55, .goto (-47), 3, [4]), (28, 58, .aload_n 0, 1, []), (29, 59, .aload_n 0, 1, []), (30, 60, .getfield 218, 3, [12, 6, 0, 1341, 0]), (31, 63, .invokevirtual 221, 3, [1, 153, 1, 0, 0, 0, 12, 1566, 1568, 47, 137, 1569]), (32, 66, .istore_n 1, 1, []), (33, 67, .aload_n 0, 1, []), (34, 68, .aload_n 0, 1, []), (35, 69, .getfield 218, 3, [12, 6, 0, 1341, 0]), (36, 72, .iconst 1, 1, []), (37, 73, .iadd, 1, []), (38, 74, .putfield 215, 3, [12, 7, 0, 1342, 0]), (39, 77, .aload_n 0, 1, []), (40, 78, .getfield 218, 3, [12, 6, 0, 1341, 0]), (41, 81, .aload_n 0, 1, []), (42, 82, .getfield 173, 3, [12, 3, 0, 1338, 0]), (43, 85, .if_icmp .lt 27, 3, [56]), (44, 88, .aload_n 0, 1, []), (45, 89, .iconst 0, 1, []), (46, 90, .putfield 225, 3, [12, 8, 0, 1343, 0]), (47, 93, .aload_n 0, 1, []), (48, 94, .aload_n 0, 1, []), (49, 95, .getfield 173, 3, [12, 3, 0, 1338, 0]), (50, 98, .putfield 218, 3, [12, 6, 0, 1341, 0]), (51, 101, .aload_n 0, 1, []), (52, 102, .aload_n 0, 1, []), (53, 103, .getfield 173, 3, [12, 3, 0, 1338, 0]), (54, 106, .putfield 215, 3, [12, 7, 0, 1342, 0]), (55, 109, .goto 268, 3, [190]), (56, 112, .iload_n 1, 1, []), (57, 113, .invokestatic 228, 3, [0, 154, 1, 5, 0, 0, 0, 1570, 1571, 0, 137, 1572]), (58, 116, .ifCond .eq 123, 3, [120]), (59, 119, .aload_n 0, 1, []), (60, 120, .aload_n 0, 1, []), (61, 121, .getfield 215, 3, [12, 7, 0, 1342, 0]), (62, 124, .invokevirtual 221, 3, [1, 153, 1, 0, 0, 0, 12, 1566, 1568, 47, 137, 1569]), (63, 127, .invokestatic 228, 3, [0, 154, 1, 5, 0, 0, 0, 1570, 1571, 0, 137, 1572]), (64, 130, .ifCond .eq 16, 3, [72]), (65, 133, .aload_n 0, 1, []), (66, 134, .dup, 1, []), (67, 135, .getfield 215, 3, [12, 7, 0, 1342, 0]), (68, 138, .iconst 1, 1, []), (69, 139, .iadd, 1, []), (70, 140, .putfield 215, 3, [12, 7, 0, 1342, 0]), (71, 143, .goto (-24), 3, [59]), (72, 146, .aload_n 0, 1, []), (73, 147, .lconst 0, 1, []), (74, 148, .putfield 232, 3, [12, 10, 1, 1345, 0]), (75, 151, .aload_n 0, 1, []), (76, 152, .getfield 218, 3, [12, 6, 0, 1341, 0]), (77, 155, .istore_n 2, 1, []), (78, 156, .iload_n 2, 1, []), (79, 157, .aload_n 0, 1, []), (80, 158, .getfield 215, 3, [12, 7, 0, 1342, 0]), (81, 161, .if_icmp .ge 38, 3, [101]), (82, 164, .iload_n 2, 1, []), (83, 165, .aload_n 0, 1, []), (84, 166, .getfield 218, 3, [12, 6, 0, 1341, 0]), (85, 169, .bipush 8, 2, []), (86, 171, .iadd, 1, []), (87, 172, .if_icmp .ge 27, 3, [101]), (88, 175, .aload_n 0, 1, []), (89, 176, .aload_n 0, 1, []), (90, 177, .getfield 232, 3, [12, 10, 1, 1345, 0]), (91, 180, .bipush 8, 2, []), (92, 182, .lshl, 1, []), (93, 183, .aload_n 0, 1, []), (94, 184, .iload_n 2, 1, []), (95, 185, .invokevirtual 221, 3, [1, 153, 1, 0, 0, 0, 12, 1566, 1568, 47, 137, 1569]), (96, 188, .i2l, 1, []), (97, 189, .lor, 1, []), (98, 190, .putfield 232, 3, [12, 10, 1, 1345, 0]), (99, 193, .iinc 2 1, 3, []), (100, 196, .goto (-40), 3, [78]), (101, 199, .aload_n 0, 1, []), (102, 200, .aload_n 0, 1, []), (103, 201, .getfield 215, 3, [12, 7, 0, 1342, 0]), (104, 204, .aload_n 0, 1, []), (105, 205, .getfield 218, 3, [12, 6, 0, 1341, 0]), (106, 208, .isub, 1, []), (107, 209, .bipush 8, 2, []), (108, 211, .if_icmp .le 7, 3, [111]), (109, 214, .iconst 1, 1, []), (110, 215, .goto 18, 3, [118]), (111, 218, .aload_n 0, 1, []), (112, 219, .getfield 232, 3, [12, 10, 1, 1345, 0]), (113, 222, .invokestatic 236, 3, [0, 158, 1, 5, 0, 0, 0, 1573, 1574, 0, 137, 1575]), (114, 225, .ifCond .eq 7, 3, [117]), (115, 228, .iconst 3, 1, []), (116, 229, .goto 4, 3, [118]), (117, 232, .iconst 2, 1, []), (118, 233, .putfield 225, 3, [12, 8, 0, 1343, 0]), (119, 236, .goto 141, 3, [190]), (120, 239, .iload_n 1, 1, []), (121, 240, .invokestatic 240, 3, [0, 155, 1, 5, 0, 0, 0, 1594, 1595, 0, 137, 1596]), (122, 243, .ifCond .eq 118, 3, [182]), (123, 246, .aload_n 0, 1, []), (124, 247, .iconst 0, 1, []), (125, 248, .putfield 243, 3, [12, 9, 0, 1344, 0]), (126, 251, .aload_n 0, 1, []), (127, 252, .aload_n 0, 1, []), (128, 253, .getfield 218, 3, [12, 6, 0, 1341, 0]), (129, 256, .putfield 215, 3, [12, 7, 0, 1342, 0]), (130, 259, .aload_n 0, 1, []), (131, 260, .aload_n 0, 1, []), (132, 261, .getfield 215, 3, [12, 7, 0, 1342, 0]), (133, 264, .invokevirtual 221, 3, [1, 153, 1, 0, 0, 0, 12, 1566, 1568, 47, 137, 1569]), (134, 267, .invokestatic 240, 3, [0, 155, 1, 5, 0, 0, 0, 1594, 1595, 0, 137, 1596]), (135, 270, .ifCond .eq 52, 3, [163]), (136, 273, .aload_n 0, 1, []), (137, 274, .getfield 215, 3, [12, 7, 0, 1342, 0]), (138, 277, .aload_n 0, 1, []), (139, 278, .getfield 218, 3, [12, 6, 0, 1341, 0]), (140, 281, .isub, 1, []), (141, 282, .iconst 4, 1, []), (142, 283, .if_icmp .ge 26, 3, [156]), (143, 286, .aload_n 0, 1, []), (144, 287, .bipush 10, 2, []), (145, 289, .aload_n 0, 1, []), (146, 290, .getfield 243, 3, [12, 9, 0, 1344, 0]), (147, 293, .imul, 1, []), (148, 294, .aload_n 0, 1, []), (149, 295, .aload_n 0, 1, []), (150, 296, .getfield 215, 3, [12, 7, 0, 1342, 0]), (151, 299, .invokevirtual 221, 3, [1, 153, 1, 0, 0, 0, 12, 1566, 1568, 47, 137, 1569]), (152, 302, .iadd, 1, []), (153, 303, .bipush 48, 2, []), (154, 305, .isub, 1, []), (155, 306, .putfield 243, 3, [12, 9, 0, 1344, 0]), (156, 309, .aload_n 0, 1, []), (157, 310, .dup, 1, []), (158, 311, .getfield 215, 3, [12, 7, 0, 1342, 0]), (159, 314, .iconst 1, 1, []), (160, 315, .iadd, 1, []), (161, 316, .putfield 215, 3, [12, 7, 0, 1342, 0]), (162, 319, .goto (-60), 3, [130]), (163, 322, .aload_n 0, 1, []), (164, 323, .aload_n 0, 1, []), (165, 324, .getfield 215, 3, [12, 7, 0, 1342, 0]), (166, 327, .aload_n 0, 1, []), (167, 328, .getfield 218, 3, [12, 6, 0, 1341, 0]), (168, 331, .isub, 1, []), (169, 332, .iconst 4, 1, []), (170, 333, .if_icmp .gt 17, 3, [177]), (171, 336, .aload_n 0, 1, []), (172, 337, .aload_n 0, 1, []), (173, 338, .getfield 215, 3, [12, 7, 0, 1342, 0]), (174, 341, .invokevirtual 221, 3, [1, 153, 1, 0, 0, 0, 12, 1566, 1568, 47, 137, 1569]), (175, 344, .invokestatic 228, 3, [0, 154, 1, 5, 0, 0, 0, 1570, 1571, 0, 137, 1572]), (176, 347, .ifCond .eq 7, 3, [179]), (177, 350, .iconst 1, 1, []), (178, 351, .goto 4, 3, [180]), (179, 354, .iconst 4, 1, []), (180, 355, .putfield 225, 3, [12, 8, 0, 1343, 0]), (181, 358, .goto 19, 3, [190]), (182, 361, .aload_n 0, 1, []), (183, 362, .iload_n 1, 1, []), (184, 363, .invokestatic 246, 3, [0, 159, 1, 5, 0, 0, 0, 1597, 1598, 0, 137, 1599]), (185, 366, .ifCond .eq 7, 3, [188]), (186, 369, .iconst 5, 1, []), (187, 370, .goto 4, 3, [189]), (188, 373, .iconst 1, 1, []), (189, 374, .putfield 225, 3, [12, 8, 0, 1343, 0]), (190, 377, .return_, 1, [])]
set_option maxRecDepth 20000 in
def kX12_isSignHere : List INS := [(0, 0, .aload_n 0, 1, []), (1, 1, .getfield 225, 3, [12, 8, 0, 1343, 0]), (2, 4, .iconst 5, 1, []), (3, 5, .if_icmp .ne 19, 3, [12]), (4, 8, .aload_n 0, 1, []), (5, 9, .aload_n 0, 1, []), (6, 10, .getfield 218, 3, [12, 6, 0, 1341, 0]), (7, 13, .invokevirtual 221, 3, [1, 153, 1, 0, 0, 0, 12, 1566, 1568, 47, 137, 1569]), (8, 16, .iload_n 1, 1, []), (9, 17, .if_icmp .ne 7, 3, [12]), (10, 20, .iconst 1, 1, []), (11, 21, .goto 4, 3, [13]), (12, 24, .iconst 0, 1, []), (13, 25, .ireturn, 1, [5])]
set_option maxRecDepth 20000 in
def kX12_isWord : List INS := [(0, 0, .aload_n 0, 1, []), (1, 1, .getfield 225, 3, [12, 8, 0, 1343, 0]), (2, 4, .iconst 3, 1, []), (3, 5, .if_icmp .ne 16, 3, [11]), (4, 8, .aload_n 0, 1, []), (5, 9, .getfield 232, 3, [12, 10, 1, 1345, 0]), (6, 12, .lload_n 1, 1, []), (7, 13, .lcmp, 1, []), (8, 14, .ifCond .ne 7, 3, [11]), (9, 17, .iconst 1, 1, []), (10, 18, .goto 4, 3, [12]), (11, 21, .iconst 0, 1, []), (12, 22, .ireturn, 1, [5])]
set_option maxRecDepth 20000 in
def kX12_misplaced : List INS := [(0, 0, .aload_n 0, 1, []), (1, 1, .aload_n 0, 1, []), (2, 2, .getfield 225, 3, [12, 8, 0, 1343, 0]), (3, 5, .iconst 1, 1, []), (4, 6, .if_icmp .ne 7, 3, [7]), (5, 9, .iconst 1, 1, []), (6, 10, .goto 4, 3, [8]), (7, 13, .iconst 2, 1, []), (8, 14, .aload_n 0, 1, []), (9, 15, .getfield 218, 3, [12, 6, 0, 1341, 0]), (10, 18, .invokevirtual 249, 3, [1, 156, 2, 9, 0, 0, 12, 1624, 1626, 54, 137, 1627]), (11, 21, .return_, 1, [])]
set_option maxRecDepth 20000 in
def kX12_must : List INS := [(0, 0, .aload_n 0, 1, []), (1, 1, .invokevirtual 253, 3, [1, 157, 0, 5, 0, 0, 12, 1600, 1602, 48, 137, 1603]), (2, 4, .ifCond .ne 4, 3, [4]), (3, 7, .return_, 1, []), (4, 8, .iload_n 1, 1, []), (5, 9, .ifCond .eq 10, 3, [9]), (6, 12, .aload_n 0, 1, []), (7, 13, .invokevirtual 257, 3, [1, 160, 0, 9, 0, 0, 12, 1562, 1564, 46, 137, 1565]), (8, 16, .goto 7, 3, [11]), (9, 19, .aload_n 0, 1, []), (10, 20, .invokevirtual 260, 3, [1, 163, 0, 9, 0, 0, 12, 1620, 1622, 53, 137, 1623]), (11, 23, .return_, 1, [])]
set_option maxRecDepth 20000 in
def kX12_numeral : List INS := [(0, 0, .aload_n 0, 1, []), (1, 1, .invokevirtual 253, 3, [1, 157, 0, 5, 0, 0, 12, 1600, 1602, 48, 137, 1603]), (2, 4, .ifCond .ne 5, 3, [5]), (3, 7, .iload_n 1, 1, []), (4, 8, .ireturn, 1, [0]), (5, 9, .aload_n 0, 1, []), (6, 10, .getfield 225, 3, [12, 8, 0, 1343, 0]), (7, 13, .iconst 4, 1, []), (8, 14, .if_icmp .eq 7, 3, [11]), (9, 17, .aload_n 0, 1, []), (10, 18, .invokevirtual 260, 3, [1, 163, 0, 9, 0, 0, 12, 1620, 1622, 53, 137, 1623]), (11, 21, .aload_n 0, 1, []), (12, 22, .invokevirtual 253, 3, [1, 157, 0, 5, 0, 0, 12, 1600, 1602, 48, 137, 1603]), (13, 25, .ifCond .eq 28, 3, [27]), (14, 28, .aload_n 0, 1, []), (15, 29, .getfield 243, 3, [12, 9, 0, 1344, 0]), (16, 32, .iload_n 1, 1, []), (17, 33, .if_icmp .lt 11, 3, [22]), (18, 36, .aload_n 0, 1, []), (19, 37, .getfield 243, 3, [12, 9, 0, 1344, 0]), (20, 40, .iload_n 2, 1, []), (21, 41, .if_icmp .le 12, 3, [27]), (22, 44, .aload_n 0, 1, []), (23, 45, .iconst 4, 1, []), (24, 46, .aload_n 0, 1, []), (25, 47, .getfield 218, 3, [12, 6, 0, 1341, 0]), (26, 50, .invokevirtual 249, 3, [1, 156, 2, 9, 0, 0, 12, 1624, 1626, 54, 137, 1627]), (27, 53, .aload_n 0, 1, []), (28, 54, .getfield 243, 3, [12, 9, 0, 1344, 0]), (29, 57, .istore_n 3, 1, []), (30, 58, .aload_n 0, 1, []), (31, 59, .invokevirtual 253, 3, [1, 157, 0, 5, 0, 0, 12, 1600, 1602, 48, 137, 1603]), (32, 62, .ifCond .eq 7, 3, [35]), (33, 65, .aload_n 0, 1, []), (34, 66, .invokevirtual 257, 3, [1, 160, 0, 9, 0, 0, 12, 1562, 1564, 46, 137, 1565]), (35, 69, .aload_n 0, 1, []), (36, 70, .invokevirtual 253, 3, [1, 157, 0, 5, 0, 0, 12, 1600, 1602, 48, 137, 1603]), (37, 73, .ifCond .eq 7, 3, [40]), (38, 76, .iload_n 3, 1, []), (39, 77, .goto 4, 3, [41]), (40, 80, .iload_n 1, 1, []), (41, 81, .ireturn, 1, [0])]
set_option maxRecDepth 20000 in
def kX12_after : List INS := [(0, 0, .aload_n 0, 1, []), (1, 1, .aload_n 0, 1, []), (2, 2, .lload_n 1, 1, []), (3, 3, .invokevirtual 263, 3, [1, 162, 1, 5, 0, 0, 12, 1616, 1618, 52, 137, 1619]), (4, 6, .invokevirtual 266, 3, [1, 164, 1, 9, 0, 0, 12, 1660, 1662, 63, 137, 1663]), (5, 9, .aload_n 0, 1, []), (6, 10, .iload_n 3, 1, []), (7, 11, .iload 4, 2, []), (8, 13, .invokevirtual 270, 3, [1, 165, 2, 0, 0, 0, 12, 1644, 1646, 59, 137, 1647]), (9, 16, .ireturn, 1, [0])]
set_option maxRecDepth 20000 in
def kX12_clearBank : List INS := [(0, 0, .aload_n 0, 1, []), (1, 1, .getfield 20, 3, [12, 11, 2, 1346, 1]), (2, 4, .aload_n 0, 1, []), (3, 5, .getfield 274, 3, [12, 37, 0, 1372, 0]), (4, 8, .iconst 0, 1, []), (5, 9, .iastore, 1, []), (6, 10, .aload_n 0, 1, []), (7, 11, .getfield 24, 3, [12, 12, 2, 1347, 1]), (8, 14, .aload_n 0, 1, []), (9, 15, .getfield 274, 3, [12, 37, 0, 1372, 0]), (10, 18, .iconst 0, 1, []), (11, 19, .iastore, 1, []), (12, 20, .aload_n 0, 1, []), (13, 21, .getfield 27, 3, [12, 13, 2, 1348, 1]), (14, 24, .aload_n 0, 1, []), (15, 25, .getfield 274, 3, [12, 37, 0, 1372, 0]), (16, 28, .iconst 0, 1, []), (17, 29, .iastore, 1, []), (18, 30, .aload_n 0, 1, []), (19, 31, .getfield 30, 3, [12, 14, 2, 1349, 1]), (20, 34, .aload_n 0, 1, []), (21, 35, .getfield 274, 3, [12, 37, 0, 1372, 0]), (22, 38, .iconst 0, 1, []), (23, 39, .iastore, 1, []), (24, 40, .aload_n 0, 1, []), (25, 41, .getfield 33, 3, [12, 15, 2, 1350, 1]), (26, 44, .aload_n 0, 1, []), (27, 45, .getfield 274, 3, [12, 37, 0, 1372, 0]), (28, 48, .iconst 0, 1, []), (29, 49, .iastore, 1, []), (30, 50, .aload_n 0, 1, []), (31, 51, .getfield 36, 3, [12, 16, 2, 1351, 1]), (32, 54, .aload_n 0, 1, []), (33, 55, .getfield 274, 3, [12, 37, 0, 1372, 0]), (34, 58, .iconst 0, 1, []), (35, 59, .iastore, 1, []), (36, 60, .aload_n 0, 1, []), (37, 61, .getfield 72, 3, [12, 28, 2, 1363, 1]), (38, 64, .aload_n 0, 1, []), (39, 65, .getfield 274, 3, [12, 37, 0, 1372, 0]), (40, 68, .iconst 0, 1, []), (41, 69, .bastore, 1, [103]), (42, 70, .aload_n 0, 1, []), (43, 71, .sipush 600, 3, []), (44, 74, .aload_n 0, 1, []), (45, 75, .getfield 274, 3, [12, 37, 0, 1372, 0]), (46, 78, .imul, 1, []), (47, 79, .putfield 277, 3, [12, 38, 0, 1373, 0]), (48, 82, .return_, 1, [])]
set_option maxRecDepth 20000 in
def kX12_net : List INS := [(0, 0, .aload_n 0, 1, []), (1, 1, .iconst 0, 1, []), (2, 2, .putfield 176, 3, [12, 4, 0, 1339, 0]), (3, 5, .aload_n 0, 1, []), (4, 6, .iconst (-1), 1, []), (5, 7, .putfield 16, 3, [12, 5, 0, 1340, 0]), (6, 10, .aload_n 0, 1, []), (7, 11, .aload_n 0, 1, []), (8, 12, .getfield 280, 3, [12, 2, 0, 1337, 0]), (9, 15, .putfield 173, 3, [12, 3, 0, 1338, 0]), (10, 18, .iconst 0, 1, []), (11, 19, .istore_n 1, 1, []), (12, 20, .iload_n 1, 1, []), (13, 21, .aload_n 0, 1, []), (14, 22, .getfield 173, 3, [12, 3, 0, 1338, 0]), (15, 25, .if_icmp .ge 21, 3, [26]), (16, 28, .aload_n 0, 1, []), (17, 29, .getfield 13, 3, [12, 1, 2, 1336, 1]), (18, 32, .iload_n 1, 1, []), (19, 33, .aload_n 0, 1, []), (20, 34, .getfield 7, 3, [12, 0, 2, 1335, 1]), (21, 37, .iload_n 1, 1, []), (22, 38, .baload, 1, [102]), (23, 39, .bastore, 1, [102]), (24, 40, .iinc 1 1, 3, []), (25, 43, .goto (-23), 3, [12]), (26, 46, .aload_n 0, 1, []), (27, 47, .iconst 0, 1, []), (28, 48, .putfield 280, 3, [12, 2, 0, 1337, 0]), (29, 51, .aload_n 0, 1, []), (30, 52, .iconst 0, 1, []), (31, 53, .putfield 215, 3, [12, 7, 0, 1342, 0]), (32, 56, .aload_n 0, 1, []), (33, 57, .iconst 1, 1, []), (34, 58, .aload_n 0, 1, []), (35, 59, .getfield 283, 3, [12, 36, 0, 1371, 0]), (36, 62, .isub, 1, []), (37, 63, .putfield 274, 3, [12, 37, 0, 1372, 0]), (38, 66, .aload_n 0, 1, []), (39, 67, .invokevirtual 167, 3, [1, 167, 0, 9, 0, 0, 12, 1323, 1325, 43, 137, 1326]), (40, 70, .aload_n 0, 1, []), (41, 71, .invokevirtual 257, 3, [1, 160, 0, 9, 0, 0, 12, 1562, 1564, 46, 137, 1565]), (42, 74, .aload_n 0, 1, []), (43, 75, .invokevirtual 253, 3, [1, 157, 0, 5, 0, 0, 12, 1600, 1602, 48, 137, 1603]), (44, 78, .ifCond .eq 17, 3, [51]), (45, 81, .aload_n 0, 1, []), (46, 82, .getfield 225, 3, [12, 8, 0, 1343, 0]), (47, 85, .ifCond .eq 10, 3, [51]), (48, 88, .aload_n 0, 1, []), (49, 89, .invokevirtual 286, 3, [1, 171, 0, 9, 0, 0, 12, 1604, 1606, 49, 137, 1607]), (50, 92, .goto (-18), 3, [42]), (51, 95, .aload_n 0, 1, []), (52, 96, .invokevirtual 253, 3, [1, 157, 0, 5, 0, 0, 12, 1600, 1602, 48, 137, 1603]), (53, 99, .ifCond .ne 5, 3, [56]), (54, 102, .iconst (-1), 1, []), (55, 103, .ireturn, 1, [0]), (56, 104, .aload_n 0, 1, []), (57, 105, .aload_n 0, 1, []), (58, 106, .getfield 274, 3, [12, 37, 0, 1372, 0]), (59, 109, .putfield 283, 3, [12, 36, 0, 1371, 0]), (60, 112, .aload_n 0, 1, []), (61, 113, .invokevirtual 170, 3, [1, 202, 0, 9, 0, 0, 12, 1327, 1329, 44, 137, 1330]), (62, 116, .aload_n 0, 1, []), (63, 117, .getfield 20, 3, [12, 11, 2, 1346, 1]), (64, 120, .aload_n 0, 1, []), (65, 121, .getfield 283, 3, [12, 36, 0, 1371, 0]), (66, 124, .iaload, 1, []), (67, 125, .ireturn, 1, [0])]
set_option maxRecDepth 20000 in
def kX12_sortHere : List INS := [(0, 0, .aload_n 0, 1, []), (1, 1, .ldc2_w 179, 3, [495873782388, 1576]), (2, 4, .invokevirtual 263, 3, [1, 162, 1, 5, 0, 0, 12, 1616, 1618, 52, 137, 1619]), (3, 7, .ifCond .eq 5, 3, [6]), (4, 10, .iconst 0, 1, []), (5, 11, .ireturn, 1, [0]), (6, 12, .aload_n 0, 1, []), (7, 13, .ldc2_w 181, 3, [1785686382, 1577]), (8, 16, .invokevirtual 263, 3, [1, 162, 1, 5, 0, 0, 12, 1616, 1618, 52, 137, 1619]), (9, 19, .ifCond .eq 5, 3, [12]), (10, 22, .iconst 1, 1, []), (11, 23, .ireturn, 1, [0]), (12, 24, .aload_n 0, 1, []), (13, 25, .ldc2_w 183, 3, [495807392116, 1578]), (14, 28, .invokevirtual 263, 3, [1, 162, 1, 5, 0, 0, 12, 1616, 1618, 52, 137, 1619]), (15, 31, .ifCond .eq 5, 3, [18]), (16, 34, .iconst 2, 1, []), (17, 35, .ireturn, 1, [0]), (18, 36, .aload_n 0, 1, []), (19, 37, .ldc2_w 185, 3, [7300196, 1579]), (20, 40, .invokevirtual 263, 3, [1, 162, 1, 5, 0, 0, 12, 1616, 1618, 52, 137, 1619]), (21, 43, .ifCond .eq 5, 3, [24]), (22, 46, .iconst 3, 1, []), (23, 47, .ireturn, 1, [0]), (24, 48, .aload_n 0, 1, []), (25, 49, .ldc2_w 187, 3, [1685418859, 1580]), (26, 52, .invokevirtual 263, 3, [1, 162, 1, 5, 0, 0, 12, 1616, 1618, 52, 137, 1619]), (27, 55, .ifCond .eq 5, 3, [30]), (28, 58, .iconst 4, 1, []), (29, 59, .ireturn, 1, [0]), (30, 60, .aload_n 0, 1, []), (31, 61, .ldc2_w 189, 3, [1886350948, 1581]), (32, 64, .invokevirtual 263, 3, [1, 162, 1, 5, 0, 0, 12, 1616, 1618, 52, 137, 1619]), (33, 67, .ifCond .eq 5, 3, [36]), (34, 70, .iconst 5, 1, []), (35, 71, .ireturn, 1, [0]), (36, 72, .aload_n 0, 1, []), (37, 73, .ldc2_w 191, 3, [6713208, 1582]), (38, 76, .invokevirtual 263, 3, [1, 162, 1, 5, 0, 0, 12, 1616, 1618, 52, 137, 1619]), (39, 79, .ifCond .eq 6, 3, [42]), (40, 82, .bipush 6, 2, []), (41, 84, .ireturn, 1, [0]), (42, 85, .aload_n 0, 1, []), (43, 86, .ldc2_w 193, 3, [422826041700, 1583]), (44, 89, .invokevirtual 263, 3, [1, 162, 1, 5, 0, 0, 12, 1616, 1618, 52, 137, 1619]), (45, 92, .ifCond .eq 6, 3, [48]), (46, 95, .bipush 7, 2, []), (47, 97, .ireturn, 1, [0]), (48, 98, .aload_n 0, 1, []), (49, 99, .ldc2_w 195, 3, [2003398244, 1584]), (50, 102, .invokevirtual 263, 3, [1, 162, 1, 5, 0, 0, 12, 1616, 1618, 52, 137, 1619]), (51, 105, .ifCond .eq 8, 3, [54]), (52, 108, .bipush 8, 2, []), (53, 110, .goto 4, 3, [55]), (54, 113, .iconst (-1), 1, []), (55, 114, .ireturn, 1, [0])]
set_option maxRecDepth 20000 in
def kX12_isFull : List INS := [(0, 0, .aload_n 0, 1, []), (1, 1, .invokevirtual 289, 3, [1, 169, 0, 0, 0, 0, 12, 1612, 1614, 51, 137, 1615]), (2, 4, .istore_n 1, 1, []), (3, 5, .iload_n 1, 1, []), (4, 6, .ifCond .lt 40, 3, [25]), (5, 9, .aload_n 0, 1, []), (6, 10, .getfield 20, 3, [12, 11, 2, 1346, 1]), (7, 13, .aload_n 0, 1, []), (8, 14, .getfield 274, 3, [12, 37, 0, 1372, 0]), (9, 17, .iaload, 1, []), (10, 18, .bipush 10, 2, []), (11, 20, .if_icmp .eq 20, 3, [21]), (12, 23, .iload_n 1, 1, []), (13, 24, .ifCond .ne 20, 3, [23]), (14, 27, .aload_n 0, 1, []), (15, 28, .getfield 24, 3, [12, 12, 2, 1347, 1]), (16, 31, .aload_n 0, 1, []), (17, 32, .getfield 274, 3, [12, 37, 0, 1372, 0]), (18, 35, .iaload, 1, []), (19, 36, .iconst 3, 1, []), (20, 37, .if_icmp .ne 7, 3, [23]), (21, 40, .iconst 1, 1, []), (22, 41, .goto 4, 3, [24]), (23, 44, .iconst 0, 1, []), (24, 45, .ireturn, 1, [5]), (25, 46, .aload_n 0, 1, []), (26, 47, .ldc2_w 197, 3, [7823737, 1585]), (27, 50, .invokevirtual 263, 3, [1, 162, 1, 5, 0, 0, 12, 1616, 1618, 52, 137, 1619]), (28, 53, .ifCond .eq 23, 3, [40]), (29, 56, .aload_n 0, 1, []), (30, 57, .getfield 27, 3, [12, 13, 2, 1348, 1]), (31, 60, .aload_n 0, 1, []), (32, 61, .getfield 274, 3, [12, 37, 0, 1372, 0]), (33, 64, .iaload, 1, []), (34, 65, .bipush 16, 2, []), (35, 67, .if_icmp .ne 7, 3, [38]), (36, 70, .iconst 1, 1, []), (37, 71, .goto 4, 3, [39]), (38, 74, .iconst 0, 1, []), (39, 75, .ireturn, 1, [5]), (40, 76, .aload_n 0, 1, []), (41, 77, .ldc2_w 203, 3, [427020085613, 1588]), (42, 80, .invokevirtual 263, 3, [1, 162, 1, 5, 0, 0, 12, 1616, 1618, 52, 137, 1619]), (43, 83, .ifCond .eq 23, 3, [55]), (44, 86, .aload_n 0, 1, []), (45, 87, .getfield 30, 3, [12, 14, 2, 1349, 1]), (46, 90, .aload_n 0, 1, []), (47, 91, .getfield 274, 3, [12, 37, 0, 1372, 0]), (48, 94, .iaload, 1, []), (49, 95, .bipush 6, 2, []), (50, 97, .if_icmp .ne 7, 3, [53]), (51, 100, .iconst 1, 1, []), (52, 101, .goto 4, 3, [54]), (53, 104, .iconst 0, 1, []), (54, 105, .ireturn, 1, [5]), (55, 106, .aload_n 0, 1, []), (56, 107, .ldc2_w 207, 3, [1685217655, 1590]), (57, 110, .invokevirtual 263, 3, [1, 162, 1, 5, 0, 0, 12, 1616, 1618, 52, 137, 1619]), (58, 113, .ifCond .eq 15, 3, [65]), (59, 116, .aload_n 0, 1, []), (60, 117, .getfield 72, 3, [12, 28, 2, 1363, 1]), (61, 120, .aload_n 0, 1, []), (62, 121, .getfield 274, 3, [12, 37, 0, 1372, 0]), (63, 124, .baload, 1, [103]), (64, 125, .ifCond .eq 7, 3, [67]), (65, 128, .iconst 1, 1, []), (66, 129, .goto 4, 3, [68]), (67, 132, .iconst 0, 1, []), (68, 133, .ireturn, 1, [5])]
set_option maxRecDepth 20000 in
def kX12_readLine : List INS := [(0, 0, .aload_n 0, 1, []), (1, 1, .getfield 232, 3, [12, 10, 1, 1345, 0]), (2, 4, .lstore_n 1, 1, []), (3, 5, .aload_n 0, 1, []), (4, 6, .getfield 225, 3, [12, 8, 0, 1343, 0]), (5, 9, .iconst 3, 1, []), (6, 10, .if_icmp .ne 10, 3, [10]), (7, 13, .aload_n 0, 1, []), (8, 14, .invokevirtual 293, 3, [1, 170, 0, 5, 0, 0, 12, 1608, 1610, 50, 137, 1611]), (9, 17, .ifCond .eq 7, 3, [12]), (10, 20, .aload_n 0, 1, []), (11, 21, .invokevirtual 260, 3, [1, 163, 0, 9, 0, 0, 12, 1620, 1622, 53, 137, 1623]), (12, 24, .aload_n 0, 1, []), (13, 25, .invokevirtual 253, 3, [1, 157, 0, 5, 0, 0, 12, 1600, 1602, 48, 137, 1603]), (14, 28, .ifCond .ne 4, 3, [16]), (15, 31, .return_, 1, []), (16, 32, .aload_n 0, 1, []), (17, 33, .invokevirtual 289, 3, [1, 169, 0, 0, 0, 0, 12, 1612, 1614, 51, 137, 1615]), (18, 36, .istore_n 3, 1, []), (19, 37, .aload_n 0, 1, []), (20, 38, .invokevirtual 257, 3, [1, 160, 0, 9, 0, 0, 12, 1562, 1564, 46, 137, 1565]), (21, 41, .iload_n 3, 1, []), (22, 42, .ifCond .lt 11, 3, [27]), (23, 45, .aload_n 0, 1, []), (24, 46, .iload_n 3, 1, []), (25, 47, .invokevirtual 296, 3, [1, 177, 1, 9, 0, 0, 12, 1628, 1630, 55, 137, 1631]), (26, 50, .goto 37, 3, [43]), (27, 53, .lload_n 1, 1, []), (28, 54, .ldc2_w 197, 3, [7823737, 1585]), (29, 57, .lcmp, 1, []), (30, 58, .ifCond .ne 10, 3, [34]), (31, 61, .aload_n 0, 1, []), (32, 62, .invokevirtual 300, 3, [1, 179, 0, 9, 0, 0, 12, 1648, 1650, 60, 137, 1651]), (33, 65, .goto 22, 3, [43]), (34, 68, .lload_n 1, 1, []), (35, 69, .ldc2_w 203, 3, [427020085613, 1588]), (36, 72, .lcmp, 1, []), (37, 73, .ifCond .ne 10, 3, [41]), (38, 76, .aload_n 0, 1, []), (39, 77, .invokevirtual 303, 3, [1, 180, 0, 9, 0, 0, 12, 1668, 1670, 65, 137, 1671]), (40, 80, .goto 7, 3, [43]), (41, 83, .aload_n 0, 1, []), (42, 84, .invokevirtual 306, 3, [1, 172, 0, 9, 0, 0, 12, 1712, 1714, 76, 137, 1715]), (43, 87, .aload_n 0, 1, []), (44, 88, .aload_n 0, 1, []), (45, 89, .bipush 59, 2, []), (46, 91, .invokevirtual 309, 3, [1, 161, 1, 5, 0, 0, 12, 1688, 1690, 70, 137, 1691]), (47, 94, .invokevirtual 266, 3, [1, 164, 1, 9, 0, 0, 12, 1660, 1662, 63, 137, 1663]), (48, 97, .return_, 1, [])]
set_option maxRecDepth 20000 in
def kX12_readDraw : List INS := [(0, 0, .aload_n 0, 1, []), (1, 1, .getfield 72, 3, [12, 28, 2, 1363, 1]), (2, 4, .aload_n 0, 1, []), (3, 5, .getfield 274, 3, [12, 37, 0, 1372, 0]), (4, 8, .iconst 1, 1, []), (5, 9, .bastore, 1, [103]), (6, 10, .aload_n 0, 1, []), (7, 11, .getfield 36, 3, [12, 16, 2, 1351, 1]), (8, 14, .aload_n 0, 1, []), (9, 15, .getfield 274, 3, [12, 37, 0, 1372, 0]), (10, 18, .aload_n 0, 1, []), (11, 19, .iconst 0, 1, []), (12, 20, .sipush 999, 3, []), (13, 23, .invokevirtual 270, 3, [1, 165, 2, 0, 0, 0, 12, 1644, 1646, 59, 137, 1647]), (14, 26, .iastore, 1, []), (15, 27, .return_, 1, [])]
set_option maxRecDepth 20000 in
def kX12_here : List INS := [(0, 0, .iconst 0, 1, []), (1, 1, .istore 4, 2, []), (2, 3, .iload 4, 2, []), (3, 5, .iload_n 3, 1, []), (4, 6, .if_icmp .ge 34, 3, [22]), (5, 9, .aload_n 0, 1, []), (6, 10, .getfield 225, 3, [12, 8, 0, 1343, 0]), (7, 13, .iconst 2, 1, []), (8, 14, .if_icmp .ne 20, 3, [20]), (9, 17, .aload_n 1, 1, []), (10, 18, .iload_n 2, 1, []), (11, 19, .iload 4, 2, []), (12, 21, .iadd, 1, []), (13, 22, .laload, 1, []), (14, 23, .aload_n 0, 1, []), (15, 24, .getfield 232, 3, [12, 10, 1, 1345, 0]), (16, 27, .lcmp, 1, []), (17, 28, .ifCond .ne 6, 3, [20]), (18, 31, .iload 4, 2, []), (19, 33, .ireturn, 1, [0]), (20, 34, .iinc 4 1, 3, []), (21, 37, .goto (-34), 3, [2]), (22, 40, .iconst (-1), 1, []), (23, 41, .ireturn, 1, [0])]
set_option maxRecDepth 20000 in
def kX12_towerHere : List INS := [(0, 0, .aload_n 0, 1, []), (1, 1, .aload_n 0, 1, []), (2, 2, .getfield 76, 3, [12, 29, 2, 1364, 1]), (3, 5, .bipush 10, 2, []), (4, 7, .aload_n 0, 1, []), (5, 8, .getfield 274, 3, [12, 37, 0, 1372, 0]), (6, 11, .imul, 1, []), (7, 12, .aload_n 0, 1, []), (8, 13, .getfield 20, 3, [12, 11, 2, 1346, 1]), (9, 16, .aload_n 0, 1, []), (10, 17, .getfield 274, 3, [12, 37, 0, 1372, 0]), (11, 20, .iaload, 1, []), (12, 21, .invokevirtual 312, 3, [1, 173, 3, 0, 0, 0, 12, 1636, 1638, 57, 137, 1639]), (13, 24, .ireturn, 1, [0])]
set_option maxRecDepth 20000 in
def kX12_fresh : List INS := [(0, 0, .aload_n 0, 1, []), (1, 1, .invokevirtual 253, 3, [1, 157, 0, 5, 0, 0, 12, 1600, 1602, 48, 137, 1603]), (2, 4, .ifCond .ne 5, 3, [5]), (3, 7, .lconst 0, 1, []), (4, 8, .lreturn, 1, []), (5, 9, .aload_n 0, 1, []), (6, 10, .getfield 225, 3, [12, 8, 0, 1343, 0]), (7, 13, .iconst 2, 1, []), (8, 14, .if_icmp .eq 10, 3, [12]), (9, 17, .aload_n 0, 1, []), (10, 18, .invokevirtual 260, 3, [1, 163, 0, 9, 0, 0, 12, 1620, 1622, 53, 137, 1623]), (11, 21, .goto 16, 3, [19]), (12, 24, .iload_n 1, 1, []), (13, 25, .ifCond .lt 12, 3, [19]), (14, 28, .aload_n 0, 1, []), (15, 29, .iconst 3, 1, []), (16, 30, .aload_n 0, 1, []), (17, 31, .getfield 218, 3, [12, 6, 0, 1341, 0]), (18, 34, .invokevirtual 249, 3, [1, 156, 2, 9, 0, 0, 12, 1624, 1626, 54, 137, 1627]), (19, 37, .aload_n 0, 1, []), (20, 38, .getfield 232, 3, [12, 10, 1, 1345, 0]), (21, 41, .lstore_n 2, 1, []), (22, 42, .aload_n 0, 1, []), (23, 43, .invokevirtual 253, 3, [1, 157, 0, 5, 0, 0, 12, 1600, 1602, 48, 137, 1603]), (24, 46, .ifCond .eq 7, 3, [27]), (25, 49, .aload_n 0, 1, []), (26, 50, .invokevirtual 257, 3, [1, 160, 0, 9, 0, 0, 12, 1562, 1564, 46, 137, 1565]), (27, 53, .lload_n 2, 1, []), (28, 54, .lreturn, 1, [])]
set_option maxRecDepth 20000 in
def kX12_known : List INS := [(0, 0, .aload_n 0, 1, []), (1, 1, .invokevirtual 253, 3, [1, 157, 0, 5, 0, 0, 12, 1600, 1602, 48, 137, 1603]), (2, 4, .ifCond .ne 5, 3, [5]), (3, 7, .iconst 0, 1, []), (4, 8, .ireturn, 1, [0]), (5, 9, .aload_n 0, 1, []), (6, 10, .invokevirtual 316, 3, [1, 174, 0, 0, 0, 0, 12, 1632, 1634, 56, 137, 1635]), (7, 13, .istore_n 1, 1, []), (8, 14, .aload_n 0, 1, []), (9, 15, .getfield 225, 3, [12, 8, 0, 1343, 0]), (10, 18, .iconst 2, 1, []), (11, 19, .if_icmp .eq 10, 3, [15]), (12, 22, .aload_n 0, 1, []), (13, 23, .invokevirtual 260, 3, [1, 163, 0, 9, 0, 0, 12, 1620, 1622, 53, 137, 1623]), (14, 26, .goto 16, 3, [22]), (15, 29, .iload_n 1, 1, []), (16, 30, .ifCond .ge 12, 3, [22]), (17, 33, .aload_n 0, 1, []), (18, 34, .iconst 5, 1, []), (19, 35, .aload_n 0, 1, []), (20, 36, .getfield 218, 3, [12, 6, 0, 1341, 0]), (21, 39, .invokevirtual 249, 3, [1, 156, 2, 9, 0, 0, 12, 1624, 1626, 54, 137, 1627]), (22, 42, .iload_n 1, 1, []), (23, 43, .ifCond .ge 7, 3, [26]), (24, 46, .iconst 0, 1, []), (25, 47, .goto 4, 3, [27]), (26, 50, .iload_n 1, 1, []), (27, 51, .ireturn, 1, [0])]
set_option maxRecDepth 20000 in
def kX12_readTower : List INS := [(0, 0, .bipush 10, 2, []), (1, 2, .aload_n 0, 1, []), (2, 3, .getfield 274, 3, [12, 37, 0, 1372, 0]), (3, 6, .imul, 1, []), (4, 7, .aload_n 0, 1, []), (5, 8, .getfield 20, 3, [12, 11, 2, 1346, 1]), (6, 11, .aload_n 0, 1, []), (7, 12, .getfield 274, 3, [12, 37, 0, 1372, 0]), (8, 15, .iaload, 1, []), (9, 16, .iadd, 1, []), (10, 17, .istore_n 2, 1, []), (11, 18, .aload_n 0, 1, []), (12, 19, .getfield 76, 3, [12, 29, 2, 1364, 1]), (13, 22, .iload_n 2, 1, []), (14, 23, .aload_n 0, 1, []), (15, 24, .aload_n 0, 1, []), (16, 25, .invokevirtual 316, 3, [1, 174, 0, 0, 0, 0, 12, 1632, 1634, 56, 137, 1635]), (17, 28, .invokevirtual 319, 3, [1, 175, 1, 1, 0, 0, 12, 1640, 1642, 58, 137, 1643]), (18, 31, .lastore, 1, []), (19, 32, .aload_n 0, 1, []), (20, 33, .getfield 39, 3, [12, 17, 2, 1352, 1]), (21, 36, .iload_n 2, 1, []), (22, 37, .iload_n 1, 1, []), (23, 38, .iastore, 1, []), (24, 39, .aload_n 0, 1, []), (25, 40, .getfield 42, 3, [12, 18, 2, 1353, 1]), (26, 43, .iload_n 2, 1, []), (27, 44, .iload_n 1, 1, []), (28, 45, .iconst 5, 1, []), (29, 46, .if_icmp .lt 13, 3, [35]), (30, 49, .aload_n 0, 1, []), (31, 50, .iconst 1, 1, []), (32, 51, .bipush 99, 2, []), (33, 53, .invokevirtual 270, 3, [1, 165, 2, 0, 0, 0, 12, 1644, 1646, 59, 137, 1647]), (34, 56, .goto 4, 3, [36]), (35, 59, .iconst 0, 1, []), (36, 60, .iastore, 1, []), (37, 61, .aload_n 0, 1, []), (38, 62, .getfield 57, 3, [12, 23, 2, 1358, 1]), (39, 65, .iload_n 2, 1, []), (40, 66, .iconst (-1), 1, []), (41, 67, .iastore, 1, []), (42, 68, .aload_n 0, 1, []), (43, 69, .getfield 60, 3, [12, 24, 2, 1359, 1]), (44, 72, .iload_n 2, 1, []), (45, 73, .iconst (-1), 1, []), (46, 74, .iastore, 1, []), (47, 75, .iload_n 1, 1, []), (48, 76, .ifCond .ne 46, 3, [76]), (49, 79, .aload_n 0, 1, []), (50, 80, .getfield 45, 3, [12, 19, 2, 1354, 1]), (51, 83, .iconst 3, 1, []), (52, 84, .aload_n 0, 1, []), (53, 85, .getfield 274, 3, [12, 37, 0, 1372, 0]), (54, 88, .imul, 1, []), (55, 89, .aload_n 0, 1, []), (56, 90, .getfield 24, 3, [12, 12, 2, 1347, 1]), (57, 93, .aload_n 0, 1, []), (58, 94, .getfield 274, 3, [12, 37, 0, 1372, 0]), (59, 97, .iaload, 1, []), (60, 98, .iadd, 1, []), (61, 99, .aload_n 0, 1, []), (62, 100, .getfield 20, 3, [12, 11, 2, 1346, 1]), (63, 103, .aload_n 0, 1, []), (64, 104, .getfield 274, 3, [12, 37, 0, 1372, 0]), (65, 107, .iaload, 1, []), (66, 108, .iastore, 1, []), (67, 109, .aload_n 0, 1, []), (68, 110, .getfield 24, 3, [12, 12, 2, 1347, 1]), (69, 113, .aload_n 0, 1, []), (70, 114, .getfield 274, 3, [12, 37, 0, 1372, 0]), (71, 117, .dup2, 1, []), (72, 118, .iaload, 1, []), (73, 119, .iconst 1, 1, []), (74, 120, .iadd, 1, []), (75, 121, .iastore, 1, []), (76, 122, .aload_n 0, 1, []), (77, 123, .getfield 20, 3, [12, 11, 2, 1346, 1]), (78, 126, .aload_n 0, 1, []), (79, 127, .getfield 274, 3, [12, 37, 0, 1372, 0]), (80, 130, .dup2, 1, []), (81, 131, .iaload, 1, []), (82, 132, .iconst 1, 1, []), (83, 133, .iadd, 1, []), (84, 134, .iastore, 1, []), (85, 135, .return_, 1, [])]
set_option maxRecDepth 20000 in
def kX12_canBegin : List INS := [(0, 0, .aload_n 0, 1, []), (1, 1, .getfield 39, 3, [12, 17, 2, 1352, 1]), (2, 4, .iload_n 1, 1, []), (3, 5, .iaload, 1, []), (4, 6, .istore_n 2, 1, []), (5, 7, .iload_n 2, 1, []), (6, 8, .iconst 4, 1, []), (7, 9, .if_icmp .ne 5, 3, [10]), (8, 12, .iconst 0, 1, []), (9, 13, .ireturn, 1, [5]), (10, 14, .aload_n 0, 1, []), (11, 15, .getfield 57, 3, [12, 23, 2, 1358, 1]), (12, 18, .iload_n 1, 1, []), (13, 19, .iaload, 1, []), (14, 20, .ifCond .lt 22, 3, [26]), (15, 23, .iload_n 2, 1, []), (16, 24, .iconst 2, 1, []), (17, 25, .if_icmp .eq 8, 3, [21]), (18, 28, .iload_n 2, 1, []), (19, 29, .iconst 3, 1, []), (20, 30, .if_icmp .ne 16, 3, [28]), (21, 33, .aload_n 0, 1, []), (22, 34, .getfield 60, 3, [12, 24, 2, 1359, 1]), (23, 37, .iload_n 1, 1, []), (24, 38, .iaload, 1, []), (25, 39, .ifCond .ge 7, 3, [28]), (26, 42, .iconst 1, 1, []), (27, 43, .goto 4, 3, [29]), (28, 46, .iconst 0, 1, []), (29, 47, .ireturn, 1, [5])]
set_option maxRecDepth 20000 in
def kX12_readWay : List INS := [(0, 0, .bipush 16, 2, []), (1, 2, .aload_n 0, 1, []), (2, 3, .getfield 274, 3, [12, 37, 0, 1372, 0]), (3, 6, .imul, 1, []), (4, 7, .aload_n 0, 1, []), (5, 8, .getfield 27, 3, [12, 13, 2, 1348, 1]), (6, 11, .aload_n 0, 1, []), (7, 12, .getfield 274, 3, [12, 37, 0, 1372, 0]), (8, 15, .iaload, 1, []), (9, 16, .iadd, 1, []), (10, 17, .istore_n 1, 1, []), (11, 18, .bipush 10, 2, []), (12, 20, .aload_n 0, 1, []), (13, 21, .getfield 274, 3, [12, 37, 0, 1372, 0]), (14, 24, .imul, 1, []), (15, 25, .aload_n 0, 1, []), (16, 26, .invokevirtual 323, 3, [1, 176, 0, 0, 0, 0, 12, 1652, 1654, 61, 137, 1655]), (17, 29, .iadd, 1, []), (18, 30, .istore_n 2, 1, []), (19, 31, .aload_n 0, 1, []), (20, 32, .invokevirtual 253, 3, [1, 157, 0, 5, 0, 0, 12, 1600, 1602, 48, 137, 1603]), (21, 35, .ifCond .eq 21, 3, [31]), (22, 38, .aload_n 0, 1, []), (23, 39, .iload_n 2, 1, []), (24, 40, .invokevirtual 326, 3, [1, 178, 1, 5, 0, 0, 12, 1656, 1658, 62, 137, 1659]), (25, 43, .ifCond .ne 13, 3, [31]), (26, 46, .aload_n 0, 1, []), (27, 47, .bipush 6, 2, []), (28, 49, .aload_n 0, 1, []), (29, 50, .getfield 218, 3, [12, 6, 0, 1341, 0]), (30, 53, .invokevirtual 249, 3, [1, 156, 2, 9, 0, 0, 12, 1624, 1626, 54, 137, 1627]), (31, 56, .aload_n 0, 1, []), (32, 57, .invokevirtual 253, 3, [1, 157, 0, 5, 0, 0, 12, 1600, 1602, 48, 137, 1603]), (33, 60, .ifCond .eq 7, 3, [36]), (34, 63, .aload_n 0, 1, []), (35, 64, .invokevirtual 257, 3, [1, 160, 0, 9, 0, 0, 12, 1562, 1564, 46, 137, 1565]), (36, 67, .aload_n 0, 1, []), (37, 68, .aload_n 0, 1, []), (38, 69, .ldc2_w 199, 3, [29807, 1586]), (39, 72, .invokevirtual 263, 3, [1, 162, 1, 5, 0, 0, 12, 1616, 1618, 52, 137, 1619]), (40, 75, .invokevirtual 266, 3, [1, 164, 1, 9, 0, 0, 12, 1660, 1662, 63, 137, 1663]), (41, 78, .aload_n 0, 1, []), (42, 79, .getfield 51, 3, [12, 21, 2, 1356, 1]), (43, 82, .iload_n 1, 1, []), (44, 83, .aload_n 0, 1, []), (45, 84, .invokevirtual 323, 3, [1, 176, 0, 0, 0, 0, 12, 1652, 1654, 61, 137, 1655]), (46, 87, .iastore, 1, []), (47, 88, .aload_n 0, 1, []), (48, 89, .invokevirtual 253, 3, [1, 157, 0, 5, 0, 0, 12, 1600, 1602, 48, 137, 1603]), (49, 92, .ifCond .eq 7, 3, [52]), (50, 95, .aload_n 0, 1, []), (51, 96, .invokevirtual 257, 3, [1, 160, 0, 9, 0, 0, 12, 1562, 1564, 46, 137, 1565]), (52, 99, .aload_n 0, 1, []), (53, 100, .getfield 54, 3, [12, 22, 2, 1357, 1]), (54, 103, .iload_n 1, 1, []), (55, 104, .aload_n 0, 1, []), (56, 105, .ldc2_w 201, 3, [26990, 1587]), (57, 108, .iconst 1, 1, []), (58, 109, .bipush 9, 2, []), (59, 111, .invokevirtual 329, 3, [1, 166, 3, 0, 0, 0, 12, 1664, 1666, 64, 137, 1667]), (60, 114, .iastore, 1, []), (61, 115, .aload_n 0, 1, []), (62, 116, .invokevirtual 253, 3, [1, 157, 0, 5, 0, 0, 12, 1600, 1602, 48, 137, 1603]), (63, 119, .ifCond .ne 4, 3, [65]), (64, 122, .return_, 1, []), (65, 123, .aload_n 0, 1, []), (66, 124, .getfield 48, 3, [12, 20, 2, 1355, 1]), (67, 127, .iload_n 1, 1, []), (68, 128, .iload_n 2, 1, []), (69, 129, .bipush 10, 2, []), (70, 131, .aload_n 0, 1, []), (71, 132, .getfield 274, 3, [12, 37, 0, 1372, 0]), (72, 135, .imul, 1, []), (73, 136, .isub, 1, []), (74, 137, .iastore, 1, []), (75, 138, .aload_n 0, 1, []), (76, 139, .getfield 57, 3, [12, 23, 2, 1358, 1]), (77, 142, .iload_n 2, 1, []), (78, 143, .iaload, 1, []), (79, 144, .ifCond .ge 21, 3, [90]), (80, 147, .aload_n 0, 1, []), (81, 148, .getfield 57, 3, [12, 23, 2, 1358, 1]), (82, 151, .iload_n 2, 1, []), (83, 152, .aload_n 0, 1, []), (84, 153, .getfield 27, 3, [12, 13, 2, 1348, 1]), (85, 156, .aload_n 0, 1, []), (86, 157, .getfield 274, 3, [12, 37, 0, 1372, 0]), (87, 160, .iaload, 1, []), (88, 161, .iastore, 1, []), (89, 162, .goto 18, 3, [99]), (90, 165, .aload_n 0, 1, []), (91, 166, .getfield 60, 3, [12, 24, 2, 1359, 1]), (92, 169, .iload_n 2, 1, []), (93, 170, .aload_n 0, 1, []), (94, 171, .getfield 27, 3, [12, 13, 2, 1348, 1]), (95, 174, .aload_n 0, 1, []), (96, 175, .getfield 274, 3, [12, 37, 0, 1372, 0]), (97, 178, .iaload, 1, []), (98, 179, .iastore, 1, []), (99, 180, .aload_n 0, 1, []), (100, 181, .getfield 27, 3, [12, 13, 2, 1348, 1]), (101, 184, .aload_n 0, 1, []), (102, 185, .getfield 274, 3, [12, 37, 0, 1372, 0]), (103, 188, .dup2, 1, []), (104, 189, .iaload, 1, []), (105, 190, .iconst 1, 1, []), (106, 191, .iadd, 1, []), (107, 192, .iastore, 1, []), (108, 193, .return_, 1, [])]
set_option maxRecDepth 20000 in
def kX12_readClaim : List INS := [(0, 0, .bipush 6, 2, []), (1, 2, .aload_n 0, 1, []), (2, 3, .getfield 274, 3, [12, 37, 0, 1372, 0]), (3, 6, .imul, 1, []), (4, 7, .aload_n 0, 1, []), (5, 8, .getfield 30, 3, [12, 14, 2, 1349, 1]), (6, 11, .aload_n 0, 1, []), (7, 12, .getfield 274, 3, [12, 37, 0, 1372, 0]), (8, 15, .iaload, 1, []), (9, 16, .iadd, 1, []), (10, 17, .istore_n 1, 1, []), (11, 18, .aload_n 0, 1, []), (12, 19, .getfield 80, 3, [12, 30, 2, 1365, 1]), (13, 22, .iload_n 1, 1, []), (14, 23, .aload_n 0, 1, []), (15, 24, .aload_n 0, 1, []), (16, 25, .aload_n 0, 1, []), (17, 26, .getfield 80, 3, [12, 30, 2, 1365, 1]), (18, 29, .bipush 6, 2, []), (19, 31, .aload_n 0, 1, []), (20, 32, .getfield 274, 3, [12, 37, 0, 1372, 0]), (21, 35, .imul, 1, []), (22, 36, .aload_n 0, 1, []), (23, 37, .getfield 30, 3, [12, 14, 2, 1349, 1]), (24, 40, .aload_n 0, 1, []), (25, 41, .getfield 274, 3, [12, 37, 0, 1372, 0]), (26, 44, .iaload, 1, []), (27, 45, .invokevirtual 312, 3, [1, 173, 3, 0, 0, 0, 12, 1636, 1638, 57, 137, 1639]), (28, 48, .invokevirtual 319, 3, [1, 175, 1, 1, 0, 0, 12, 1640, 1642, 58, 137, 1643]), (29, 51, .lastore, 1, []), (30, 52, .aload_n 0, 1, []), (31, 53, .aload_n 0, 1, []), (32, 54, .ldc2_w 205, 3, [24948, 1589]), (33, 57, .invokevirtual 263, 3, [1, 162, 1, 5, 0, 0, 12, 1616, 1618, 52, 137, 1619]), (34, 60, .invokevirtual 266, 3, [1, 164, 1, 9, 0, 0, 12, 1660, 1662, 63, 137, 1663]), (35, 63, .aload_n 0, 1, []), (36, 64, .getfield 63, 3, [12, 25, 2, 1360, 1]), (37, 67, .iload_n 1, 1, []), (38, 68, .aload_n 0, 1, []), (39, 69, .invokevirtual 323, 3, [1, 176, 0, 0, 0, 0, 12, 1652, 1654, 61, 137, 1655]), (40, 72, .iastore, 1, []), (41, 73, .aload_n 0, 1, []), (42, 74, .invokevirtual 253, 3, [1, 157, 0, 5, 0, 0, 12, 1600, 1602, 48, 137, 1603]), (43, 77, .ifCond .eq 36, 3, [63]), (44, 80, .aload_n 0, 1, []), (45, 81, .getfield 39, 3, [12, 17, 2, 1352, 1]), (46, 84, .bipush 10, 2, []), (47, 86, .aload_n 0, 1, []), (48, 87, .getfield 274, 3, [12, 37, 0, 1372, 0]), (49, 90, .imul, 1, []), (50, 91, .aload_n 0, 1, []), (51, 92, .getfield 63, 3, [12, 25, 2, 1360, 1]), (52, 95, .iload_n 1, 1, []), (53, 96, .iaload, 1, []), (54, 97, .iadd, 1, []), (55, 98, .iaload, 1, []), (56, 99, .iconst 4, 1, []), (57, 100, .if_icmp .eq 13, 3, [63]), (58, 103, .aload_n 0, 1, []), (59, 104, .bipush 6, 2, []), (60, 106, .aload_n 0, 1, []), (61, 107, .getfield 218, 3, [12, 6, 0, 1341, 0]), (62, 110, .invokevirtual 249, 3, [1, 156, 2, 9, 0, 0, 12, 1624, 1626, 54, 137, 1627]), (63, 113, .aload_n 0, 1, []), (64, 114, .invokevirtual 253, 3, [1, 157, 0, 5, 0, 0, 12, 1600, 1602, 48, 137, 1603]), (65, 117, .ifCond .eq 7, 3, [68]), (66, 120, .aload_n 0, 1, []), (67, 121, .invokevirtual 257, 3, [1, 160, 0, 9, 0, 0, 12, 1562, 1564, 46, 137, 1565]), (68, 124, .aload_n 0, 1, []), (69, 125, .invokevirtual 253, 3, [1, 157, 0, 5, 0, 0, 12, 1600, 1602, 48, 137, 1603]), (70, 128, .ifCond .eq 16, 3, [78]), (71, 131, .aload_n 0, 1, []), (72, 132, .aload_n 0, 1, []), (73, 133, .getfield 30, 3, [12, 14, 2, 1349, 1]), (74, 136, .aload_n 0, 1, []), (75, 137, .getfield 274, 3, [12, 37, 0, 1372, 0]), (76, 140, .iaload, 1, []), (77, 141, .invokevirtual 333, 3, [1, 181, 1, 9, 0, 0, 12, 1672, 1674, 66, 137, 1675]), (78, 144, .aload_n 0, 1, []), (79, 145, .getfield 30, 3, [12, 14, 2, 1349, 1]), (80, 148, .aload_n 0, 1, []), (81, 149, .getfield 274, 3, [12, 37, 0, 1372, 0]), (82, 152, .dup2, 1, []), (83, 153, .iaload, 1, []), (84, 154, .iconst 1, 1, []), (85, 155, .iadd, 1, []), (86, 156, .iastore, 1, []), (87, 157, .return_, 1, [])]
set_option maxRecDepth 20000 in
def kX12_readRule : List INS := [(0, 0, .aload_n 0, 1, []), (1, 1, .iconst 0, 1, []), (2, 2, .putfield 336, 3, [12, 41, 0, 1376, 0]), (3, 5, .aload_n 0, 1, []), (4, 6, .getfield 66, 3, [12, 26, 2, 1361, 1]), (5, 9, .bipush 6, 2, []), (6, 11, .aload_n 0, 1, []), (7, 12, .getfield 274, 3, [12, 37, 0, 1372, 0]), (8, 15, .imul, 1, []), (9, 16, .iload_n 1, 1, []), (10, 17, .iadd, 1, []), (11, 18, .aload_n 0, 1, []), (12, 19, .getfield 277, 3, [12, 38, 0, 1373, 0]), (13, 22, .iastore, 1, []), (14, 23, .aload_n 0, 1, []), (15, 24, .invokevirtual 339, 3, [1, 184, 0, 9, 0, 0, 12, 1676, 1678, 67, 137, 1679]), (16, 27, .aload_n 0, 1, []), (17, 28, .getfield 69, 3, [12, 27, 2, 1362, 1]), (18, 31, .bipush 6, 2, []), (19, 33, .aload_n 0, 1, []), (20, 34, .getfield 274, 3, [12, 37, 0, 1372, 0]), (21, 37, .imul, 1, []), (22, 38, .iload_n 1, 1, []), (23, 39, .iadd, 1, []), (24, 40, .aload_n 0, 1, []), (25, 41, .getfield 277, 3, [12, 38, 0, 1373, 0]), (26, 44, .iastore, 1, []), (27, 45, .return_, 1, [])]
set_option maxRecDepth 20000 in
def kX12_emit : List INS := [(0, 0, .aload_n 0, 1, []), (1, 1, .getfield 83, 3, [12, 31, 2, 1366, 1]), (2, 4, .aload_n 0, 1, []), (3, 5, .getfield 277, 3, [12, 38, 0, 1373, 0]), (4, 8, .iload_n 1, 1, []), (5, 9, .iastore, 1, []), (6, 10, .aload_n 0, 1, []), (7, 11, .getfield 86, 3, [12, 32, 2, 1367, 1]), (8, 14, .aload_n 0, 1, []), (9, 15, .getfield 277, 3, [12, 38, 0, 1373, 0]), (10, 18, .iload_n 2, 1, []), (11, 19, .iastore, 1, []), (12, 20, .aload_n 0, 1, []), (13, 21, .dup, 1, []), (14, 22, .getfield 277, 3, [12, 38, 0, 1373, 0]), (15, 25, .iconst 1, 1, []), (16, 26, .iadd, 1, []), (17, 27, .putfield 277, 3, [12, 38, 0, 1373, 0]), (18, 30, .return_, 1, [])]
set_option maxRecDepth 20000 in
def kX12_pushE : List INS := [(0, 0, .aload_n 0, 1, []), (1, 1, .getfield 89, 3, [12, 33, 2, 1368, 1]), (2, 4, .aload_n 0, 1, []), (3, 5, .getfield 342, 3, [12, 40, 0, 1375, 0]), (4, 8, .iload_n 1, 1, []), (5, 9, .iastore, 1, []), (6, 10, .aload_n 0, 1, []), (7, 11, .getfield 92, 3, [12, 34, 2, 1369, 1]), (8, 14, .aload_n 0, 1, []), (9, 15, .getfield 342, 3, [12, 40, 0, 1375, 0]), (10, 18, .iload_n 2, 1, []), (11, 19, .iastore, 1, []), (12, 20, .aload_n 0, 1, []), (13, 21, .dup, 1, []), (14, 22, .getfield 342, 3, [12, 40, 0, 1375, 0]), (15, 25, .iconst 1, 1, []), (16, 26, .iadd, 1, []), (17, 27, .putfield 342, 3, [12, 40, 0, 1375, 0]), (18, 30, .return_, 1, [])]
set_option maxRecDepth 20000 in
def kX12_e : List INS := [(0, 0, .aload_n 0, 1, []), (1, 1, .iconst 0, 1, []), (2, 2, .putfield 342, 3, [12, 40, 0, 1375, 0]), (3, 5, .aload_n 0, 1, []), (4, 6, .iconst 0, 1, []), (5, 7, .putfield 345, 3, [12, 39, 0, 1374, 0]), (6, 10, .aload_n 0, 1, []), (7, 11, .bipush 8, 2, []), (8, 13, .iconst 0, 1, []), (9, 14, .invokevirtual 348, 3, [1, 183, 2, 9, 0, 0, 12, 1680, 1682, 68, 137, 1683]), (10, 17, .iconst 1, 1, []), (11, 18, .istore_n 1, 1, []), (12, 19, .aload_n 0, 1, []), (13, 20, .invokevirtual 253, 3, [1, 157, 0, 5, 0, 0, 12, 1600, 1602, 48, 137, 1603]), (14, 23, .ifCond .eq 29, 3, [27]), (15, 26, .aload_n 0, 1, []), (16, 27, .getfield 342, 3, [12, 40, 0, 1375, 0]), (17, 30, .ifCond .le 22, 3, [27]), (18, 33, .iload_n 1, 1, []), (19, 34, .ifCond .eq 10, 3, [23]), (20, 37, .aload_n 0, 1, []), (21, 38, .invokevirtual 351, 3, [1, 186, 0, 5, 0, 0, 12, 1684, 1686, 69, 137, 1687]), (22, 41, .goto 7, 3, [25]), (23, 44, .aload_n 0, 1, []), (24, 45, .invokevirtual 354, 3, [1, 189, 0, 5, 0, 0, 12, 1700, 1702, 73, 137, 1703]), (25, 48, .istore_n 1, 1, []), (26, 49, .goto (-30), 3, [12]), (27, 52, .return_, 1, [])]
set_option maxRecDepth 20000 in
def kX12_startHere : List INS := [(0, 0, .aload_n 0, 1, []), (1, 1, .invokevirtual 316, 3, [1, 174, 0, 0, 0, 0, 12, 1632, 1634, 56, 137, 1635]), (2, 4, .istore_n 1, 1, []), (3, 5, .iconst 0, 1, []), (4, 6, .istore_n 2, 1, []), (5, 7, .iload_n 2, 1, []), (6, 8, .aload_n 0, 1, []), (7, 9, .getfield 24, 3, [12, 12, 2, 1347, 1]), (8, 12, .aload_n 0, 1, []), (9, 13, .getfield 274, 3, [12, 37, 0, 1372, 0]), (10, 16, .iaload, 1, []), (11, 17, .if_icmp .ge 32, 3, [29]), (12, 20, .iload_n 1, 1, []), (13, 21, .ifCond .lt 22, 3, [27]), (14, 24, .aload_n 0, 1, []), (15, 25, .getfield 45, 3, [12, 19, 2, 1354, 1]), (16, 28, .iconst 3, 1, []), (17, 29, .aload_n 0, 1, []), (18, 30, .getfield 274, 3, [12, 37, 0, 1372, 0]), (19, 33, .imul, 1, []), (20, 34, .iload_n 2, 1, []), (21, 35, .iadd, 1, []), (22, 36, .iaload, 1, []), (23, 37, .iload_n 1, 1, []), (24, 38, .if_icmp .ne 5, 3, [27]), (25, 41, .iload_n 2, 1, []), (26, 42, .ireturn, 1, [0]), (27, 43, .iinc 2 1, 3, []), (28, 46, .goto (-39), 3, [5]), (29, 49, .iconst (-1), 1, []), (30, 50, .ireturn, 1, [0])]
set_option maxRecDepth 20000 in
def kX12_unit : List INS := [(0, 0, .aload_n 0, 1, []), (1, 1, .getfield 89, 3, [12, 33, 2, 1368, 1]), (2, 4, .aload_n 0, 1, []), (3, 5, .getfield 342, 3, [12, 40, 0, 1375, 0]), (4, 8, .iconst 1, 1, []), (5, 9, .isub, 1, []), (6, 10, .iaload, 1, []), (7, 11, .iconst 3, 1, []), (8, 12, .if_icmp .le 19, 3, [18]), (9, 15, .aload_n 0, 1, []), (10, 16, .getfield 89, 3, [12, 33, 2, 1368, 1]), (11, 19, .aload_n 0, 1, []), (12, 20, .getfield 342, 3, [12, 40, 0, 1375, 0]), (13, 23, .iconst 1, 1, []), (14, 24, .isub, 1, []), (15, 25, .iaload, 1, []), (16, 26, .bipush 7, 2, []), (17, 28, .if_icmp .lt 7, 3, [20]), (18, 31, .iconst 1, 1, []), (19, 32, .goto 4, 3, [21]), (20, 35, .iconst 0, 1, []), (21, 36, .istore_n 1, 1, []), (22, 37, .iload_n 1, 1, []), (23, 38, .ifCond .eq 17, 3, [30]), (24, 41, .aload_n 0, 1, []), (25, 42, .ldc2_w 213, 3, [7237492, 1593]), (26, 45, .invokevirtual 263, 3, [1, 162, 1, 5, 0, 0, 12, 1616, 1618, 52, 137, 1619]), (27, 48, .ifCond .eq 7, 3, [30]), (28, 51, .iconst 1, 1, []), (29, 52, .goto 4, 3, [31]), (30, 55, .iconst 0, 1, []), (31, 56, .istore_n 2, 1, []), (32, 57, .aload_n 0, 1, []), (33, 58, .bipush 40, 2, []), (34, 60, .invokevirtual 309, 3, [1, 161, 1, 5, 0, 0, 12, 1688, 1690, 70, 137, 1691]), (35, 63, .istore_n 3, 1, []), (36, 64, .aload_n 0, 1, []), (37, 65, .getfield 225, 3, [12, 8, 0, 1343, 0]), (38, 68, .iconst 2, 1, []), (39, 69, .if_icmp .ne 7, 3, [42]), (40, 72, .iconst 1, 1, []), (41, 73, .goto 4, 3, [43]), (42, 76, .iconst 0, 1, []), (43, 77, .istore 4, 2, []), (44, 79, .aload_n 0, 1, []), (45, 80, .getfield 33, 3, [12, 15, 2, 1350, 1]), (46, 83, .aload_n 0, 1, []), (47, 84, .getfield 274, 3, [12, 37, 0, 1372, 0]), (48, 87, .iaload, 1, []), (49, 88, .bipush 90, 2, []), (50, 90, .if_icmp .eq 12, 3, [55]), (51, 93, .aload_n 0, 1, []), (52, 94, .getfield 336, 3, [12, 41, 0, 1376, 0]), (53, 97, .bipush 30, 2, []), (54, 99, .if_icmp .ne 7, 3, [57]), (55, 102, .iconst 1, 1, []), (56, 103, .goto 4, 3, [58]), (57, 106, .iconst 0, 1, []), (58, 107, .istore 5, 2, []), (59, 109, .iload_n 2, 1, []), (60, 110, .ifCond .ne 25, 3, [71]), (61, 113, .iload 4, 2, []), (62, 115, .ifCond .ne 15, 3, [69]), (63, 118, .aload_n 0, 1, []), (64, 119, .getfield 225, 3, [12, 8, 0, 1343, 0]), (65, 122, .iconst 4, 1, []), (66, 123, .if_icmp .eq 7, 3, [69]), (67, 126, .iload_n 3, 1, []), (68, 127, .ifCond .eq 25, 3, [79]), (69, 130, .iload 5, 2, []), (70, 132, .ifCond .ne 20, 3, [79]), (71, 135, .iload_n 2, 1, []), (72, 136, .ifCond .ne 7, 3, [75]), (73, 139, .iload_n 3, 1, []), (74, 140, .ifCond .eq 16, 3, [81]), (75, 143, .aload_n 0, 1, []), (76, 144, .getfield 345, 3, [12, 39, 0, 1374, 0]), (77, 147, .bipush 7, 2, []), (78, 149, .if_icmp .ne 7, 3, [81]), (79, 152, .aload_n 0, 1, []), (80, 153, .invokevirtual 260, 3, [1, 163, 0, 9, 0, 0, 12, 1620, 1622, 53, 137, 1623]), (81, 156, .aload_n 0, 1, []), (82, 157, .invokevirtual 253, 3, [1, 157, 0, 5, 0, 0, 12, 1600, 1602, 48, 137, 1603]), (83, 160, .ifCond .eq 24, 3, [94]), (84, 163, .iload 4, 2, []), (85, 165, .ifCond .eq 19, 3, [94]), (86, 168, .aload_n 0, 1, []), (87, 169, .invokevirtual 357, 3, [1, 185, 0, 0, 0, 0, 12, 1692, 1694, 71, 137, 1695]), (88, 172, .ifCond .ge 12, 3, [94]), (89, 175, .aload_n 0, 1, []), (90, 176, .iconst 5, 1, []), (91, 177, .aload_n 0, 1, []), (92, 178, .getfield 218, 3, [12, 6, 0, 1341, 0]), (93, 181, .invokevirtual 249, 3, [1, 156, 2, 9, 0, 0, 12, 1624, 1626, 54, 137, 1627]), (94, 184, .aload_n 0, 1, []), (95, 185, .invokevirtual 253, 3, [1, 157, 0, 5, 0, 0, 12, 1600, 1602, 48, 137, 1603]), (96, 188, .ifCond .ne 5, 3, [99]), (97, 191, .iconst 1, 1, []), (98, 192, .ireturn, 1, [5]), (99, 193, .aload_n 0, 1, []), (100, 194, .getfield 33, 3, [12, 15, 2, 1350, 1]), (101, 197, .aload_n 0, 1, []), (102, 198, .getfield 274, 3, [12, 37, 0, 1372, 0]), (103, 201, .dup2, 1, []), (104, 202, .iaload, 1, []), (105, 203, .iload_n 2, 1, []), (106, 204, .ifCond .eq 7, 3, [109]), (107, 207, .iconst 0, 1, []), (108, 208, .goto 4, 3, [110]), (109, 211, .iconst 1, 1, []), (110, 212, .iadd, 1, []), (111, 213, .iastore, 1, []), (112, 214, .aload_n 0, 1, []), (113, 215, .dup, 1, []), (114, 216, .getfield 336, 3, [12, 41, 0, 1376, 0]), (115, 219, .iload_n 2, 1, []), (116, 220, .ifCond .eq 7, 3, [119]), (117, 223, .iconst 0, 1, []), (118, 224, .goto 4, 3, [120]), (119, 227, .iconst 1, 1, []), (120, 228, .iadd, 1, []), (121, 229, .putfield 336, 3, [12, 41, 0, 1376, 0]), (122, 232, .iload 4, 2, []), (123, 234, .ifCond .eq 10, 3, [127]), (124, 237, .aload_n 0, 1, []), (125, 238, .invokevirtual 357, 3, [1, 185, 0, 0, 0, 0, 12, 1692, 1694, 71, 137, 1695]), (126, 241, .goto 7, 3, [129]), (127, 244, .aload_n 0, 1, []), (128, 245, .getfield 243, 3, [12, 9, 0, 1344, 0]), (129, 248, .istore 6, 2, []), (130, 250, .aload_n 0, 1, []), (131, 251, .invokevirtual 257, 3, [1, 160, 0, 9, 0, 0, 12, 1562, 1564, 46, 137, 1565]), (132, 254, .iload_n 2, 1, []), (133, 255, .ifCond .ne 7, 3, [136]), (134, 258, .iload_n 3, 1, []), (135, 259, .ifCond .eq 31, 3, [152]), (136, 262, .aload_n 0, 1, []), (137, 263, .iload_n 2, 1, []), (138, 264, .ifCond .eq 7, 3, [141]), (139, 267, .iconst 3, 1, []), (140, 268, .goto 5, 3, [142]), (141, 271, .bipush 7, 2, []), (142, 273, .bipush 126, 2, []), (143, 275, .invokevirtual 348, 3, [1, 183, 2, 9, 0, 0, 12, 1680, 1682, 68, 137, 1683]), (144, 278, .aload_n 0, 1, []), (145, 279, .dup, 1, []), (146, 280, .getfield 345, 3, [12, 39, 0, 1374, 0]), (147, 283, .iconst 1, 1, []), (148, 284, .iadd, 1, []), (149, 285, .putfield 345, 3, [12, 39, 0, 1374, 0]), (150, 288, .iconst 1, 1, []), (151, 289, .ireturn, 1, [5]), (152, 290, .aload_n 0, 1, []), (153, 291, .iload 4, 2, []), (154, 293, .ifCond .eq 8, 3, [157]), (155, 296, .bipush 115, 2, []), (156, 298, .goto 5, 3, [158]), (157, 301, .bipush 110, 2, []), (158, 303, .iload 6, 2, []), (159, 305, .invokevirtual 360, 3, [1, 182, 2, 9, 0, 0, 12, 1696, 1698, 72, 137, 1699]), (160, 308, .iconst 0, 1, []), (161, 309, .ireturn, 1, [5])]
set_option maxRecDepth 20000 in
def kX12_rankHere : List INS := [(0, 0, .aload_n 0, 1, []), (1, 1, .ldc2_w 211, 3, [6385252, 1592]), (2, 4, .invokevirtual 263, 3, [1, 162, 1, 5, 0, 0, 12, 1616, 1618, 52, 137, 1619]), (3, 7, .ifCond .eq 5, 3, [6]), (4, 10, .iconst 2, 1, []), (5, 11, .ireturn, 1, [0]), (6, 12, .aload_n 0, 1, []), (7, 13, .ldc2_w 209, 3, [28530, 1591]), (8, 16, .invokevirtual 263, 3, [1, 162, 1, 5, 0, 0, 12, 1616, 1618, 52, 137, 1619]), (9, 19, .ifCond .eq 5, 3, [12]), (10, 22, .iconst 1, 1, []), (11, 23, .ireturn, 1, [0]), (12, 24, .aload_n 0, 1, []), (13, 25, .bipush 60, 2, []), (14, 27, .invokevirtual 309, 3, [1, 161, 1, 5, 0, 0, 12, 1688, 1690, 70, 137, 1691]), (15, 30, .ifCond .ne 21, 3, [24]), (16, 33, .aload_n 0, 1, []), (17, 34, .bipush 62, 2, []), (18, 36, .invokevirtual 309, 3, [1, 161, 1, 5, 0, 0, 12, 1688, 1690, 70, 137, 1691]), (19, 39, .ifCond .ne 12, 3, [24]), (20, 42, .aload_n 0, 1, []), (21, 43, .bipush 61, 2, []), (22, 45, .invokevirtual 309, 3, [1, 161, 1, 5, 0, 0, 12, 1688, 1690, 70, 137, 1691]), (23, 48, .ifCond .eq 5, 3, [26]), (24, 51, .iconst 4, 1, []), (25, 52, .ireturn, 1, [0]), (26, 53, .aload_n 0, 1, []), (27, 54, .bipush 43, 2, []), (28, 56, .invokevirtual 309, 3, [1, 161, 1, 5, 0, 0, 12, 1688, 1690, 70, 137, 1691]), (29, 59, .ifCond .ne 12, 3, [34]), (30, 62, .aload_n 0, 1, []), (31, 63, .bipush 45, 2, []), (32, 65, .invokevirtual 309, 3, [1, 161, 1, 5, 0, 0, 12, 1688, 1690, 70, 137, 1691]), (33, 68, .ifCond .eq 5, 3, [36]), (34, 71, .iconst 5, 1, []), (35, 72, .ireturn, 1, [0]), (36, 73, .aload_n 0, 1, []), (37, 74, .bipush 42, 2, []), (38, 76, .invokevirtual 309, 3, [1, 161, 1, 5, 0, 0, 12, 1688, 1690, 70, 137, 1691]), (39, 79, .ifCond .ne 21, 3, [48]), (40, 82, .aload_n 0, 1, []), (41, 83, .bipush 47, 2, []), (42, 85, .invokevirtual 309, 3, [1, 161, 1, 5, 0, 0, 12, 1688, 1690, 70, 137, 1691]), (43, 88, .ifCond .ne 12, 3, [48]), (44, 91, .aload_n 0, 1, []), (45, 92, .bipush 37, 2, []), (46, 94, .invokevirtual 309, 3, [1, 161, 1, 5, 0, 0, 12, 1688, 1690, 70, 137, 1691]), (47, 97, .ifCond .eq 8, 3, [50]), (48, 100, .bipush 6, 2, []), (49, 102, .goto 4, 3, [51]), (50, 105, .iconst 0, 1, []), (51, 106, .ireturn, 1, [0])]
set_option maxRecDepth 20000 in
def kX12_isCompared : List INS := [(0, 0, .aload_n 0, 1, []), (1, 1, .getfield 342, 3, [12, 40, 0, 1375, 0]), (2, 4, .iconst 1, 1, []), (3, 5, .isub, 1, []), (4, 6, .istore_n 1, 1, []), (5, 7, .aload_n 0, 1, []), (6, 8, .getfield 89, 3, [12, 33, 2, 1368, 1]), (7, 11, .iload_n 1, 1, []), (8, 12, .iaload, 1, []), (9, 13, .iconst 5, 1, []), (10, 14, .if_icmp .eq 14, 3, [17]), (11, 17, .aload_n 0, 1, []), (12, 18, .getfield 89, 3, [12, 33, 2, 1368, 1]), (13, 21, .iload_n 1, 1, []), (14, 22, .iaload, 1, []), (15, 23, .bipush 6, 2, []), (16, 25, .if_icmp .ne 9, 3, [19]), (17, 28, .iinc 1 (-1), 3, []), (18, 31, .goto (-24), 3, [5]), (19, 34, .aload_n 0, 1, []), (20, 35, .getfield 89, 3, [12, 33, 2, 1368, 1]), (21, 38, .iload_n 1, 1, []), (22, 39, .iaload, 1, []), (23, 40, .iconst 4, 1, []), (24, 41, .if_icmp .ne 7, 3, [27]), (25, 44, .iconst 1, 1, []), (26, 45, .goto 4, 3, [28]), (27, 48, .iconst 0, 1, []), (28, 49, .ireturn, 1, [5])]
set_option maxRecDepth 20000 in
def kX12_behindUnit : List INS := [(0, 0, .aload_n 0, 1, []), (1, 1, .invokevirtual 363, 3, [1, 187, 0, 0, 0, 0, 12, 1704, 1706, 74, 137, 1707]), (2, 4, .istore_n 1, 1, []), (3, 5, .iload_n 1, 1, []), (4, 6, .iconst 4, 1, []), (5, 7, .if_icmp .ne 16, 3, [13]), (6, 10, .aload_n 0, 1, []), (7, 11, .invokevirtual 366, 3, [1, 188, 0, 5, 0, 0, 12, 1708, 1710, 75, 137, 1711]), (8, 14, .ifCond .eq 9, 3, [13]), (9, 17, .aload_n 0, 1, []), (10, 18, .invokevirtual 260, 3, [1, 163, 0, 9, 0, 0, 12, 1620, 1622, 53, 137, 1623]), (11, 21, .iconst 1, 1, []), (12, 22, .ireturn, 1, [5]), (13, 23, .aload_n 0, 1, []), (14, 24, .getfield 89, 3, [12, 33, 2, 1368, 1]), (15, 27, .aload_n 0, 1, []), (16, 28, .getfield 342, 3, [12, 40, 0, 1375, 0]), (17, 31, .iconst 1, 1, []), (18, 32, .isub, 1, []), (19, 33, .iaload, 1, []), (20, 34, .bipush 6, 2, []), (21, 36, .if_icmp .gt 68, 3, [59]), (22, 39, .aload_n 0, 1, []), (23, 40, .getfield 89, 3, [12, 33, 2, 1368, 1]), (24, 43, .aload_n 0, 1, []), (25, 44, .getfield 342, 3, [12, 40, 0, 1375, 0]), (26, 47, .iconst 1, 1, []), (27, 48, .isub, 1, []), (28, 49, .iaload, 1, []), (29, 50, .iload_n 1, 1, []), (30, 51, .if_icmp .lt 53, 3, [59]), (31, 54, .aload_n 0, 1, []), (32, 55, .dup, 1, []), (33, 56, .getfield 342, 3, [12, 40, 0, 1375, 0]), (34, 59, .iconst 1, 1, []), (35, 60, .isub, 1, []), (36, 61, .putfield 342, 3, [12, 40, 0, 1375, 0]), (37, 64, .aload_n 0, 1, []), (38, 65, .getfield 89, 3, [12, 33, 2, 1368, 1]), (39, 68, .aload_n 0, 1, []), (40, 69, .getfield 342, 3, [12, 40, 0, 1375, 0]), (41, 72, .iaload, 1, []), (42, 73, .iconst 3, 1, []), (43, 74, .if_icmp .ne 13, 3, [50]), (44, 77, .aload_n 0, 1, []), (45, 78, .dup, 1, []), (46, 79, .getfield 345, 3, [12, 39, 0, 1374, 0]), (47, 82, .iconst 1, 1, []), (48, 83, .isub, 1, []), (49, 84, .putfield 345, 3, [12, 39, 0, 1374, 0]), (50, 87, .aload_n 0, 1, []), (51, 88, .aload_n 0, 1, []), (52, 89, .getfield 92, 3, [12, 34, 2, 1369, 1]), (53, 92, .aload_n 0, 1, []), (54, 93, .getfield 342, 3, [12, 40, 0, 1375, 0]), (55, 96, .iaload, 1, []), (56, 97, .iconst 0, 1, []), (57, 98, .invokevirtual 360, 3, [1, 182, 2, 9, 0, 0, 12, 1696, 1698, 72, 137, 1699]), (58, 101, .goto (-78), 3, [13]), (59, 104, .iload_n 1, 1, []), (60, 105, .ifCond .le 42, 3, [82]), (61, 108, .aload_n 0, 1, []), (62, 109, .iload_n 1, 1, []), (63, 110, .iload_n 1, 1, []), (64, 111, .iconst 2, 1, []), (65, 112, .if_icmp .ne 8, 3, [68]), (66, 115, .bipush 38, 2, []), (67, 117, .goto 21, 3, [77]), (68, 120, .iload_n 1, 1, []), (69, 121, .iconst 1, 1, []), (70, 122, .if_icmp .ne 8, 3, [73]), (71, 125, .bipush 124, 2, []), (72, 127, .goto 11, 3, [77]), (73, 130, .aload_n 0, 1, []), (74, 131, .aload_n 0, 1, []), (75, 132, .getfield 218, 3, [12, 6, 0, 1341, 0]), (76, 135, .invokevirtual 221, 3, [1, 153, 1, 0, 0, 0, 12, 1566, 1568, 47, 137, 1569]), (77, 138, .invokevirtual 348, 3, [1, 183, 2, 9, 0, 0, 12, 1680, 1682, 68, 137, 1683]), (78, 141, .aload_n 0, 1, []), (79, 142, .invokevirtual 257, 3, [1, 160, 0, 9, 0, 0, 12, 1562, 1564, 46, 137, 1565]), (80, 145, .iconst 1, 1, []), (81, 146, .ireturn, 1, [5]), (82, 147, .aload_n 0, 1, []), (83, 148, .dup, 1, []), (84, 149, .getfield 342, 3, [12, 40, 0, 1375, 0]), (85, 152, .iconst 1, 1, []), (86, 153, .isub, 1, []), (87, 154, .putfield 342, 3, [12, 40, 0, 1375, 0]), (88, 157, .aload_n 0, 1, []), (89, 158, .getfield 89, 3, [12, 33, 2, 1368, 1]), (90, 161, .aload_n 0, 1, []), (91, 162, .getfield 342, 3, [12, 40, 0, 1375, 0]), (92, 165, .iaload, 1, []), (93, 166, .bipush 7, 2, []), (94, 168, .if_icmp .ne 23, 3, [106]), (95, 171, .aload_n 0, 1, []), (96, 172, .dup, 1, []), (97, 173, .getfield 345, 3, [12, 39, 0, 1374, 0]), (98, 176, .iconst 1, 1, []), (99, 177, .isub, 1, []), (100, 178, .putfield 345, 3, [12, 39, 0, 1374, 0]), (101, 181, .aload_n 0, 1, []), (102, 182, .aload_n 0, 1, []), (103, 183, .bipush 41, 2, []), (104, 185, .invokevirtual 309, 3, [1, 161, 1, 5, 0, 0, 12, 1688, 1690, 70, 137, 1691]), (105, 188, .invokevirtual 266, 3, [1, 164, 1, 9, 0, 0, 12, 1660, 1662, 63, 137, 1663]), (106, 191, .iconst 0, 1, []), (107, 192, .ireturn, 1, [5])]
set_option maxRecDepth 20000 in
def kX12_two : List INS := [(0, 0, .iload_n 0, 1, []), (1, 1, .tableswitch 202 37 62 #[143, 188, 202, 202, 202, 127, 119, 202, 123, 202, 131, 202, 202, 202, 202, 202, 202, 202, 202, 202, 202, 202, 202, 155, 177, 166], 119, [59, 22, 51, 59, 59, 59, 10, 2, 59, 6, 59, 14, 59, 59, 59, 59, 59, 59, 59, 59, 59, 59, 59, 59, 30, 44, 37]), (2, 120, .iload_n 1, 1, []), (3, 121, .iload_n 2, 1, []), (4, 122, .iadd, 1, []), (5, 123, .ireturn, 1, [0]), (6, 124, .iload_n 1, 1, []), (7, 125, .iload_n 2, 1, []), (8, 126, .isub, 1, []), (9, 127, .ireturn, 1, [0]), (10, 128, .iload_n 1, 1, []), (11, 129, .iload_n 2, 1, []), (12, 130, .imul, 1, []), (13, 131, .ireturn, 1, [0]), (14, 132, .iload_n 2, 1, []), (15, 133, .ifCond .ne 7, 3, [18]), (16, 136, .iconst 0, 1, []), (17, 137, .goto 6, 3, [21]), (18, 140, .iload_n 1, 1, []), (19, 141, .iload_n 2, 1, []), (20, 142, .idiv, 1, []), (21, 143, .ireturn, 1, [0]), (22, 144, .iload_n 2, 1, []), (23, 145, .ifCond .ne 7, 3, [26]), (24, 148, .iconst 0, 1, []), (25, 149, .goto 6, 3, [29]), (26, 152, .iload_n 1, 1, []), (27, 153, .iload_n 2, 1, []), (28, 154, .irem, 1, []), (29, 155, .ireturn, 1, [0]), (30, 156, .iload_n 1, 1, []), (31, 157, .iload_n 2, 1, []), (32, 158, .if_icmp .ge 7, 3, [35]), (33, 161, .iconst 1, 1, []), (34, 162, .goto 4, 3, [36]), (35, 165, .iconst 0, 1, []), (36, 166, .ireturn, 1, [0]), (37, 167, .iload_n 1, 1, []), (38, 168, .iload_n 2, 1, []), (39, 169, .if_icmp .le 7, 3, [42]), (40, 172, .iconst 1, 1, []), (41, 173, .goto 4, 3, [43]), (42, 176, .iconst 0, 1, []), (43, 177, .ireturn, 1, [0]), (44, 178, .iload_n 1, 1, []), (45, 179, .iload_n 2, 1, []), (46, 180, .if_icmp .ne 7, 3, [49]), (47, 183, .iconst 1, 1, []), (48, 184, .goto 4, 3, [50]), (49, 187, .iconst 0, 1, []), (50, 188, .ireturn, 1, [0]), (51, 189, .iload_n 1, 1, []), (52, 190, .ifCond .eq 11, 3, [57]), (53, 193, .iload_n 2, 1, []), (54, 194, .ifCond .eq 7, 3, [57]), (55, 197, .iconst 1, 1, []), (56, 198, .goto 4, 3, [58]), (57, 201, .iconst 0, 1, []), (58, 202, .ireturn, 1, [0]), (59, 203, .iload_n 1, 1, []), (60, 204, .ifCond .ne 7, 3, [63]), (61, 207, .iload_n 2, 1, []), (62, 208, .ifCond .eq 7, 3, [65]), (63, 211, .iconst 1, 1, []), (64, 212, .goto 4, 3, [66]), (65, 215, .iconst 0, 1, []), (66, 216, .ireturn, 1, [0])]
set_option maxRecDepth 20000 in
def kX12_comes : List INS := [(0, 0, .iconst 0, 1, []), (1, 1, .istore_n 2, 1, []), (2, 2, .aload_n 0, 1, []), (3, 3, .getfield 66, 3, [12, 26, 2, 1361, 1]), (4, 6, .bipush 6, 2, []), (5, 8, .aload_n 0, 1, []), (6, 9, .getfield 283, 3, [12, 36, 0, 1371, 0]), (7, 12, .imul, 1, []), (8, 13, .iload_n 1, 1, []), (9, 14, .iadd, 1, []), (10, 15, .iaload, 1, []), (11, 16, .istore_n 3, 1, []), (12, 17, .iload_n 3, 1, []), (13, 18, .aload_n 0, 1, []), (14, 19, .getfield 69, 3, [12, 27, 2, 1362, 1]), (15, 22, .bipush 6, 2, []), (16, 24, .aload_n 0, 1, []), (17, 25, .getfield 283, 3, [12, 36, 0, 1371, 0]), (18, 28, .imul, 1, []), (19, 29, .iload_n 1, 1, []), (20, 30, .iadd, 1, []), (21, 31, .iaload, 1, []), (22, 32, .if_icmp .ge 128, 3, [93]), (23, 35, .aload_n 0, 1, []), (24, 36, .getfield 83, 3, [12, 31, 2, 1366, 1]), (25, 39, .iload_n 3, 1, []), (26, 40, .iaload, 1, []), (27, 41, .istore 4, 2, []), (28, 43, .iload 4, 2, []), (29, 45, .bipush 126, 2, []), (30, 47, .if_icmp .ne 30, 3, [48]), (31, 50, .aload_n 0, 1, []), (32, 51, .getfield 95, 3, [12, 35, 2, 1370, 1]), (33, 54, .iload_n 2, 1, []), (34, 55, .iconst 1, 1, []), (35, 56, .isub, 1, []), (36, 57, .aload_n 0, 1, []), (37, 58, .getfield 95, 3, [12, 35, 2, 1370, 1]), (38, 61, .iload_n 2, 1, []), (39, 62, .iconst 1, 1, []), (40, 63, .isub, 1, []), (41, 64, .iaload, 1, []), (42, 65, .ifCond .ne 7, 3, [45]), (43, 68, .iconst 1, 1, []), (44, 69, .goto 4, 3, [46]), (45, 72, .iconst 0, 1, []), (46, 73, .iastore, 1, []), (47, 74, .goto 80, 3, [91]), (48, 77, .iload 4, 2, []), (49, 79, .invokestatic 228, 3, [0, 154, 1, 5, 0, 0, 0, 1570, 1571, 0, 137, 1572]), (50, 82, .ifCond .eq 42, 3, [72]), (51, 85, .aload_n 0, 1, []), (52, 86, .getfield 95, 3, [12, 35, 2, 1370, 1]), (53, 89, .iload_n 2, 1, []), (54, 90, .iload 4, 2, []), (55, 92, .bipush 115, 2, []), (56, 94, .if_icmp .ne 17, 3, [65]), (57, 97, .aload_n 0, 1, []), (58, 98, .getfield 110, 3, [12, 46, 2, 1381, 1]), (59, 101, .aload_n 0, 1, []), (60, 102, .getfield 86, 3, [12, 32, 2, 1367, 1]), (61, 105, .iload_n 3, 1, []), (62, 106, .iaload, 1, []), (63, 107, .iaload, 1, []), (64, 108, .goto 9, 3, [69]), (65, 111, .aload_n 0, 1, []), (66, 112, .getfield 86, 3, [12, 32, 2, 1367, 1]), (67, 115, .iload_n 3, 1, []), (68, 116, .iaload, 1, []), (69, 117, .iastore, 1, []), (70, 118, .iinc 2 1, 3, []), (71, 121, .goto 33, 3, [91]), (72, 124, .iinc 2 (-1), 3, []), (73, 127, .aload_n 0, 1, []), (74, 128, .getfield 95, 3, [12, 35, 2, 1370, 1]), (75, 131, .iload_n 2, 1, []), (76, 132, .iconst 1, 1, []), (77, 133, .isub, 1, []), (78, 134, .iload 4, 2, []), (79, 136, .aload_n 0, 1, []), (80, 137, .getfield 95, 3, [12, 35, 2, 1370, 1]), (81, 140, .iload_n 2, 1, []), (82, 141, .iconst 1, 1, []), (83, 142, .isub, 1, []), (84, 143, .iaload, 1, []), (85, 144, .aload_n 0, 1, []), (86, 145, .getfield 95, 3, [12, 35, 2, 1370, 1]), (87, 148, .iload_n 2, 1, []), (88, 149, .iaload, 1, []), (89, 150, .invokestatic 369, 3, [0, 190, 3, 0, 0, 0, 0, 1875, 1876, 0, 137, 1877]), (90, 153, .iastore, 1, []), (91, 154, .iinc 3 1, 3, []), (92, 157, .goto (-140), 3, [12]), (93, 160, .aload_n 0, 1, []), (94, 161, .getfield 95, 3, [12, 35, 2, 1370, 1]), (95, 164, .iconst 0, 1, []), (96, 165, .iaload, 1, []), (97, 166, .ireturn, 1, [0])]
set_option maxRecDepth 20000 in
def kX12_fault : List INS := [(0, 0, .iload_n 1, 1, []), (1, 1, .ifCond .ne 10, 3, [5]), (2, 4, .aload_n 0, 1, []), (3, 5, .getfield 176, 3, [12, 4, 0, 1339, 0]), (4, 8, .goto 16, 3, [12]), (5, 11, .iload_n 1, 1, []), (6, 12, .iconst 1, 1, []), (7, 13, .if_icmp .ne 10, 3, [11]), (8, 16, .aload_n 0, 1, []), (9, 17, .getfield 16, 3, [12, 5, 0, 1340, 0]), (10, 20, .goto 4, 3, [12]), (11, 23, .iconst (-1), 1, []), (12, 24, .ireturn, 1, [0])]
set_option maxRecDepth 20000 in
def kX12_isIn : List INS := [(0, 0, .iload_n 0, 1, []), (1, 1, .iload_n 1, 1, []), (2, 2, .if_icmp .lt 12, 3, [8]), (3, 5, .iload_n 0, 1, []), (4, 6, .iload_n 2, 1, []), (5, 7, .if_icmp .gt 7, 3, [8]), (6, 10, .iconst 1, 1, []), (7, 11, .goto 4, 3, [9]), (8, 14, .iconst 0, 1, []), (9, 15, .ireturn, 1, [5])]
set_option maxRecDepth 20000 in
def kX12_towerMany : List INS := [(0, 0, .aload_n 0, 1, []), (1, 1, .getfield 20, 3, [12, 11, 2, 1346, 1]), (2, 4, .aload_n 0, 1, []), (3, 5, .getfield 283, 3, [12, 36, 0, 1371, 0]), (4, 8, .iaload, 1, []), (5, 9, .ireturn, 1, [0])]
set_option maxRecDepth 20000 in
def kX12_wayMany : List INS := [(0, 0, .aload_n 0, 1, []), (1, 1, .getfield 27, 3, [12, 13, 2, 1348, 1]), (2, 4, .aload_n 0, 1, []), (3, 5, .getfield 283, 3, [12, 36, 0, 1371, 0]), (4, 8, .iaload, 1, []), (5, 9, .ireturn, 1, [0])]
set_option maxRecDepth 20000 in
def kX12_startMany : List INS := [(0, 0, .aload_n 0, 1, []), (1, 1, .getfield 24, 3, [12, 12, 2, 1347, 1]), (2, 4, .aload_n 0, 1, []), (3, 5, .getfield 283, 3, [12, 36, 0, 1371, 0]), (4, 8, .iaload, 1, []), (5, 9, .ireturn, 1, [0])]
set_option maxRecDepth 20000 in
def kX12_sortOf : List INS := [(0, 0, .aload_n 0, 1, []), (1, 1, .getfield 39, 3, [12, 17, 2, 1352, 1]), (2, 4, .bipush 10, 2, []), (3, 6, .aload_n 0, 1, []), (4, 7, .getfield 283, 3, [12, 36, 0, 1371, 0]), (5, 10, .imul, 1, []), (6, 11, .iload_n 1, 1, []), (7, 12, .iadd, 1, []), (8, 13, .iaload, 1, []), (9, 14, .ireturn, 1, [0])]
set_option maxRecDepth 20000 in
def kX12_isTower : List INS := [(0, 0, .iload_n 1, 1, []), (1, 1, .iconst 0, 1, []), (2, 2, .aload_n 0, 1, []), (3, 3, .invokevirtual 373, 3, [1, 194, 0, 0, 0, 0, 12, 1728, 1730, 78, 137, 1731]), (4, 6, .iconst 1, 1, []), (5, 7, .isub, 1, []), (6, 8, .invokestatic 376, 3, [0, 193, 3, 5, 0, 0, 0, 1732, 1733, 0, 137, 1734]), (7, 11, .ireturn, 1, [5])]
set_option maxRecDepth 20000 in
def kX12_isWay : List INS := [(0, 0, .iload_n 1, 1, []), (1, 1, .iconst 0, 1, []), (2, 2, .aload_n 0, 1, []), (3, 3, .invokevirtual 380, 3, [1, 195, 0, 0, 0, 0, 12, 1747, 1749, 81, 137, 1750]), (4, 6, .iconst 1, 1, []), (5, 7, .isub, 1, []), (6, 8, .invokestatic 376, 3, [0, 193, 3, 5, 0, 0, 0, 1732, 1733, 0, 137, 1734]), (7, 11, .ireturn, 1, [5])]
set_option maxRecDepth 20000 in
def kX12_isDusk : List INS := [(0, 0, .aload_n 0, 1, []), (1, 1, .iload_n 1, 1, []), (2, 2, .invokevirtual 383, 3, [1, 198, 1, 5, 0, 0, 12, 1724, 1726, 77, 137, 1727]), (3, 5, .ifCond .eq 16, 3, [11]), (4, 8, .aload_n 0, 1, []), (5, 9, .iload_n 1, 1, []), (6, 10, .invokevirtual 386, 3, [1, 197, 1, 0, 0, 0, 12, 1735, 1737, 79, 137, 1738]), (7, 13, .iconst 4, 1, []), (8, 14, .if_icmp .ne 7, 3, [11]), (9, 17, .iconst 1, 1, []), (10, 18, .goto 4, 3, [12]), (11, 21, .iconst 0, 1, []), (12, 22, .ireturn, 1, [5])]
set_option maxRecDepth 20000 in
def kX12_isClaim : List INS := [(0, 0, .iload_n 1, 1, []), (1, 1, .iconst 0, 1, []), (2, 2, .aload_n 0, 1, []), (3, 3, .getfield 30, 3, [12, 14, 2, 1349, 1]), (4, 6, .aload_n 0, 1, []), (5, 7, .getfield 283, 3, [12, 36, 0, 1371, 0]), (6, 10, .iaload, 1, []), (7, 11, .iconst 1, 1, []), (8, 12, .isub, 1, []), (9, 13, .invokestatic 376, 3, [0, 193, 3, 5, 0, 0, 0, 1732, 1733, 0, 137, 1734]), (10, 16, .ireturn, 1, [5])]
set_option maxRecDepth 20000 in
def kX12_startAnew : List INS := [(0, 0, .aload_n 0, 1, []), (1, 1, .invokevirtual 389, 3, [1, 203, 0, 9, 0, 0, 12, 1331, 1333, 45, 137, 1334]), (2, 4, .aload_n 0, 1, []), (3, 5, .getfield 98, 3, [12, 42, 2, 1377, 1]), (4, 8, .sipush 217, 3, []), (5, 11, .aload_n 0, 1, []), (6, 12, .getfield 36, 3, [12, 16, 2, 1351, 1]), (7, 15, .aload_n 0, 1, []), (8, 16, .getfield 283, 3, [12, 36, 0, 1371, 0]), (9, 19, .iaload, 1, []), (10, 20, .iastore, 1, []), (11, 21, .iconst 0, 1, []), (12, 22, .istore_n 1, 1, []), (13, 23, .iload_n 1, 1, []), (14, 24, .bipush 16, 2, []), (15, 26, .if_icmp .ge 29, 3, [31]), (16, 29, .aload_n 0, 1, []), (17, 30, .getfield 104, 3, [12, 44, 2, 1379, 1]), (18, 33, .iload_n 1, 1, []), (19, 34, .aload_n 0, 1, []), (20, 35, .getfield 54, 3, [12, 22, 2, 1357, 1]), (21, 38, .bipush 16, 2, []), (22, 40, .aload_n 0, 1, []), (23, 41, .getfield 283, 3, [12, 36, 0, 1371, 0]), (24, 44, .imul, 1, []), (25, 45, .iload_n 1, 1, []), (26, 46, .iadd, 1, []), (27, 47, .iaload, 1, []), (28, 48, .iastore, 1, []), (29, 49, .iinc 1 1, 3, []), (30, 52, .goto (-29), 3, [13]), (31, 55, .iconst 0, 1, []), (32, 56, .istore_n 1, 1, []), (33, 57, .iload_n 1, 1, []), (34, 58, .iconst 3, 1, []), (35, 59, .if_icmp .ge 16, 3, [43]), (36, 62, .aload_n 0, 1, []), (37, 63, .getfield 110, 3, [12, 46, 2, 1381, 1]), (38, 66, .iload_n 1, 1, []), (39, 67, .iconst 0, 1, []), (40, 68, .iastore, 1, []), (41, 69, .iinc 1 1, 3, []), (42, 72, .goto (-15), 3, [33]), (43, 75, .aload_n 0, 1, []), (44, 76, .iconst (-1), 1, []), (45, 77, .putfield 392, 3, [12, 47, 0, 1382, 0]), (46, 80, .aload_n 0, 1, []), (47, 81, .iconst 0, 1, []), (48, 82, .putfield 395, 3, [12, 51, 0, 1386, 0]), (49, 85, .aload_n 0, 1, []), (50, 86, .iconst 0, 1, []), (51, 87, .putfield 398, 3, [12, 52, 0, 1387, 0]), (52, 90, .aload_n 0, 1, []), (53, 91, .iconst 0, 1, []), (54, 92, .putfield 401, 3, [12, 61, 0, 1396, 0]), (55, 95, .aload_n 0, 1, []), (56, 96, .iconst 0, 1, []), (57, 97, .putfield 404, 3, [12, 70, 0, 1405, 0]), (58, 100, .aload_n 0, 1, []), (59, 101, .iconst 0, 1, []), (60, 102, .putfield 407, 3, [12, 55, 0, 1390, 0]), (61, 105, .iconst 0, 1, []), (62, 106, .istore_n 1, 1, []), (63, 107, .iload_n 1, 1, []), (64, 108, .iconst 3, 1, []), (65, 109, .if_icmp .ge 16, 3, [73]), (66, 112, .aload_n 0, 1, []), (67, 113, .getfield 164, 3, [12, 73, 2, 1408, 1]), (68, 116, .iload_n 1, 1, []), (69, 117, .iconst 0, 1, []), (70, 118, .bastore, 1, [103]), (71, 119, .iinc 1 1, 3, []), (72, 122, .goto (-15), 3, [63]), (73, 125, .return_, 1, [])]
set_option maxRecDepth 20000 in
def kX12_clearSky : List INS := [(0, 0, .iconst 0, 1, []), (1, 1, .istore_n 1, 1, []), (2, 2, .iload_n 1, 1, []), (3, 3, .sipush 218, 3, []), (4, 6, .if_icmp .ge 16, 3, [12]), (5, 9, .aload_n 0, 1, []), (6, 10, .getfield 98, 3, [12, 42, 2, 1377, 1]), (7, 13, .iload_n 1, 1, []), (8, 14, .iconst 0, 1, []), (9, 15, .iastore, 1, []), (10, 16, .iinc 1 1, 3, []), (11, 19, .goto (-17), 3, [2]), (12, 22, .return_, 1, [])]
set_option maxRecDepth 20000 in
def kX12_putAside : List INS := [(0, 0, .iconst 0, 1, []), (1, 1, .istore_n 1, 1, []), (2, 2, .iload_n 1, 1, []), (3, 3, .sipush 218, 3, []), (4, 6, .if_icmp .ge 21, 3, [15]), (5, 9, .aload_n 0, 1, []), (6, 10, .getfield 101, 3, [12, 43, 2, 1378, 1]), (7, 13, .iload_n 1, 1, []), (8, 14, .aload_n 0, 1, []), (9, 15, .getfield 98, 3, [12, 42, 2, 1377, 1]), (10, 18, .iload_n 1, 1, []), (11, 19, .iaload, 1, []), (12, 20, .iastore, 1, []), (13, 21, .iinc 1 1, 3, []), (14, 24, .goto (-22), 3, [2]), (15, 27, .return_, 1, [])]
set_option maxRecDepth 20000 in
def kX12_bringBack : List INS := [(0, 0, .iconst 0, 1, []), (1, 1, .istore_n 1, 1, []), (2, 2, .iload_n 1, 1, []), (3, 3, .sipush 218, 3, []), (4, 6, .if_icmp .ge 21, 3, [15]), (5, 9, .aload_n 0, 1, []), (6, 10, .getfield 98, 3, [12, 42, 2, 1377, 1]), (7, 13, .iload_n 1, 1, []), (8, 14, .aload_n 0, 1, []), (9, 15, .getfield 101, 3, [12, 43, 2, 1378, 1]), (10, 18, .iload_n 1, 1, []), (11, 19, .iaload, 1, []), (12, 20, .iastore, 1, []), (13, 21, .iinc 1 1, 3, []), (14, 24, .goto (-22), 3, [2]), (15, 27, .return_, 1, [])]
set_option maxRecDepth 20000 in
def kX12_setOut : List INS := [(0, 0, .iload_n 2, 1, []), (1, 1, .ifCond .ne 4, 3, [3]), (2, 4, .return_, 1, []), (3, 5, .iload_n 1, 1, []), (4, 6, .ifCond .ge 7, 3, [7]), (5, 9, .iconst 0, 1, []), (6, 10, .goto 17, 3, [13]), (7, 13, .iload_n 2, 1, []), (8, 14, .ldc_w 410, 3, [999999, 1779]), (9, 17, .if_icmp .le 9, 3, [12]), (10, 20, .ldc_w 410, 3, [999999, 1779]), (11, 23, .goto 4, 3, [13]), (12, 26, .iload_n 2, 1, []), (13, 27, .istore_n 3, 1, []), (14, 28, .aload_n 0, 1, []), (15, 29, .getfield 98, 3, [12, 42, 2, 1377, 1]), (16, 32, .sipush 214, 3, []), (17, 35, .dup2, 1, []), (18, 36, .iaload, 1, []), (19, 37, .iload_n 2, 1, []), (20, 38, .iload_n 3, 1, []), (21, 39, .isub, 1, []), (22, 40, .iadd, 1, []), (23, 41, .iastore, 1, []), (24, 42, .iload_n 3, 1, []), (25, 43, .ifCond .le 46, 3, [49]), (26, 46, .iload_n 1, 1, []), (27, 47, .aload_n 0, 1, []), (28, 48, .getfield 392, 3, [12, 47, 0, 1382, 0]), (29, 51, .if_icmp .ne 38, 3, [49]), (30, 54, .aload_n 0, 1, []), (31, 55, .getfield 98, 3, [12, 42, 2, 1377, 1]), (32, 58, .sipush 216, 3, []), (33, 61, .iaload, 1, []), (34, 62, .aload_n 0, 1, []), (35, 63, .getfield 411, 3, [12, 48, 0, 1383, 0]), (36, 66, .if_icmp .ne 23, 3, [49]), (37, 69, .aload_n 0, 1, []), (38, 70, .iconst 1, 1, []), (39, 71, .putfield 414, 3, [12, 49, 5, 1384, 0]), (40, 74, .iinc 3 (-1), 3, []), (41, 77, .aload_n 0, 1, []), (42, 78, .getfield 98, 3, [12, 42, 2, 1377, 1]), (43, 81, .sipush 214, 3, []), (44, 84, .dup2, 1, []), (45, 85, .iaload, 1, []), (46, 86, .iconst 1, 1, []), (47, 87, .iadd, 1, []), (48, 88, .iastore, 1, []), (49, 89, .iload_n 1, 1, []), (50, 90, .ifCond .lt 25, 3, [68]), (51, 93, .aload_n 0, 1, []), (52, 94, .getfield 98, 3, [12, 42, 2, 1377, 1]), (53, 97, .bipush 12, 2, []), (54, 99, .iload_n 1, 1, []), (55, 100, .imul, 1, []), (56, 101, .aload_n 0, 1, []), (57, 102, .getfield 104, 3, [12, 44, 2, 1379, 1]), (58, 105, .iload_n 1, 1, []), (59, 106, .iaload, 1, []), (60, 107, .iadd, 1, []), (61, 108, .iconst 1, 1, []), (62, 109, .isub, 1, []), (63, 110, .dup2, 1, []), (64, 111, .iaload, 1, []), (65, 112, .iload_n 3, 1, []), (66, 113, .iadd, 1, []), (67, 114, .iastore, 1, []), (68, 115, .return_, 1, [])]
set_option maxRecDepth 20000 in
def kX12_comeNearer : List INS := [(0, 0, .iconst 0, 1, []), (1, 1, .istore_n 1, 1, []), (2, 2, .iload_n 1, 1, []), (3, 3, .aload_n 0, 1, []), (4, 4, .invokevirtual 373, 3, [1, 194, 0, 0, 0, 0, 12, 1728, 1730, 78, 137, 1731]), (5, 7, .if_icmp .ge 54, 3, [35]), (6, 10, .aload_n 0, 1, []), (7, 11, .getfield 107, 3, [12, 45, 2, 1380, 1]), (8, 14, .iload_n 1, 1, []), (9, 15, .iconst 0, 1, []), (10, 16, .iastore, 1, []), (11, 17, .aload_n 0, 1, []), (12, 18, .iload_n 1, 1, []), (13, 19, .invokevirtual 386, 3, [1, 197, 1, 0, 0, 0, 12, 1735, 1737, 79, 137, 1738]), (14, 22, .ifCond .eq 6, 3, [16]), (15, 25, .goto 30, 3, [33]), (16, 28, .aload_n 0, 1, []), (17, 29, .getfield 107, 3, [12, 45, 2, 1380, 1]), (18, 32, .iload_n 1, 1, []), (19, 33, .aload_n 0, 1, []), (20, 34, .getfield 98, 3, [12, 42, 2, 1377, 1]), (21, 37, .sipush 192, 3, []), (22, 40, .iload_n 1, 1, []), (23, 41, .iadd, 1, []), (24, 42, .iaload, 1, []), (25, 43, .iastore, 1, []), (26, 44, .aload_n 0, 1, []), (27, 45, .getfield 98, 3, [12, 42, 2, 1377, 1]), (28, 48, .sipush 192, 3, []), (29, 51, .iload_n 1, 1, []), (30, 52, .iadd, 1, []), (31, 53, .iconst 0, 1, []), (32, 54, .iastore, 1, []), (33, 55, .iinc 1 1, 3, []), (34, 58, .goto (-56), 3, [2]), (35, 61, .iconst 0, 1, []), (36, 62, .istore_n 1, 1, []), (37, 63, .iload_n 1, 1, []), (38, 64, .aload_n 0, 1, []), (39, 65, .invokevirtual 380, 3, [1, 195, 0, 0, 0, 0, 12, 1747, 1749, 81, 137, 1750]), (40, 68, .if_icmp .ge 93, 3, [100]), (41, 71, .aload_n 0, 1, []), (42, 72, .getfield 107, 3, [12, 45, 2, 1380, 1]), (43, 75, .aload_n 0, 1, []), (44, 76, .getfield 51, 3, [12, 21, 2, 1356, 1]), (45, 79, .bipush 16, 2, []), (46, 81, .aload_n 0, 1, []), (47, 82, .getfield 283, 3, [12, 36, 0, 1371, 0]), (48, 85, .imul, 1, []), (49, 86, .iload_n 1, 1, []), (50, 87, .iadd, 1, []), (51, 88, .iaload, 1, []), (52, 89, .dup2, 1, []), (53, 90, .iaload, 1, []), (54, 91, .aload_n 0, 1, []), (55, 92, .getfield 98, 3, [12, 42, 2, 1377, 1]), (56, 95, .bipush 12, 2, []), (57, 97, .iload_n 1, 1, []), (58, 98, .imul, 1, []), (59, 99, .iaload, 1, []), (60, 100, .iadd, 1, []), (61, 101, .iastore, 1, []), (62, 102, .iconst 1, 1, []), (63, 103, .istore_n 2, 1, []), (64, 104, .iload_n 2, 1, []), (65, 105, .bipush 12, 2, []), (66, 107, .if_icmp .ge 33, 3, [87]), (67, 110, .aload_n 0, 1, []), (68, 111, .getfield 98, 3, [12, 42, 2, 1377, 1]), (69, 114, .bipush 12, 2, []), (70, 116, .iload_n 1, 1, []), (71, 117, .imul, 1, []), (72, 118, .iload_n 2, 1, []), (73, 119, .iadd, 1, []), (74, 120, .iconst 1, 1, []), (75, 121, .isub, 1, []), (76, 122, .aload_n 0, 1, []), (77, 123, .getfield 98, 3, [12, 42, 2, 1377, 1]), (78, 126, .bipush 12, 2, []), (79, 128, .iload_n 1, 1, []), (80, 129, .imul, 1, []), (81, 130, .iload_n 2, 1, []), (82, 131, .iadd, 1, []), (83, 132, .iaload, 1, []), (84, 133, .iastore, 1, []), (85, 134, .iinc 2 1, 3, []), (86, 137, .goto (-33), 3, [64]), (87, 140, .aload_n 0, 1, []), (88, 141, .getfield 98, 3, [12, 42, 2, 1377, 1]), (89, 144, .bipush 12, 2, []), (90, 146, .iload_n 1, 1, []), (91, 147, .imul, 1, []), (92, 148, .bipush 12, 2, []), (93, 150, .iadd, 1, []), (94, 151, .iconst 1, 1, []), (95, 152, .isub, 1, []), (96, 153, .iconst 0, 1, []), (97, 154, .iastore, 1, []), (98, 155, .iinc 1 1, 3, []), (99, 158, .goto (-95), 3, [37]), (100, 161, .return_, 1, [])]
set_option maxRecDepth 20000 in
def kX12_does : List INS := [(0, 0, .aload_n 0, 1, []), (1, 1, .getfield 107, 3, [12, 45, 2, 1380, 1]), (2, 4, .iload_n 1, 1, []), (3, 5, .iaload, 1, []), (4, 6, .istore_n 2, 1, []), (5, 7, .aload_n 0, 1, []), (6, 8, .getfield 42, 3, [12, 18, 2, 1353, 1]), (7, 11, .bipush 10, 2, []), (8, 13, .aload_n 0, 1, []), (9, 14, .getfield 283, 3, [12, 36, 0, 1371, 0]), (10, 17, .imul, 1, []), (11, 18, .iload_n 1, 1, []), (12, 19, .iadd, 1, []), (13, 20, .iaload, 1, []), (14, 21, .istore_n 3, 1, []), (15, 22, .aload_n 0, 1, []), (16, 23, .getfield 57, 3, [12, 23, 2, 1358, 1]), (17, 26, .bipush 10, 2, []), (18, 28, .aload_n 0, 1, []), (19, 29, .getfield 283, 3, [12, 36, 0, 1371, 0]), (20, 32, .imul, 1, []), (21, 33, .iload_n 1, 1, []), (22, 34, .iadd, 1, []), (23, 35, .iaload, 1, []), (24, 36, .istore 4, 2, []), (25, 38, .aload_n 0, 1, []), (26, 39, .getfield 60, 3, [12, 24, 2, 1359, 1]), (27, 42, .bipush 10, 2, []), (28, 44, .aload_n 0, 1, []), (29, 45, .getfield 283, 3, [12, 36, 0, 1371, 0]), (30, 48, .imul, 1, []), (31, 49, .iload_n 1, 1, []), (32, 50, .iadd, 1, []), (33, 51, .iaload, 1, []), (34, 52, .istore 5, 2, []), (35, 54, .aload_n 0, 1, []), (36, 55, .iload_n 1, 1, []), (37, 56, .invokevirtual 386, 3, [1, 197, 1, 0, 0, 0, 12, 1735, 1737, 79, 137, 1738]), (38, 59, .iconst 5, 1, []), (39, 60, .if_icmp .ne 54, 3, [74]), (40, 63, .aload_n 0, 1, []), (41, 64, .getfield 98, 3, [12, 42, 2, 1377, 1]), (42, 67, .sipush 192, 3, []), (43, 70, .iload_n 1, 1, []), (44, 71, .iadd, 1, []), (45, 72, .dup2, 1, []), (46, 73, .iaload, 1, []), (47, 74, .iload_n 2, 1, []), (48, 75, .iadd, 1, []), (49, 76, .iastore, 1, []), (50, 77, .aload_n 0, 1, []), (51, 78, .getfield 98, 3, [12, 42, 2, 1377, 1]), (52, 81, .sipush 192, 3, []), (53, 84, .iload_n 1, 1, []), (54, 85, .iadd, 1, []), (55, 86, .iaload, 1, []), (56, 87, .iload_n 3, 1, []), (57, 88, .if_icmp .ge 4, 3, [59]), (58, 91, .return_, 1, []), (59, 92, .aload_n 0, 1, []), (60, 93, .getfield 98, 3, [12, 42, 2, 1377, 1]), (61, 96, .sipush 192, 3, []), (62, 99, .iload_n 1, 1, []), (63, 100, .iadd, 1, []), (64, 101, .dup2, 1, []), (65, 102, .iaload, 1, []), (66, 103, .iload_n 3, 1, []), (67, 104, .isub, 1, []), (68, 105, .iastore, 1, []), (69, 106, .aload_n 0, 1, []), (70, 107, .iload 4, 2, []), (71, 109, .iload_n 3, 1, []), (72, 110, .invokevirtual 418, 3, [1, 206, 2, 9, 0, 0, 12, 1800, 1802, 90, 137, 1803]), (73, 113, .return_, 1, []), (74, 114, .iload_n 2, 1, []), (75, 115, .ifCond .ne 4, 3, [77]), (76, 118, .return_, 1, []), (77, 119, .aload_n 0, 1, []), (78, 120, .iload_n 1, 1, []), (79, 121, .invokevirtual 386, 3, [1, 197, 1, 0, 0, 0, 12, 1735, 1737, 79, 137, 1738]), (80, 124, .tableswitch 224 2 8 #[44, 95, 117, 224, 134, 172, 196], 44, [191, 81, 112, 124, 191, 135, 157, 172]), (81, 168, .iload_n 2, 1, []), (82, 169, .aload_n 0, 1, []), (83, 170, .getfield 98, 3, [12, 42, 2, 1377, 1]), (84, 173, .sipush 192, 3, []), (85, 176, .iload_n 1, 1, []), (86, 177, .iadd, 1, []), (87, 178, .iaload, 1, []), (88, 179, .iadd, 1, []), (89, 180, .istore 6, 2, []), (90, 182, .aload_n 0, 1, []), (91, 183, .getfield 98, 3, [12, 42, 2, 1377, 1]), (92, 186, .sipush 192, 3, []), (93, 189, .iload_n 1, 1, []), (94, 190, .iadd, 1, []), (95, 191, .iload 6, 2, []), (96, 193, .iconst 2, 1, []), (97, 194, .irem, 1, []), (98, 195, .iastore, 1, []), (99, 196, .aload_n 0, 1, []), (100, 197, .iload 4, 2, []), (101, 199, .iload 6, 2, []), (102, 201, .iconst 2, 1, []), (103, 202, .idiv, 1, []), (104, 203, .invokevirtual 418, 3, [1, 206, 2, 9, 0, 0, 12, 1800, 1802, 90, 137, 1803]), (105, 206, .aload_n 0, 1, []), (106, 207, .iload 5, 2, []), (107, 209, .iload 6, 2, []), (108, 211, .iconst 2, 1, []), (109, 212, .idiv, 1, []), (110, 213, .invokevirtual 418, 3, [1, 206, 2, 9, 0, 0, 12, 1800, 1802, 90, 137, 1803]), (111, 216, .goto 139, 3, [195]), (112, 219, .aload_n 0, 1, []), (113, 220, .iload_n 2, 1, []), (114, 221, .iconst 2, 1, []), (115, 222, .irem, 1, []), (116, 223, .iconst 1, 1, []), (117, 224, .if_icmp .ne 8, 3, [120]), (118, 227, .iload 4, 2, []), (119, 229, .goto 5, 3, [121]), (120, 232, .iload 5, 2, []), (121, 234, .iload_n 2, 1, []), (122, 235, .invokevirtual 418, 3, [1, 206, 2, 9, 0, 0, 12, 1800, 1802, 90, 137, 1803]), (123, 238, .goto 117, 3, [195]), (124, 241, .aload_n 0, 1, []), (125, 242, .getfield 98, 3, [12, 42, 2, 1377, 1]), (126, 245, .sipush 192, 3, []), (127, 248, .iload_n 1, 1, []), (128, 249, .iadd, 1, []), (129, 250, .dup2, 1, []), (130, 251, .iaload, 1, []), (131, 252, .iload_n 2, 1, []), (132, 253, .iadd, 1, []), (133, 254, .iastore, 1, []), (134, 255, .goto 100, 3, [195]), (135, 258, .iload_n 2, 1, []), (136, 259, .iload_n 3, 1, []), (137, 260, .if_icmp .ge 7, 3, [140]), (138, 263, .iload_n 2, 1, []), (139, 264, .goto 4, 3, [141]), (140, 267, .iload_n 3, 1, []), (141, 268, .istore 7, 2, []), (142, 270, .aload_n 0, 1, []), (143, 271, .getfield 98, 3, [12, 42, 2, 1377, 1]), (144, 274, .sipush 215, 3, []), (145, 277, .dup2, 1, []), (146, 278, .iaload, 1, []), (147, 279, .iload 7, 2, []), (148, 281, .iadd, 1, []), (149, 282, .iastore, 1, []), (150, 283, .aload_n 0, 1, []), (151, 284, .iload 4, 2, []), (152, 286, .iload_n 2, 1, []), (153, 287, .iload 7, 2, []), (154, 289, .isub, 1, []), (155, 290, .invokevirtual 418, 3, [1, 206, 2, 9, 0, 0, 12, 1800, 1802, 90, 137, 1803]), (156, 293, .goto 62, 3, [195]), (157, 296, .aload_n 0, 1, []), (158, 297, .getfield 98, 3, [12, 42, 2, 1377, 1]), (159, 300, .sipush 213, 3, []), (160, 303, .dup2, 1, []), (161, 304, .iaload, 1, []), (162, 305, .iload_n 3, 1, []), (163, 306, .iadd, 1, []), (164, 307, .iastore, 1, []), (165, 308, .aload_n 0, 1, []), (166, 309, .iload 4, 2, []), (167, 311, .iload_n 2, 1, []), (168, 312, .iload_n 3, 1, []), (169, 313, .iadd, 1, []), (170, 314, .invokevirtual 418, 3, [1, 206, 2, 9, 0, 0, 12, 1800, 1802, 90, 137, 1803]), (171, 317, .goto 38, 3, [195]), (172, 320, .aload_n 0, 1, []), (173, 321, .getfield 98, 3, [12, 42, 2, 1377, 1]), (174, 324, .sipush 214, 3, []), (175, 327, .dup2, 1, []), (176, 328, .iaload, 1, []), (177, 329, .iload_n 2, 1, []), (178, 330, .iload_n 3, 1, []), (179, 331, .irem, 1, []), (180, 332, .iadd, 1, []), (181, 333, .iastore, 1, []), (182, 334, .aload_n 0, 1, []), (183, 335, .iload 4, 2, []), (184, 337, .iload_n 2, 1, []), (185, 338, .iload_n 2, 1, []), (186, 339, .iload_n 3, 1, []), (187, 340, .irem, 1, []), (188, 341, .isub, 1, []), (189, 342, .invokevirtual 418, 3, [1, 206, 2, 9, 0, 0, 12, 1800, 1802, 90, 137, 1803]), (190, 345, .goto 10, 3, [195]), (191, 348, .aload_n 0, 1, []), (192, 349, .iload 4, 2, []), (193, 351, .iload_n 2, 1, []), (194, 352, .invokevirtual 418, 3, [1, 206, 2, 9, 0, 0, 12, 1800, 1802, 90, 137, 1803]), (195, 355, .return_, 1, [])]
set_option maxRecDepth 20000 in
def kX12_beat : List INS := [(0, 0, .aload_n 0, 1, []), (1, 1, .getfield 98, 3, [12, 42, 2, 1377, 1]), (2, 4, .sipush 216, 3, []), (3, 7, .dup2, 1, []), (4, 8, .iaload, 1, []), (5, 9, .iconst 1, 1, []), (6, 10, .iadd, 1, []), (7, 11, .iastore, 1, []), (8, 12, .aload_n 0, 1, []), (9, 13, .invokevirtual 421, 3, [1, 207, 0, 9, 0, 0, 12, 1792, 1794, 88, 137, 1795]), (10, 16, .iconst 0, 1, []), (11, 17, .istore_n 1, 1, []), (12, 18, .iload_n 1, 1, []), (13, 19, .aload_n 0, 1, []), (14, 20, .invokevirtual 373, 3, [1, 194, 0, 0, 0, 0, 12, 1728, 1730, 78, 137, 1731]), (15, 23, .if_icmp .ge 37, 3, [36]), (16, 26, .aload_n 0, 1, []), (17, 27, .getfield 107, 3, [12, 45, 2, 1380, 1]), (18, 30, .iload_n 1, 1, []), (19, 31, .iaload, 1, []), (20, 32, .ifCond .le 17, 3, [31]), (21, 35, .aload_n 0, 1, []), (22, 36, .getfield 98, 3, [12, 42, 2, 1377, 1]), (23, 39, .sipush 202, 3, []), (24, 42, .iload_n 1, 1, []), (25, 43, .iadd, 1, []), (26, 44, .dup2, 1, []), (27, 45, .iaload, 1, []), (28, 46, .iconst 1, 1, []), (29, 47, .iadd, 1, []), (30, 48, .iastore, 1, []), (31, 49, .aload_n 0, 1, []), (32, 50, .iload_n 1, 1, []), (33, 51, .invokevirtual 424, 3, [1, 208, 1, 9, 0, 0, 12, 1796, 1798, 89, 137, 1799]), (34, 54, .iinc 1 1, 3, []), (35, 57, .goto (-39), 3, [12]), (36, 60, .return_, 1, [])]
set_option maxRecDepth 20000 in
def kX12_onWay : List INS := [(0, 0, .iconst 0, 1, []), (1, 1, .istore_n 2, 1, []), (2, 2, .iconst 0, 1, []), (3, 3, .istore_n 3, 1, []), (4, 4, .iload_n 3, 1, []), (5, 5, .bipush 12, 2, []), (6, 7, .if_icmp .ge 23, 3, [20]), (7, 10, .iload_n 2, 1, []), (8, 11, .aload_n 0, 1, []), (9, 12, .getfield 98, 3, [12, 42, 2, 1377, 1]), (10, 15, .bipush 12, 2, []), (11, 17, .iload_n 1, 1, []), (12, 18, .imul, 1, []), (13, 19, .iload_n 3, 1, []), (14, 20, .iadd, 1, []), (15, 21, .iaload, 1, []), (16, 22, .iadd, 1, []), (17, 23, .istore_n 2, 1, []), (18, 24, .iinc 3 1, 3, []), (19, 27, .goto (-23), 3, [4]), (20, 30, .iload_n 2, 1, []), (21, 31, .ireturn, 1, [0])]
set_option maxRecDepth 20000 in
def kX12_onWays : List INS := [(0, 0, .iconst 0, 1, []), (1, 1, .istore_n 1, 1, []), (2, 2, .iconst 0, 1, []), (3, 3, .istore_n 2, 1, []), (4, 4, .iload_n 2, 1, []), (5, 5, .aload_n 0, 1, []), (6, 6, .invokevirtual 380, 3, [1, 195, 0, 0, 0, 0, 12, 1747, 1749, 81, 137, 1750]), (7, 9, .if_icmp .ge 17, 3, [16]), (8, 12, .iload_n 1, 1, []), (9, 13, .aload_n 0, 1, []), (10, 14, .iload_n 2, 1, []), (11, 15, .invokevirtual 427, 3, [1, 210, 1, 0, 0, 0, 12, 1751, 1753, 82, 137, 1754]), (12, 18, .iadd, 1, []), (13, 19, .istore_n 1, 1, []), (14, 20, .iinc 2 1, 3, []), (15, 23, .goto (-19), 3, [4]), (16, 26, .iload_n 1, 1, []), (17, 27, .ireturn, 1, [0])]
set_option maxRecDepth 20000 in
def kX12_staying : List INS := [(0, 0, .iconst 0, 1, []), (1, 1, .istore_n 1, 1, []), (2, 2, .iconst 0, 1, []), (3, 3, .istore_n 2, 1, []), (4, 4, .iload_n 2, 1, []), (5, 5, .aload_n 0, 1, []), (6, 6, .invokevirtual 373, 3, [1, 194, 0, 0, 0, 0, 12, 1728, 1730, 78, 137, 1731]), (7, 9, .if_icmp .ge 22, 3, [19]), (8, 12, .iload_n 1, 1, []), (9, 13, .aload_n 0, 1, []), (10, 14, .getfield 98, 3, [12, 42, 2, 1377, 1]), (11, 17, .sipush 192, 3, []), (12, 20, .iload_n 2, 1, []), (13, 21, .iadd, 1, []), (14, 22, .iaload, 1, []), (15, 23, .iadd, 1, []), (16, 24, .istore_n 1, 1, []), (17, 25, .iinc 2 1, 3, []), (18, 28, .goto (-24), 3, [4]), (19, 31, .iload_n 1, 1, []), (20, 32, .ireturn, 1, [0])]
set_option maxRecDepth 20000 in
def kX12_tower : List INS := [(0, 0, .aload_n 0, 1, []), (1, 1, .iload_n 1, 1, []), (2, 2, .invokevirtual 383, 3, [1, 198, 1, 5, 0, 0, 12, 1724, 1726, 77, 137, 1727]), (3, 5, .ifCond .ne 5, 3, [6]), (4, 8, .iconst (-1), 1, []), (5, 9, .ireturn, 1, [0]), (6, 10, .iload_n 2, 1, []), (7, 11, .ifCond .ne 11, 3, [12]), (8, 14, .aload_n 0, 1, []), (9, 15, .iload_n 1, 1, []), (10, 16, .invokevirtual 386, 3, [1, 197, 1, 0, 0, 0, 12, 1735, 1737, 79, 137, 1738]), (11, 19, .goto 62, 3, [46]), (12, 22, .iload_n 2, 1, []), (13, 23, .iconst 1, 1, []), (14, 24, .if_icmp .ne 20, 3, [25]), (15, 27, .aload_n 0, 1, []), (16, 28, .getfield 42, 3, [12, 18, 2, 1353, 1]), (17, 31, .bipush 10, 2, []), (18, 33, .aload_n 0, 1, []), (19, 34, .getfield 283, 3, [12, 36, 0, 1371, 0]), (20, 37, .imul, 1, []), (21, 38, .iload_n 1, 1, []), (22, 39, .iadd, 1, []), (23, 40, .iaload, 1, []), (24, 41, .goto 40, 3, [46]), (25, 44, .iload_n 2, 1, []), (26, 45, .iconst 2, 1, []), (27, 46, .if_icmp .ne 16, 3, [35]), (28, 49, .aload_n 0, 1, []), (29, 50, .getfield 98, 3, [12, 42, 2, 1377, 1]), (30, 53, .sipush 192, 3, []), (31, 56, .iload_n 1, 1, []), (32, 57, .iadd, 1, []), (33, 58, .iaload, 1, []), (34, 59, .goto 22, 3, [46]), (35, 62, .iload_n 2, 1, []), (36, 63, .iconst 3, 1, []), (37, 64, .if_icmp .ne 16, 3, [45]), (38, 67, .aload_n 0, 1, []), (39, 68, .getfield 98, 3, [12, 42, 2, 1377, 1]), (40, 71, .sipush 202, 3, []), (41, 74, .iload_n 1, 1, []), (42, 75, .iadd, 1, []), (43, 76, .iaload, 1, []), (44, 77, .goto 4, 3, [46]), (45, 80, .iconst (-1), 1, []), (46, 81, .ireturn, 1, [0])]
set_option maxRecDepth 20000 in
def kX12_way : List INS := [(0, 0, .aload_n 0, 1, []), (1, 1, .iload_n 1, 1, []), (2, 2, .invokevirtual 430, 3, [1, 199, 1, 5, 0, 0, 12, 1743, 1745, 80, 137, 1746]), (3, 5, .ifCond .ne 5, 3, [6]), (4, 8, .iconst (-1), 1, []), (5, 9, .ireturn, 1, [0]), (6, 10, .iload_n 2, 1, []), (7, 11, .ifCond .ne 20, 3, [18]), (8, 14, .aload_n 0, 1, []), (9, 15, .getfield 48, 3, [12, 20, 2, 1355, 1]), (10, 18, .bipush 16, 2, []), (11, 20, .aload_n 0, 1, []), (12, 21, .getfield 283, 3, [12, 36, 0, 1371, 0]), (13, 24, .imul, 1, []), (14, 25, .iload_n 1, 1, []), (15, 26, .iadd, 1, []), (16, 27, .iaload, 1, []), (17, 28, .goto 61, 3, [52]), (18, 31, .iload_n 2, 1, []), (19, 32, .iconst 1, 1, []), (20, 33, .if_icmp .ne 20, 3, [31]), (21, 36, .aload_n 0, 1, []), (22, 37, .getfield 51, 3, [12, 21, 2, 1356, 1]), (23, 40, .bipush 16, 2, []), (24, 42, .aload_n 0, 1, []), (25, 43, .getfield 283, 3, [12, 36, 0, 1371, 0]), (26, 46, .imul, 1, []), (27, 47, .iload_n 1, 1, []), (28, 48, .iadd, 1, []), (29, 49, .iaload, 1, []), (30, 50, .goto 39, 3, [52]), (31, 53, .iload_n 2, 1, []), (32, 54, .iconst 2, 1, []), (33, 55, .if_icmp .ne 20, 3, [44]), (34, 58, .aload_n 0, 1, []), (35, 59, .getfield 54, 3, [12, 22, 2, 1357, 1]), (36, 62, .bipush 16, 2, []), (37, 64, .aload_n 0, 1, []), (38, 65, .getfield 283, 3, [12, 36, 0, 1371, 0]), (39, 68, .imul, 1, []), (40, 69, .iload_n 1, 1, []), (41, 70, .iadd, 1, []), (42, 71, .iaload, 1, []), (43, 72, .goto 17, 3, [52]), (44, 75, .iload_n 2, 1, []), (45, 76, .iconst 3, 1, []), (46, 77, .if_icmp .ne 11, 3, [51]), (47, 80, .aload_n 0, 1, []), (48, 81, .iload_n 1, 1, []), (49, 82, .invokevirtual 427, 3, [1, 210, 1, 0, 0, 0, 12, 1751, 1753, 82, 137, 1754]), (50, 85, .goto 4, 3, [52]), (51, 88, .iconst (-1), 1, []), (52, 89, .ireturn, 1, [0])]
set_option maxRecDepth 20000 in
def kX12_flock : List INS := [(0, 0, .aload_n 0, 1, []), (1, 1, .iload_n 1, 1, []), (2, 2, .invokevirtual 430, 3, [1, 199, 1, 5, 0, 0, 12, 1743, 1745, 80, 137, 1746]), (3, 5, .ifCond .eq 29, 3, [20]), (4, 8, .iload_n 2, 1, []), (5, 9, .iconst 1, 1, []), (6, 10, .bipush 12, 2, []), (7, 12, .invokestatic 376, 3, [0, 193, 3, 5, 0, 0, 0, 1732, 1733, 0, 137, 1734]), (8, 15, .ifCond .eq 19, 3, [20]), (9, 18, .aload_n 0, 1, []), (10, 19, .getfield 98, 3, [12, 42, 2, 1377, 1]), (11, 22, .bipush 12, 2, []), (12, 24, .iload_n 1, 1, []), (13, 25, .imul, 1, []), (14, 26, .iload_n 2, 1, []), (15, 27, .iadd, 1, []), (16, 28, .iconst 1, 1, []), (17, 29, .isub, 1, []), (18, 30, .iaload, 1, []), (19, 31, .goto 4, 3, [21]), (20, 34, .iconst (-1), 1, []), (21, 35, .ireturn, 1, [0])]
set_option maxRecDepth 20000 in
def kX12_geese : List INS := [(0, 0, .iload_n 1, 1, []), (1, 1, .tableswitch 85 0 5 #[39, 48, 57, 62, 67, 76], 39, [28, 2, 7, 12, 15, 18, 23]), (2, 40, .aload_n 0, 1, []), (3, 41, .getfield 98, 3, [12, 42, 2, 1377, 1]), (4, 44, .sipush 212, 3, []), (5, 47, .iaload, 1, []), (6, 48, .ireturn, 1, [0]), (7, 49, .aload_n 0, 1, []), (8, 50, .getfield 98, 3, [12, 42, 2, 1377, 1]), (9, 53, .sipush 213, 3, []), (10, 56, .iaload, 1, []), (11, 57, .ireturn, 1, [0]), (12, 58, .aload_n 0, 1, []), (13, 59, .invokevirtual 433, 3, [1, 211, 0, 0, 0, 0, 12, 1763, 1765, 83, 137, 1766]), (14, 62, .ireturn, 1, [0]), (15, 63, .aload_n 0, 1, []), (16, 64, .invokevirtual 436, 3, [1, 212, 0, 0, 0, 0, 12, 1767, 1769, 84, 137, 1770]), (17, 67, .ireturn, 1, [0]), (18, 68, .aload_n 0, 1, []), (19, 69, .getfield 98, 3, [12, 42, 2, 1377, 1]), (20, 72, .sipush 214, 3, []), (21, 75, .iaload, 1, []), (22, 76, .ireturn, 1, [0]), (23, 77, .aload_n 0, 1, []), (24, 78, .getfield 98, 3, [12, 42, 2, 1377, 1]), (25, 81, .sipush 215, 3, []), (26, 84, .iaload, 1, []), (27, 85, .ireturn, 1, [0]), (28, 86, .iconst (-1), 1, []), (29, 87, .ireturn, 1, [0])]
set_option maxRecDepth 20000 in
def kX12_keepAct : List INS := [(0, 0, .aload_n 0, 1, []), (1, 1, .getfield 395, 3, [12, 51, 0, 1386, 0]), (2, 4, .bipush 40, 2, []), (3, 6, .if_icmp .ne 44, 3, [27]), (4, 9, .iconst 0, 1, []), (5, 10, .istore_n 1, 1, []), (6, 11, .iload_n 1, 1, []), (7, 12, .sipush 8720, 3, []), (8, 15, .if_icmp .ge 25, 3, [21]), (9, 18, .aload_n 0, 1, []), (10, 19, .getfield 113, 3, [12, 50, 2, 1385, 1]), (11, 22, .iload_n 1, 1, []), (12, 23, .aload_n 0, 1, []), (13, 24, .getfield 113, 3, [12, 50, 2, 1385, 1]), (14, 27, .iload_n 1, 1, []), (15, 28, .sipush 218, 3, []), (16, 31, .iadd, 1, []), (17, 32, .iaload, 1, []), (18, 33, .iastore, 1, []), (19, 34, .iinc 1 1, 3, []), (20, 37, .goto (-26), 3, [6]), (21, 40, .aload_n 0, 1, []), (22, 41, .dup, 1, []), (23, 42, .getfield 395, 3, [12, 51, 0, 1386, 0]), (24, 45, .iconst 1, 1, []), (25, 46, .isub, 1, []), (26, 47, .putfield 395, 3, [12, 51, 0, 1386, 0]), (27, 50, .iconst 0, 1, []), (28, 51, .istore_n 1, 1, []), (29, 52, .iload_n 1, 1, []), (30, 53, .sipush 218, 3, []), (31, 56, .if_icmp .ge 30, 3, [47]), (32, 59, .aload_n 0, 1, []), (33, 60, .getfield 113, 3, [12, 50, 2, 1385, 1]), (34, 63, .sipush 218, 3, []), (35, 66, .aload_n 0, 1, []), (36, 67, .getfield 395, 3, [12, 51, 0, 1386, 0]), (37, 70, .imul, 1, []), (38, 71, .iload_n 1, 1, []), (39, 72, .iadd, 1, []), (40, 73, .aload_n 0, 1, []), (41, 74, .getfield 98, 3, [12, 42, 2, 1377, 1]), (42, 77, .iload_n 1, 1, []), (43, 78, .iaload, 1, []), (44, 79, .iastore, 1, []), (45, 80, .iinc 1 1, 3, []), (46, 83, .goto (-31), 3, [29]), (47, 86, .aload_n 0, 1, []), (48, 87, .dup, 1, []), (49, 88, .getfield 395, 3, [12, 51, 0, 1386, 0]), (50, 91, .iconst 1, 1, []), (51, 92, .iadd, 1, []), (52, 93, .putfield 395, 3, [12, 51, 0, 1386, 0]), (53, 96, .aload_n 0, 1, []), (54, 97, .iconst 0, 1, []), (55, 98, .putfield 398, 3, [12, 52, 0, 1387, 0]), (56, 101, .return_, 1, [])]
set_option maxRecDepth 20000 in
def kX12_exchange : List INS := [(0, 0, .iconst 0, 1, []), (1, 1, .istore_n 1, 1, []), (2, 2, .iload_n 1, 1, []), (3, 3, .sipush 218, 3, []), (4, 6, .if_icmp .ge 53, 3, [35]), (5, 9, .aload_n 0, 1, []), (6, 10, .getfield 113, 3, [12, 50, 2, 1385, 1]), (7, 13, .sipush 218, 3, []), (8, 16, .aload_n 0, 1, []), (9, 17, .getfield 395, 3, [12, 51, 0, 1386, 0]), (10, 20, .imul, 1, []), (11, 21, .iload_n 1, 1, []), (12, 22, .iadd, 1, []), (13, 23, .iaload, 1, []), (14, 24, .istore_n 2, 1, []), (15, 25, .aload_n 0, 1, []), (16, 26, .getfield 113, 3, [12, 50, 2, 1385, 1]), (17, 29, .sipush 218, 3, []), (18, 32, .aload_n 0, 1, []), (19, 33, .getfield 395, 3, [12, 51, 0, 1386, 0]), (20, 36, .imul, 1, []), (21, 37, .iload_n 1, 1, []), (22, 38, .iadd, 1, []), (23, 39, .aload_n 0, 1, []), (24, 40, .getfield 98, 3, [12, 42, 2, 1377, 1]), (25, 43, .iload_n 1, 1, []), (26, 44, .iaload, 1, []), (27, 45, .iastore, 1, []), (28, 46, .aload_n 0, 1, []), (29, 47, .getfield 98, 3, [12, 42, 2, 1377, 1]), (30, 50, .iload_n 1, 1, []), (31, 51, .iload_n 2, 1, []), (32, 52, .iastore, 1, []), (33, 53, .iinc 1 1, 3, []), (34, 56, .goto (-54), 3, [2]), (35, 59, .return_, 1, [])]
set_option maxRecDepth 20000 in
def kX12_begin : List INS := [(0, 0, .iload_n 1, 1, []), (1, 1, .iconst 0, 1, []), (2, 2, .aload_n 0, 1, []), (3, 3, .invokevirtual 439, 3, [1, 196, 0, 0, 0, 0, 12, 1775, 1777, 85, 137, 1778]), (4, 6, .iconst 1, 1, []), (5, 7, .isub, 1, []), (6, 8, .invokestatic 376, 3, [0, 193, 3, 5, 0, 0, 0, 1732, 1733, 0, 137, 1734]), (7, 11, .ifCond .eq 14, 3, [13]), (8, 14, .iload_n 2, 1, []), (9, 15, .iconst 1, 1, []), (10, 16, .sipush 999, 3, []), (11, 19, .invokestatic 376, 3, [0, 193, 3, 5, 0, 0, 0, 1732, 1733, 0, 137, 1734]), (12, 22, .ifCond .ne 5, 3, [15]), (13, 25, .iconst (-1), 1, []), (14, 26, .ireturn, 1, [0]), (15, 27, .sipush 192, 3, []), (16, 30, .aload_n 0, 1, []), (17, 31, .getfield 45, 3, [12, 19, 2, 1354, 1]), (18, 34, .iconst 3, 1, []), (19, 35, .aload_n 0, 1, []), (20, 36, .getfield 283, 3, [12, 36, 0, 1371, 0]), (21, 39, .imul, 1, []), (22, 40, .iload_n 1, 1, []), (23, 41, .iadd, 1, []), (24, 42, .iaload, 1, []), (25, 43, .iadd, 1, []), (26, 44, .istore_n 3, 1, []), (27, 45, .aload_n 0, 1, []), (28, 46, .getfield 98, 3, [12, 42, 2, 1377, 1]), (29, 49, .iload_n 3, 1, []), (30, 50, .iaload, 1, []), (31, 51, .iload_n 2, 1, []), (32, 52, .iadd, 1, []), (33, 53, .ldc_w 410, 3, [999999, 1779]), (34, 56, .if_icmp .le 5, 3, [37]), (35, 59, .iconst (-1), 1, []), (36, 60, .ireturn, 1, [0]), (37, 61, .aload_n 0, 1, []), (38, 62, .invokevirtual 442, 3, [1, 217, 0, 9, 0, 0, 12, 1780, 1782, 86, 137, 1783]), (39, 65, .aload_n 0, 1, []), (40, 66, .getfield 98, 3, [12, 42, 2, 1377, 1]), (41, 69, .iload_n 3, 1, []), (42, 70, .dup2, 1, []), (43, 71, .iaload, 1, []), (44, 72, .iload_n 2, 1, []), (45, 73, .iadd, 1, []), (46, 74, .iastore, 1, []), (47, 75, .aload_n 0, 1, []), (48, 76, .getfield 98, 3, [12, 42, 2, 1377, 1]), (49, 79, .sipush 212, 3, []), (50, 82, .dup2, 1, []), (51, 83, .iaload, 1, []), (52, 84, .iload_n 2, 1, []), (53, 85, .iadd, 1, []), (54, 86, .iastore, 1, []), (55, 87, .aload_n 0, 1, []), (56, 88, .getfield 98, 3, [12, 42, 2, 1377, 1]), (57, 91, .iload_n 3, 1, []), (58, 92, .iaload, 1, []), (59, 93, .ireturn, 1, [0])]
set_option maxRecDepth 20000 in
def kX12_beats : List INS := [(0, 0, .iload_n 1, 1, []), (1, 1, .iconst 0, 1, []), (2, 2, .bipush 60, 2, []), (3, 4, .invokestatic 376, 3, [0, 193, 3, 5, 0, 0, 0, 1732, 1733, 0, 137, 1734]), (4, 7, .ifCond .eq 19, 3, [13]), (5, 10, .aload_n 0, 1, []), (6, 11, .getfield 98, 3, [12, 42, 2, 1377, 1]), (7, 14, .sipush 216, 3, []), (8, 17, .iaload, 1, []), (9, 18, .iload_n 1, 1, []), (10, 19, .iadd, 1, []), (11, 20, .sipush 1000, 3, []), (12, 23, .if_icmp .le 5, 3, [15]), (13, 26, .iconst (-1), 1, []), (14, 27, .ireturn, 1, [0]), (15, 28, .aload_n 0, 1, []), (16, 29, .invokevirtual 442, 3, [1, 217, 0, 9, 0, 0, 12, 1780, 1782, 86, 137, 1783]), (17, 32, .iconst 0, 1, []), (18, 33, .istore_n 2, 1, []), (19, 34, .iload_n 2, 1, []), (20, 35, .iload_n 1, 1, []), (21, 36, .if_icmp .ge 13, 3, [26]), (22, 39, .aload_n 0, 1, []), (23, 40, .invokevirtual 445, 3, [1, 209, 0, 9, 0, 0, 12, 1788, 1790, 87, 137, 1791]), (24, 43, .iinc 2 1, 3, []), (25, 46, .goto (-12), 3, [19]), (26, 49, .aload_n 0, 1, []), (27, 50, .getfield 98, 3, [12, 42, 2, 1377, 1]), (28, 53, .sipush 216, 3, []), (29, 56, .iaload, 1, []), (30, 57, .ireturn, 1, [0])]
set_option maxRecDepth 20000 in
def kX12_gust : List INS := [(0, 0, .aload_n 0, 1, []), (1, 1, .invokevirtual 380, 3, [1, 195, 0, 0, 0, 0, 12, 1747, 1749, 81, 137, 1750]), (2, 4, .ifCond .ne 5, 3, [5]), (3, 7, .iconst (-1), 1, []), (4, 8, .ireturn, 1, [0]), (5, 9, .aload_n 0, 1, []), (6, 10, .invokevirtual 442, 3, [1, 217, 0, 9, 0, 0, 12, 1780, 1782, 86, 137, 1783]), (7, 13, .aload_n 0, 1, []), (8, 14, .getfield 98, 3, [12, 42, 2, 1377, 1]), (9, 17, .sipush 217, 3, []), (10, 20, .sipush 137, 3, []), (11, 23, .aload_n 0, 1, []), (12, 24, .getfield 98, 3, [12, 42, 2, 1377, 1]), (13, 27, .sipush 217, 3, []), (14, 30, .iaload, 1, []), (15, 31, .imul, 1, []), (16, 32, .bipush 71, 2, []), (17, 34, .iadd, 1, []), (18, 35, .sipush 1000, 3, []), (19, 38, .irem, 1, []), (20, 39, .iastore, 1, []), (21, 40, .aload_n 0, 1, []), (22, 41, .getfield 98, 3, [12, 42, 2, 1377, 1]), (23, 44, .sipush 217, 3, []), (24, 47, .iaload, 1, []), (25, 48, .aload_n 0, 1, []), (26, 49, .invokevirtual 380, 3, [1, 195, 0, 0, 0, 0, 12, 1747, 1749, 81, 137, 1750]), (27, 52, .irem, 1, []), (28, 53, .istore_n 1, 1, []), (29, 54, .aload_n 0, 1, []), (30, 55, .getfield 98, 3, [12, 42, 2, 1377, 1]), (31, 58, .bipush 12, 2, []), (32, 60, .iload_n 1, 1, []), (33, 61, .imul, 1, []), (34, 62, .bipush 12, 2, []), (35, 64, .iadd, 1, []), (36, 65, .iconst 1, 1, []), (37, 66, .isub, 1, []), (38, 67, .dup2, 1, []), (39, 68, .iaload, 1, []), (40, 69, .aload_n 0, 1, []), (41, 70, .getfield 98, 3, [12, 42, 2, 1377, 1]), (42, 73, .bipush 12, 2, []), (43, 75, .iload_n 1, 1, []), (44, 76, .imul, 1, []), (45, 77, .bipush 12, 2, []), (46, 79, .iadd, 1, []), (47, 80, .iconst 2, 1, []), (48, 81, .isub, 1, []), (49, 82, .iaload, 1, []), (50, 83, .iadd, 1, []), (51, 84, .iastore, 1, []), (52, 85, .bipush 10, 2, []), (53, 87, .istore_n 2, 1, []), (54, 88, .iload_n 2, 1, []), (55, 89, .ifCond .le 33, 3, [76]), (56, 92, .aload_n 0, 1, []), (57, 93, .getfield 98, 3, [12, 42, 2, 1377, 1]), (58, 96, .bipush 12, 2, []), (59, 98, .iload_n 1, 1, []), (60, 99, .imul, 1, []), (61, 100, .iload_n 2, 1, []), (62, 101, .iadd, 1, []), (63, 102, .aload_n 0, 1, []), (64, 103, .getfield 98, 3, [12, 42, 2, 1377, 1]), (65, 106, .bipush 12, 2, []), (66, 108, .iload_n 1, 1, []), (67, 109, .imul, 1, []), (68, 110, .iload_n 2, 1, []), (69, 111, .iadd, 1, []), (70, 112, .iconst 1, 1, []), (71, 113, .isub, 1, []), (72, 114, .iaload, 1, []), (73, 115, .iastore, 1, []), (74, 116, .iinc 2 (-1), 3, []), (75, 119, .goto (-31), 3, [54]), (76, 122, .aload_n 0, 1, []), (77, 123, .getfield 98, 3, [12, 42, 2, 1377, 1]), (78, 126, .bipush 12, 2, []), (79, 128, .iload_n 1, 1, []), (80, 129, .imul, 1, []), (81, 130, .iconst 0, 1, []), (82, 131, .iastore, 1, []), (83, 132, .iload_n 1, 1, []), (84, 133, .ireturn, 1, [0])]
set_option maxRecDepth 20000 in
def kX12_undo : List INS := [(0, 0, .aload_n 0, 1, []), (1, 1, .getfield 395, 3, [12, 51, 0, 1386, 0]), (2, 4, .ifCond .ne 5, 3, [5]), (3, 7, .iconst 0, 1, []), (4, 8, .ireturn, 1, [5]), (5, 9, .aload_n 0, 1, []), (6, 10, .dup, 1, []), (7, 11, .getfield 395, 3, [12, 51, 0, 1386, 0]), (8, 14, .iconst 1, 1, []), (9, 15, .isub, 1, []), (10, 16, .putfield 395, 3, [12, 51, 0, 1386, 0]), (11, 19, .aload_n 0, 1, []), (12, 20, .dup, 1, []), (13, 21, .getfield 398, 3, [12, 52, 0, 1387, 0]), (14, 24, .iconst 1, 1, []), (15, 25, .iadd, 1, []), (16, 26, .putfield 398, 3, [12, 52, 0, 1387, 0]), (17, 29, .aload_n 0, 1, []), (18, 30, .invokevirtual 448, 3, [1, 218, 0, 9, 0, 0, 12, 1812, 1814, 91, 137, 1815]), (19, 33, .iconst 1, 1, []), (20, 34, .ireturn, 1, [5])]
set_option maxRecDepth 20000 in
def kX12_redo : List INS := [(0, 0, .aload_n 0, 1, []), (1, 1, .getfield 398, 3, [12, 52, 0, 1387, 0]), (2, 4, .ifCond .ne 5, 3, [5]), (3, 7, .iconst 0, 1, []), (4, 8, .ireturn, 1, [5]), (5, 9, .aload_n 0, 1, []), (6, 10, .invokevirtual 448, 3, [1, 218, 0, 9, 0, 0, 12, 1812, 1814, 91, 137, 1815]), (7, 13, .aload_n 0, 1, []), (8, 14, .dup, 1, []), (9, 15, .getfield 395, 3, [12, 51, 0, 1386, 0]), (10, 18, .iconst 1, 1, []), (11, 19, .iadd, 1, []), (12, 20, .putfield 395, 3, [12, 51, 0, 1386, 0]), (13, 23, .aload_n 0, 1, []), (14, 24, .dup, 1, []), (15, 25, .getfield 398, 3, [12, 52, 0, 1387, 0]), (16, 28, .iconst 1, 1, []), (17, 29, .isub, 1, []), (18, 30, .putfield 398, 3, [12, 52, 0, 1387, 0]), (19, 33, .iconst 1, 1, []), (20, 34, .ireturn, 1, [5])]
set_option maxRecDepth 20000 in
def kX12_lies : List INS := [(0, 0, .iload_n 1, 1, []), (1, 1, .iconst 0, 1, []), (2, 2, .aload_n 0, 1, []), (3, 3, .getfield 407, 3, [12, 55, 0, 1390, 0]), (4, 6, .iconst 1, 1, []), (5, 7, .isub, 1, []), (6, 8, .invokestatic 376, 3, [0, 193, 3, 5, 0, 0, 0, 1732, 1733, 0, 137, 1734]), (7, 11, .ifCond .eq 12, 3, [13]), (8, 14, .aload_n 0, 1, []), (9, 15, .getfield 116, 3, [12, 53, 2, 1388, 1]), (10, 18, .iload_n 1, 1, []), (11, 19, .iaload, 1, []), (12, 20, .goto 4, 3, [14]), (13, 23, .iconst (-1), 1, []), (14, 24, .ireturn, 1, [0])]
set_option maxRecDepth 20000 in
def kX12_row : List INS := [(0, 0, .iload_n 1, 1, []), (1, 1, .iconst 0, 1, []), (2, 2, .aload_n 0, 1, []), (3, 3, .invokevirtual 439, 3, [1, 196, 0, 0, 0, 0, 12, 1775, 1777, 85, 137, 1778]), (4, 6, .iconst 1, 1, []), (5, 7, .isub, 1, []), (6, 8, .invokestatic 376, 3, [0, 193, 3, 5, 0, 0, 0, 1732, 1733, 0, 137, 1734]), (7, 11, .ifCond .eq 14, 3, [13]), (8, 14, .iload_n 2, 1, []), (9, 15, .iconst 0, 1, []), (10, 16, .sipush 999, 3, []), (11, 19, .invokestatic 376, 3, [0, 193, 3, 5, 0, 0, 0, 1732, 1733, 0, 137, 1734]), (12, 22, .ifCond .ne 5, 3, [15]), (13, 25, .iconst (-1), 1, []), (14, 26, .ireturn, 1, [0]), (15, 27, .aload_n 0, 1, []), (16, 28, .getfield 110, 3, [12, 46, 2, 1381, 1]), (17, 31, .iload_n 1, 1, []), (18, 32, .iaload, 1, []), (19, 33, .istore_n 3, 1, []), (20, 34, .aload_n 0, 1, []), (21, 35, .getfield 110, 3, [12, 46, 2, 1381, 1]), (22, 38, .iload_n 1, 1, []), (23, 39, .iload_n 2, 1, []), (24, 40, .iastore, 1, []), (25, 41, .iload_n 3, 1, []), (26, 42, .ireturn, 1, [0])]
set_option maxRecDepth 20000 in
def kX12_clearFor : List INS := [(0, 0, .aload_n 0, 1, []), (1, 1, .invokevirtual 389, 3, [1, 203, 0, 9, 0, 0, 12, 1331, 1333, 45, 137, 1334]), (2, 4, .iconst 0, 1, []), (3, 5, .istore_n 1, 1, []), (4, 6, .iload_n 1, 1, []), (5, 7, .aload_n 0, 1, []), (6, 8, .invokevirtual 439, 3, [1, 196, 0, 0, 0, 0, 12, 1775, 1777, 85, 137, 1778]), (7, 11, .if_icmp .ge 37, 3, [28]), (8, 14, .aload_n 0, 1, []), (9, 15, .getfield 98, 3, [12, 42, 2, 1377, 1]), (10, 18, .sipush 192, 3, []), (11, 21, .aload_n 0, 1, []), (12, 22, .getfield 45, 3, [12, 19, 2, 1354, 1]), (13, 25, .iconst 3, 1, []), (14, 26, .aload_n 0, 1, []), (15, 27, .getfield 283, 3, [12, 36, 0, 1371, 0]), (16, 30, .imul, 1, []), (17, 31, .iload_n 1, 1, []), (18, 32, .iadd, 1, []), (19, 33, .iaload, 1, []), (20, 34, .iadd, 1, []), (21, 35, .aload_n 0, 1, []), (22, 36, .getfield 110, 3, [12, 46, 2, 1381, 1]), (23, 39, .iload_n 1, 1, []), (24, 40, .iaload, 1, []), (25, 41, .iastore, 1, []), (26, 42, .iinc 1 1, 3, []), (27, 45, .goto (-39), 3, [4]), (28, 48, .return_, 1, [])]
set_option maxRecDepth 20000 in
def kX12_reckoned : List INS := [(0, 0, .aload_n 0, 1, []), (1, 1, .invokevirtual 451, 3, [1, 226, 0, 9, 0, 0, 12, 1847, 1849, 95, 137, 1850]), (2, 4, .iconst 0, 1, []), (3, 5, .istore_n 3, 1, []), (4, 6, .iload_n 3, 1, []), (5, 7, .iload_n 2, 1, []), (6, 8, .if_icmp .ge 13, 3, [11]), (7, 11, .aload_n 0, 1, []), (8, 12, .invokevirtual 445, 3, [1, 209, 0, 9, 0, 0, 12, 1788, 1790, 87, 137, 1791]), (9, 15, .iinc 3 1, 3, []), (10, 18, .goto (-12), 3, [4]), (11, 21, .aload_n 0, 1, []), (12, 22, .getfield 98, 3, [12, 42, 2, 1377, 1]), (13, 25, .sipush 192, 3, []), (14, 28, .iload_n 1, 1, []), (15, 29, .iadd, 1, []), (16, 30, .iaload, 1, []), (17, 31, .ireturn, 1, [0])]
set_option maxRecDepth 20000 in
def kX12_isBeats : List INS := [(0, 0, .iload_n 0, 1, []), (1, 1, .iconst 1, 1, []), (2, 2, .bipush 100, 2, []), (3, 4, .invokestatic 376, 3, [0, 193, 3, 5, 0, 0, 0, 1732, 1733, 0, 137, 1734]), (4, 7, .ireturn, 1, [5])]
set_option maxRecDepth 20000 in
def kX12_reckon : List INS := [(0, 0, .aload_n 0, 1, []), (1, 1, .iload_n 1, 1, []), (2, 2, .invokevirtual 454, 3, [1, 200, 1, 5, 0, 0, 12, 1832, 1834, 92, 137, 1835]), (3, 5, .ifCond .eq 10, 3, [7]), (4, 8, .iload_n 2, 1, []), (5, 9, .invokestatic 457, 3, [0, 228, 1, 5, 0, 0, 0, 1836, 1837, 0, 137, 1838]), (6, 12, .ifCond .ne 5, 3, [9]), (7, 15, .iconst (-1), 1, []), (8, 16, .ireturn, 1, [0]), (9, 17, .aload_n 0, 1, []), (10, 18, .invokevirtual 460, 3, [1, 204, 0, 9, 0, 0, 12, 1839, 1841, 93, 137, 1842]), (11, 21, .aload_n 0, 1, []), (12, 22, .iload_n 1, 1, []), (13, 23, .iload_n 2, 1, []), (14, 24, .invokevirtual 463, 3, [1, 227, 2, 0, 0, 0, 12, 1843, 1845, 94, 137, 1846]), (15, 27, .istore_n 3, 1, []), (16, 28, .aload_n 0, 1, []), (17, 29, .invokevirtual 466, 3, [1, 205, 0, 9, 0, 0, 12, 1851, 1853, 96, 137, 1854]), (18, 32, .iload_n 3, 1, []), (19, 33, .ireturn, 1, [0])]
set_option maxRecDepth 20000 in
def kX12_isStill : List INS := [(0, 0, .aload_n 0, 1, []), (1, 1, .invokevirtual 433, 3, [1, 211, 0, 0, 0, 0, 12, 1763, 1765, 83, 137, 1766]), (2, 4, .ifCond .le 5, 3, [5]), (3, 7, .iconst 0, 1, []), (4, 8, .ireturn, 1, [5]), (5, 9, .iconst 0, 1, []), (6, 10, .istore_n 1, 1, []), (7, 11, .iload_n 1, 1, []), (8, 12, .aload_n 0, 1, []), (9, 13, .invokevirtual 373, 3, [1, 194, 0, 0, 0, 0, 12, 1728, 1730, 78, 137, 1731]), (10, 16, .if_icmp .ge 70, 3, [49]), (11, 19, .aload_n 0, 1, []), (12, 20, .iload_n 1, 1, []), (13, 21, .invokevirtual 386, 3, [1, 197, 1, 0, 0, 0, 12, 1735, 1737, 79, 137, 1738]), (14, 24, .ifCond .ne 18, 3, [24]), (15, 27, .aload_n 0, 1, []), (16, 28, .getfield 98, 3, [12, 42, 2, 1377, 1]), (17, 31, .sipush 192, 3, []), (18, 34, .iload_n 1, 1, []), (19, 35, .iadd, 1, []), (20, 36, .iaload, 1, []), (21, 37, .ifCond .le 5, 3, [24]), (22, 40, .iconst 0, 1, []), (23, 41, .ireturn, 1, [5]), (24, 42, .aload_n 0, 1, []), (25, 43, .iload_n 1, 1, []), (26, 44, .invokevirtual 386, 3, [1, 197, 1, 0, 0, 0, 12, 1735, 1737, 79, 137, 1738]), (27, 47, .iconst 5, 1, []), (28, 48, .if_icmp .ne 32, 3, [47]), (29, 51, .aload_n 0, 1, []), (30, 52, .getfield 98, 3, [12, 42, 2, 1377, 1]), (31, 55, .sipush 192, 3, []), (32, 58, .iload_n 1, 1, []), (33, 59, .iadd, 1, []), (34, 60, .iaload, 1, []), (35, 61, .aload_n 0, 1, []), (36, 62, .getfield 42, 3, [12, 18, 2, 1353, 1]), (37, 65, .bipush 10, 2, []), (38, 67, .aload_n 0, 1, []), (39, 68, .getfield 283, 3, [12, 36, 0, 1371, 0]), (40, 71, .imul, 1, []), (41, 72, .iload_n 1, 1, []), (42, 73, .iadd, 1, []), (43, 74, .iaload, 1, []), (44, 75, .if_icmp .lt 5, 3, [47]), (45, 78, .iconst 0, 1, []), (46, 79, .ireturn, 1, [5]), (47, 80, .iinc 1 1, 3, []), (48, 83, .goto (-72), 3, [7]), (49, 86, .iconst 1, 1, []), (50, 87, .ireturn, 1, [5])]
set_option maxRecDepth 20000 in
def kX12_still : List INS := [(0, 0, .aload_n 0, 1, []), (1, 1, .invokevirtual 460, 3, [1, 204, 0, 9, 0, 0, 12, 1839, 1841, 93, 137, 1842]), (2, 4, .aload_n 0, 1, []), (3, 5, .invokevirtual 451, 3, [1, 226, 0, 9, 0, 0, 12, 1847, 1849, 95, 137, 1850]), (4, 8, .iconst (-1), 1, []), (5, 9, .istore_n 1, 1, []), (6, 10, .iconst 0, 1, []), (7, 11, .istore_n 2, 1, []), (8, 12, .iload_n 2, 1, []), (9, 13, .sipush 200, 3, []), (10, 16, .if_icmp .gt 30, 3, [24]), (11, 19, .iload_n 1, 1, []), (12, 20, .ifCond .ge 26, 3, [24]), (13, 23, .iload_n 2, 1, []), (14, 24, .ifCond .le 7, 3, [17]), (15, 27, .aload_n 0, 1, []), (16, 28, .invokevirtual 445, 3, [1, 209, 0, 9, 0, 0, 12, 1788, 1790, 87, 137, 1791]), (17, 31, .aload_n 0, 1, []), (18, 32, .invokevirtual 469, 3, [1, 230, 0, 5, 0, 0, 12, 1859, 1861, 97, 137, 1862]), (19, 35, .ifCond .eq 5, 3, [22]), (20, 38, .iload_n 2, 1, []), (21, 39, .istore_n 1, 1, []), (22, 40, .iinc 2 1, 3, []), (23, 43, .goto (-31), 3, [8]), (24, 46, .aload_n 0, 1, []), (25, 47, .invokevirtual 466, 3, [1, 205, 0, 9, 0, 0, 12, 1851, 1853, 96, 137, 1854]), (26, 50, .iload_n 1, 1, []), (27, 51, .ireturn, 1, [0])]
set_option maxRecDepth 20000 in
def kX12_keepRow : List INS := [(0, 0, .iconst 0, 1, []), (1, 1, .istore_n 1, 1, []), (2, 2, .iload_n 1, 1, []), (3, 3, .iconst 3, 1, []), (4, 4, .if_icmp .ge 21, 3, [15]), (5, 7, .aload_n 0, 1, []), (6, 8, .getfield 119, 3, [12, 54, 2, 1389, 1]), (7, 11, .iload_n 1, 1, []), (8, 12, .aload_n 0, 1, []), (9, 13, .getfield 110, 3, [12, 46, 2, 1381, 1]), (10, 16, .iload_n 1, 1, []), (11, 17, .iaload, 1, []), (12, 18, .iastore, 1, []), (13, 19, .iinc 1 1, 3, []), (14, 22, .goto (-20), 3, [2]), (15, 25, .return_, 1, [])]
set_option maxRecDepth 20000 in
def kX12_bringRow : List INS := [(0, 0, .iconst 0, 1, []), (1, 1, .istore_n 1, 1, []), (2, 2, .iload_n 1, 1, []), (3, 3, .iconst 3, 1, []), (4, 4, .if_icmp .ge 21, 3, [15]), (5, 7, .aload_n 0, 1, []), (6, 8, .getfield 110, 3, [12, 46, 2, 1381, 1]), (7, 11, .iload_n 1, 1, []), (8, 12, .aload_n 0, 1, []), (9, 13, .getfield 119, 3, [12, 54, 2, 1389, 1]), (10, 16, .iload_n 1, 1, []), (11, 17, .iaload, 1, []), (12, 18, .iastore, 1, []), (13, 19, .iinc 1 1, 3, []), (14, 22, .goto (-20), 3, [2]), (15, 25, .return_, 1, [])]
set_option maxRecDepth 20000 in
def kX12_rowsOf : List INS := [(0, 0, .iconst 1, 1, []), (1, 1, .istore_n 2, 1, []), (2, 2, .iconst 0, 1, []), (3, 3, .istore_n 3, 1, []), (4, 4, .iload_n 3, 1, []), (5, 5, .aload_n 0, 1, []), (6, 6, .invokevirtual 439, 3, [1, 196, 0, 0, 0, 0, 12, 1775, 1777, 85, 137, 1778]), (7, 9, .if_icmp .ge 15, 3, [16]), (8, 12, .iload_n 2, 1, []), (9, 13, .iload_n 1, 1, []), (10, 14, .iconst 1, 1, []), (11, 15, .iadd, 1, []), (12, 16, .imul, 1, []), (13, 17, .istore_n 2, 1, []), (14, 18, .iinc 3 1, 3, []), (15, 21, .goto (-17), 3, [4]), (16, 24, .iload_n 2, 1, []), (17, 25, .ireturn, 1, [0])]
set_option maxRecDepth 20000 in
def kX12_layRow : List INS := [(0, 0, .iload_n 1, 1, []), (1, 1, .istore_n 3, 1, []), (2, 2, .aload_n 0, 1, []), (3, 3, .invokevirtual 439, 3, [1, 196, 0, 0, 0, 0, 12, 1775, 1777, 85, 137, 1778]), (4, 6, .iconst 1, 1, []), (5, 7, .isub, 1, []), (6, 8, .istore 4, 2, []), (7, 10, .iload 4, 2, []), (8, 12, .ifCond .lt 27, 3, [26]), (9, 15, .aload_n 0, 1, []), (10, 16, .getfield 110, 3, [12, 46, 2, 1381, 1]), (11, 19, .iload 4, 2, []), (12, 21, .iload_n 3, 1, []), (13, 22, .iload_n 2, 1, []), (14, 23, .iconst 1, 1, []), (15, 24, .iadd, 1, []), (16, 25, .irem, 1, []), (17, 26, .iastore, 1, []), (18, 27, .iload_n 3, 1, []), (19, 28, .iload_n 2, 1, []), (20, 29, .iconst 1, 1, []), (21, 30, .iadd, 1, []), (22, 31, .idiv, 1, []), (23, 32, .istore_n 3, 1, []), (24, 33, .iinc 4 (-1), 3, []), (25, 36, .goto (-26), 3, [7]), (26, 39, .return_, 1, [])]
set_option maxRecDepth 20000 in
def kX12_isRight : List INS := [(0, 0, .aload_n 0, 1, []), (1, 1, .iload_n 1, 1, []), (2, 2, .invokevirtual 472, 3, [1, 191, 1, 0, 0, 0, 12, 1871, 1873, 99, 137, 1874]), (3, 5, .aload_n 0, 1, []), (4, 6, .aload_n 0, 1, []), (5, 7, .getfield 63, 3, [12, 25, 2, 1360, 1]), (6, 10, .bipush 6, 2, []), (7, 12, .aload_n 0, 1, []), (8, 13, .getfield 283, 3, [12, 36, 0, 1371, 0]), (9, 16, .imul, 1, []), (10, 17, .iload_n 1, 1, []), (11, 18, .iadd, 1, []), (12, 19, .iaload, 1, []), (13, 20, .iload_n 2, 1, []), (14, 21, .invokevirtual 463, 3, [1, 227, 2, 0, 0, 0, 12, 1843, 1845, 94, 137, 1846]), (15, 24, .if_icmp .ne 7, 3, [18]), (16, 27, .iconst 1, 1, []), (17, 28, .goto 4, 3, [19]), (18, 31, .iconst 0, 1, []), (19, 32, .ireturn, 1, [5])]
set_option maxRecDepth 20000 in
def kX12_says : List INS := [(0, 0, .aload_n 0, 1, []), (1, 1, .iload_n 1, 1, []), (2, 2, .invokevirtual 475, 3, [1, 201, 1, 5, 0, 0, 12, 1867, 1869, 98, 137, 1870]), (3, 5, .ifCond .eq 11, 3, [8]), (4, 8, .aload_n 0, 1, []), (5, 9, .iload_n 1, 1, []), (6, 10, .invokevirtual 472, 3, [1, 191, 1, 0, 0, 0, 12, 1871, 1873, 99, 137, 1874]), (7, 13, .goto 4, 3, [9]), (8, 16, .iconst 0, 1, []), (9, 17, .ireturn, 1, [0])]
set_option maxRecDepth 20000 in
def kX12_canAsk : List INS := [(0, 0, .aload_n 0, 1, []), (1, 1, .iload_n 1, 1, []), (2, 2, .invokevirtual 475, 3, [1, 201, 1, 5, 0, 0, 12, 1867, 1869, 98, 137, 1870]), (3, 5, .ifCond .eq 24, 3, [14]), (4, 8, .iload_n 2, 1, []), (5, 9, .iconst 0, 1, []), (6, 10, .bipush 99, 2, []), (7, 12, .invokestatic 376, 3, [0, 193, 3, 5, 0, 0, 0, 1732, 1733, 0, 137, 1734]), (8, 15, .ifCond .eq 14, 3, [14]), (9, 18, .iload_n 3, 1, []), (10, 19, .invokestatic 457, 3, [0, 228, 1, 5, 0, 0, 0, 1836, 1837, 0, 137, 1838]), (11, 22, .ifCond .eq 7, 3, [14]), (12, 25, .iconst 1, 1, []), (13, 26, .goto 4, 3, [15]), (14, 29, .iconst 0, 1, []), (15, 30, .ireturn, 1, [5])]
set_option maxRecDepth 20000 in
def kX12_wrongRows : List INS := [(0, 0, .iconst 0, 1, []), (1, 1, .istore 5, 2, []), (2, 3, .iconst (-1), 1, []), (3, 4, .istore 6, 2, []), (4, 6, .aload_n 0, 1, []), (5, 7, .invokevirtual 460, 3, [1, 204, 0, 9, 0, 0, 12, 1839, 1841, 93, 137, 1842]), (6, 10, .aload_n 0, 1, []), (7, 11, .invokevirtual 478, 3, [1, 232, 0, 9, 0, 0, 12, 1894, 1896, 103, 137, 1897]), (8, 14, .iconst 0, 1, []), (9, 15, .istore 7, 2, []), (10, 17, .iload 7, 2, []), (11, 19, .aload_n 0, 1, []), (12, 20, .iload_n 2, 1, []), (13, 21, .invokevirtual 481, 3, [1, 234, 1, 0, 0, 0, 12, 1886, 1888, 101, 137, 1889]), (14, 24, .if_icmp .ge 55, 3, [38]), (15, 27, .iload 6, 2, []), (16, 29, .ifCond .lt 8, 3, [19]), (17, 32, .iload 4, 2, []), (18, 34, .ifCond .ne 45, 3, [38]), (19, 37, .aload_n 0, 1, []), (20, 38, .iload 7, 2, []), (21, 40, .iload_n 2, 1, []), (22, 41, .invokevirtual 484, 3, [1, 235, 2, 9, 0, 0, 12, 1898, 1900, 104, 137, 1901]), (23, 44, .aload_n 0, 1, []), (24, 45, .iload_n 1, 1, []), (25, 46, .iload_n 3, 1, []), (26, 47, .invokevirtual 487, 3, [1, 236, 2, 5, 0, 0, 12, 1902, 1904, 105, 137, 1905]), (27, 50, .ifCond .eq 6, 3, [29]), (28, 53, .goto 20, 3, [36]), (29, 56, .iinc 5 1, 3, []), (30, 59, .iload 6, 2, []), (31, 61, .ifCond .ge 8, 3, [34]), (32, 64, .iload 7, 2, []), (33, 66, .goto 5, 3, [35]), (34, 69, .iload 6, 2, []), (35, 71, .istore 6, 2, []), (36, 73, .iinc 7 1, 3, []), (37, 76, .goto (-59), 3, [10]), (38, 79, .aload_n 0, 1, []), (39, 80, .invokevirtual 491, 3, [1, 233, 0, 9, 0, 0, 12, 1906, 1908, 106, 137, 1909]), (40, 83, .aload_n 0, 1, []), (41, 84, .invokevirtual 466, 3, [1, 205, 0, 9, 0, 0, 12, 1851, 1853, 96, 137, 1854]), (42, 87, .iload 4, 2, []), (43, 89, .ifCond .eq 8, 3, [46]), (44, 92, .iload 6, 2, []), (45, 94, .goto 5, 3, [47]), (46, 97, .iload 5, 2, []), (47, 99, .ireturn, 1, [0])]
set_option maxRecDepth 20000 in
def kX12_wrong : List INS := [(0, 0, .aload_n 0, 1, []), (1, 1, .iload_n 1, 1, []), (2, 2, .iload_n 2, 1, []), (3, 3, .iload_n 3, 1, []), (4, 4, .invokevirtual 494, 3, [1, 238, 3, 5, 0, 0, 12, 1882, 1884, 100, 137, 1885]), (5, 7, .ifCond .ne 5, 3, [8]), (6, 10, .iconst (-1), 1, []), (7, 11, .ireturn, 1, [0]), (8, 12, .aload_n 0, 1, []), (9, 13, .iload_n 2, 1, []), (10, 14, .invokevirtual 481, 3, [1, 234, 1, 0, 0, 0, 12, 1886, 1888, 101, 137, 1889]), (11, 17, .sipush 1000, 3, []), (12, 20, .if_icmp .le 8, 3, [15]), (13, 23, .bipush (-2), 2, []), (14, 25, .goto 11, 3, [21]), (15, 28, .aload_n 0, 1, []), (16, 29, .iload_n 1, 1, []), (17, 30, .iload_n 2, 1, []), (18, 31, .iload_n 3, 1, []), (19, 32, .iconst 0, 1, []), (20, 33, .invokevirtual 497, 3, [1, 239, 4, 0, 0, 0, 12, 1890, 1892, 102, 137, 1893]), (21, 36, .ireturn, 1, [0])]
set_option maxRecDepth 20000 in
def kX12_against : List INS := [(0, 0, .aload_n 0, 1, []), (1, 1, .iconst 0, 1, []), (2, 2, .putfield 407, 3, [12, 55, 0, 1390, 0]), (3, 5, .aload_n 0, 1, []), (4, 6, .iload_n 1, 1, []), (5, 7, .iload_n 2, 1, []), (6, 8, .iload_n 3, 1, []), (7, 9, .invokevirtual 494, 3, [1, 238, 3, 5, 0, 0, 12, 1882, 1884, 100, 137, 1885]), (8, 12, .ifCond .ne 5, 3, [11]), (9, 15, .iconst (-1), 1, []), (10, 16, .ireturn, 1, [0]), (11, 17, .aload_n 0, 1, []), (12, 18, .iload_n 2, 1, []), (13, 19, .invokevirtual 481, 3, [1, 234, 1, 0, 0, 0, 12, 1886, 1888, 101, 137, 1889]), (14, 22, .sipush 1000, 3, []), (15, 25, .if_icmp .le 6, 3, [18]), (16, 28, .bipush (-2), 2, []), (17, 30, .ireturn, 1, [0]), (18, 31, .aload_n 0, 1, []), (19, 32, .iload_n 1, 1, []), (20, 33, .iload_n 2, 1, []), (21, 34, .iload_n 3, 1, []), (22, 35, .iconst 1, 1, []), (23, 36, .invokevirtual 497, 3, [1, 239, 4, 0, 0, 0, 12, 1890, 1892, 102, 137, 1893]), (24, 39, .istore 4, 2, []), (25, 41, .iload 4, 2, []), (26, 43, .ifCond .ge 5, 3, [29]), (27, 46, .iconst (-1), 1, []), (28, 47, .ireturn, 1, [0]), (29, 48, .aload_n 0, 1, []), (30, 49, .invokevirtual 478, 3, [1, 232, 0, 9, 0, 0, 12, 1894, 1896, 103, 137, 1897]), (31, 52, .aload_n 0, 1, []), (32, 53, .iload 4, 2, []), (33, 55, .iload_n 2, 1, []), (34, 56, .invokevirtual 484, 3, [1, 235, 2, 9, 0, 0, 12, 1898, 1900, 104, 137, 1901]), (35, 59, .iconst 0, 1, []), (36, 60, .istore 5, 2, []), (37, 62, .iload 5, 2, []), (38, 64, .aload_n 0, 1, []), (39, 65, .invokevirtual 439, 3, [1, 196, 0, 0, 0, 0, 12, 1775, 1777, 85, 137, 1778]), (40, 68, .if_icmp .ge 23, 3, [51]), (41, 71, .aload_n 0, 1, []), (42, 72, .getfield 116, 3, [12, 53, 2, 1388, 1]), (43, 75, .iload 5, 2, []), (44, 77, .aload_n 0, 1, []), (45, 78, .getfield 110, 3, [12, 46, 2, 1381, 1]), (46, 81, .iload 5, 2, []), (47, 83, .iaload, 1, []), (48, 84, .iastore, 1, []), (49, 85, .iinc 5 1, 3, []), (50, 88, .goto (-26), 3, [37]), (51, 91, .aload_n 0, 1, []), (52, 92, .aload_n 0, 1, []), (53, 93, .invokevirtual 439, 3, [1, 196, 0, 0, 0, 0, 12, 1775, 1777, 85, 137, 1778]), (54, 96, .putfield 407, 3, [12, 55, 0, 1390, 0]), (55, 99, .aload_n 0, 1, []), (56, 100, .invokevirtual 491, 3, [1, 233, 0, 9, 0, 0, 12, 1906, 1908, 106, 137, 1909]), (57, 103, .iload 4, 2, []), (58, 105, .ireturn, 1, [0])]
set_option maxRecDepth 20000 in
def kX12_areAllRight : List INS := [(0, 0, .iconst 0, 1, []), (1, 1, .istore 4, 2, []), (2, 3, .iload 4, 2, []), (3, 5, .aload_n 0, 1, []), (4, 6, .iload_n 2, 1, []), (5, 7, .invokevirtual 481, 3, [1, 234, 1, 0, 0, 0, 12, 1886, 1888, 101, 137, 1889]), (6, 10, .if_icmp .ge 27, 3, [20]), (7, 13, .aload_n 0, 1, []), (8, 14, .iload 4, 2, []), (9, 16, .iload_n 2, 1, []), (10, 17, .invokevirtual 484, 3, [1, 235, 2, 9, 0, 0, 12, 1898, 1900, 104, 137, 1901]), (11, 20, .aload_n 0, 1, []), (12, 21, .iload_n 1, 1, []), (13, 22, .iload_n 3, 1, []), (14, 23, .invokevirtual 487, 3, [1, 236, 2, 5, 0, 0, 12, 1902, 1904, 105, 137, 1905]), (15, 26, .ifCond .ne 5, 3, [18]), (16, 29, .iconst 0, 1, []), (17, 30, .ireturn, 1, [5]), (18, 31, .iinc 4 1, 3, []), (19, 34, .goto (-31), 3, [2]), (20, 37, .iconst 1, 1, []), (21, 38, .ireturn, 1, [5])]
set_option maxRecDepth 20000 in
def kX12_told : List INS := [(0, 0, .aload_n 0, 1, []), (1, 1, .getfield 54, 3, [12, 22, 2, 1357, 1]), (2, 4, .bipush 16, 2, []), (3, 6, .aload_n 0, 1, []), (4, 7, .getfield 283, 3, [12, 36, 0, 1371, 0]), (5, 10, .imul, 1, []), (6, 11, .iload_n 1, 1, []), (7, 12, .iadd, 1, []), (8, 13, .iaload, 1, []), (9, 14, .ireturn, 1, [0])]
set_option maxRecDepth 20000 in
def kX12_mendsOne : List INS := [(0, 0, .iconst 0, 1, []), (1, 1, .istore 5, 2, []), (2, 3, .iload 5, 2, []), (3, 5, .aload_n 0, 1, []), (4, 6, .invokevirtual 380, 3, [1, 195, 0, 0, 0, 0, 12, 1747, 1749, 81, 137, 1750]), (5, 9, .if_icmp .ge 108, 3, [61]), (6, 12, .iconst 1, 1, []), (7, 13, .istore 6, 2, []), (8, 15, .iload 6, 2, []), (9, 17, .bipush 9, 2, []), (10, 19, .if_icmp .gt 92, 3, [59]), (11, 22, .iload 6, 2, []), (12, 24, .aload_n 0, 1, []), (13, 25, .iload 5, 2, []), (14, 27, .invokevirtual 501, 3, [1, 243, 1, 0, 0, 0, 12, 1926, 1928, 109, 137, 1929]), (15, 30, .if_icmp .ne 6, 3, [17]), (16, 33, .goto 72, 3, [57]), (17, 36, .aload_n 0, 1, []), (18, 37, .getfield 104, 3, [12, 44, 2, 1379, 1]), (19, 40, .iload 5, 2, []), (20, 42, .iload 6, 2, []), (21, 44, .iastore, 1, []), (22, 45, .aload_n 0, 1, []), (23, 46, .getfield 116, 3, [12, 53, 2, 1388, 1]), (24, 49, .iconst 0, 1, []), (25, 50, .bipush 10, 2, []), (26, 52, .iload 5, 2, []), (27, 54, .imul, 1, []), (28, 55, .iload 6, 2, []), (29, 57, .iadd, 1, []), (30, 58, .iastore, 1, []), (31, 59, .iload 4, 2, []), (32, 61, .ifCond .eq 15, 3, [40]), (33, 64, .aload_n 0, 1, []), (34, 65, .iload_n 1, 1, []), (35, 66, .iload_n 2, 1, []), (36, 67, .iload_n 3, 1, []), (37, 68, .iload 5, 2, []), (38, 70, .invokevirtual 504, 3, [1, 245, 4, 5, 0, 0, 12, 1930, 1932, 110, 137, 1933]), (39, 73, .goto 10, 3, [45]), (40, 76, .aload_n 0, 1, []), (41, 77, .iload_n 1, 1, []), (42, 78, .iload_n 2, 1, []), (43, 79, .iload_n 3, 1, []), (44, 80, .invokevirtual 508, 3, [1, 242, 3, 5, 0, 0, 12, 1918, 1920, 107, 137, 1921]), (45, 83, .istore 7, 2, []), (46, 85, .aload_n 0, 1, []), (47, 86, .getfield 104, 3, [12, 44, 2, 1379, 1]), (48, 89, .iload 5, 2, []), (49, 91, .aload_n 0, 1, []), (50, 92, .iload 5, 2, []), (51, 94, .invokevirtual 501, 3, [1, 243, 1, 0, 0, 0, 12, 1926, 1928, 109, 137, 1929]), (52, 97, .iastore, 1, []), (53, 98, .iload 7, 2, []), (54, 100, .ifCond .eq 5, 3, [57]), (55, 103, .iconst 1, 1, []), (56, 104, .ireturn, 1, [5]), (57, 105, .iinc 6 1, 3, []), (58, 108, .goto (-93), 3, [8]), (59, 111, .iinc 5 1, 3, []), (60, 114, .goto (-111), 3, [2]), (61, 117, .iconst 0, 1, []), (62, 118, .ireturn, 1, [5])]
set_option maxRecDepth 20000 in
def kX12_mendsTwo : List INS := [(0, 0, .iload 4, 2, []), (1, 2, .iconst 1, 1, []), (2, 3, .iadd, 1, []), (3, 4, .istore 5, 2, []), (4, 6, .iload 5, 2, []), (5, 8, .aload_n 0, 1, []), (6, 9, .invokevirtual 380, 3, [1, 195, 0, 0, 0, 0, 12, 1747, 1749, 81, 137, 1750]), (7, 12, .if_icmp .ge 91, 3, [54]), (8, 15, .iconst 1, 1, []), (9, 16, .istore 6, 2, []), (10, 18, .iload 6, 2, []), (11, 20, .bipush 9, 2, []), (12, 22, .if_icmp .gt 75, 3, [52]), (13, 25, .iload 6, 2, []), (14, 27, .aload_n 0, 1, []), (15, 28, .iload 5, 2, []), (16, 30, .invokevirtual 501, 3, [1, 243, 1, 0, 0, 0, 12, 1926, 1928, 109, 137, 1929]), (17, 33, .if_icmp .ne 6, 3, [19]), (18, 36, .goto 55, 3, [50]), (19, 39, .aload_n 0, 1, []), (20, 40, .getfield 104, 3, [12, 44, 2, 1379, 1]), (21, 43, .iload 5, 2, []), (22, 45, .iload 6, 2, []), (23, 47, .iastore, 1, []), (24, 48, .aload_n 0, 1, []), (25, 49, .getfield 116, 3, [12, 53, 2, 1388, 1]), (26, 52, .iconst 1, 1, []), (27, 53, .bipush 10, 2, []), (28, 55, .iload 5, 2, []), (29, 57, .imul, 1, []), (30, 58, .iload 6, 2, []), (31, 60, .iadd, 1, []), (32, 61, .iastore, 1, []), (33, 62, .aload_n 0, 1, []), (34, 63, .iload_n 1, 1, []), (35, 64, .iload_n 2, 1, []), (36, 65, .iload_n 3, 1, []), (37, 66, .invokevirtual 508, 3, [1, 242, 3, 5, 0, 0, 12, 1918, 1920, 107, 137, 1921]), (38, 69, .istore 7, 2, []), (39, 71, .aload_n 0, 1, []), (40, 72, .getfield 104, 3, [12, 44, 2, 1379, 1]), (41, 75, .iload 5, 2, []), (42, 77, .aload_n 0, 1, []), (43, 78, .iload 5, 2, []), (44, 80, .invokevirtual 501, 3, [1, 243, 1, 0, 0, 0, 12, 1926, 1928, 109, 137, 1929]), (45, 83, .iastore, 1, []), (46, 84, .iload 7, 2, []), (47, 86, .ifCond .eq 5, 3, [50]), (48, 89, .iconst 1, 1, []), (49, 90, .ireturn, 1, [5]), (50, 91, .iinc 6 1, 3, []), (51, 94, .goto (-76), 3, [10]), (52, 97, .iinc 5 1, 3, []), (53, 100, .goto (-94), 3, [4]), (54, 103, .iconst 0, 1, []), (55, 104, .ireturn, 1, [5])]
set_option maxRecDepth 20000 in
def kX12_mend : List INS := [(0, 0, .aload_n 0, 1, []), (1, 1, .iconst 0, 1, []), (2, 2, .putfield 407, 3, [12, 55, 0, 1390, 0]), (3, 5, .aload_n 0, 1, []), (4, 6, .iload_n 1, 1, []), (5, 7, .iload_n 2, 1, []), (6, 8, .iload_n 3, 1, []), (7, 9, .invokevirtual 494, 3, [1, 238, 3, 5, 0, 0, 12, 1882, 1884, 100, 137, 1885]), (8, 12, .ifCond .ne 5, 3, [11]), (9, 15, .iconst (-1), 1, []), (10, 16, .ireturn, 1, [0]), (11, 17, .aload_n 0, 1, []), (12, 18, .iload_n 2, 1, []), (13, 19, .invokevirtual 481, 3, [1, 234, 1, 0, 0, 0, 12, 1886, 1888, 101, 137, 1889]), (14, 22, .bipush 16, 2, []), (15, 24, .if_icmp .le 6, 3, [18]), (16, 27, .bipush (-2), 2, []), (17, 29, .ireturn, 1, [0]), (18, 30, .aload_n 0, 1, []), (19, 31, .invokevirtual 460, 3, [1, 204, 0, 9, 0, 0, 12, 1839, 1841, 93, 137, 1842]), (20, 34, .aload_n 0, 1, []), (21, 35, .invokevirtual 478, 3, [1, 232, 0, 9, 0, 0, 12, 1894, 1896, 103, 137, 1897]), (22, 38, .aload_n 0, 1, []), (23, 39, .iload_n 1, 1, []), (24, 40, .iload_n 2, 1, []), (25, 41, .iload_n 3, 1, []), (26, 42, .invokevirtual 508, 3, [1, 242, 3, 5, 0, 0, 12, 1918, 1920, 107, 137, 1921]), (27, 45, .ifCond .eq 7, 3, [30]), (28, 48, .iconst 0, 1, []), (29, 49, .goto 34, 3, [49]), (30, 52, .aload_n 0, 1, []), (31, 53, .iload_n 1, 1, []), (32, 54, .iload_n 2, 1, []), (33, 55, .iload_n 3, 1, []), (34, 56, .iconst 0, 1, []), (35, 57, .invokevirtual 511, 3, [1, 244, 4, 5, 0, 0, 12, 1922, 1924, 108, 137, 1925]), (36, 60, .ifCond .eq 7, 3, [39]), (37, 63, .iconst 1, 1, []), (38, 64, .goto 19, 3, [49]), (39, 67, .aload_n 0, 1, []), (40, 68, .iload_n 1, 1, []), (41, 69, .iload_n 2, 1, []), (42, 70, .iload_n 3, 1, []), (43, 71, .iconst 1, 1, []), (44, 72, .invokevirtual 511, 3, [1, 244, 4, 5, 0, 0, 12, 1922, 1924, 108, 137, 1925]), (45, 75, .ifCond .eq 7, 3, [48]), (46, 78, .iconst 2, 1, []), (47, 79, .goto 4, 3, [49]), (48, 82, .iconst (-1), 1, []), (49, 83, .istore 4, 2, []), (50, 85, .aload_n 0, 1, []), (51, 86, .invokevirtual 491, 3, [1, 233, 0, 9, 0, 0, 12, 1906, 1908, 106, 137, 1909]), (52, 89, .aload_n 0, 1, []), (53, 90, .invokevirtual 466, 3, [1, 205, 0, 9, 0, 0, 12, 1851, 1853, 96, 137, 1854]), (54, 93, .aload_n 0, 1, []), (55, 94, .iload 4, 2, []), (56, 96, .ifCond .ge 7, 3, [59]), (57, 99, .iconst 0, 1, []), (58, 100, .goto 5, 3, [60]), (59, 103, .iload 4, 2, []), (60, 105, .putfield 407, 3, [12, 55, 0, 1390, 0]), (61, 108, .iload 4, 2, []), (62, 110, .ireturn, 1, [0])]
set_option maxRecDepth 20000 in
def kX12_lossOf : List INS := [(0, 0, .aload_n 0, 1, []), (1, 1, .iload_n 1, 1, []), (2, 2, .putfield 392, 3, [12, 47, 0, 1382, 0]), (3, 5, .aload_n 0, 1, []), (4, 6, .iload_n 2, 1, []), (5, 7, .putfield 411, 3, [12, 48, 0, 1383, 0]), (6, 10, .aload_n 0, 1, []), (7, 11, .iconst 0, 1, []), (8, 12, .putfield 414, 3, [12, 49, 5, 1384, 0]), (9, 15, .iload 5, 2, []), (10, 17, .aload_n 0, 1, []), (11, 18, .iload_n 3, 1, []), (12, 19, .iload 4, 2, []), (13, 21, .invokevirtual 463, 3, [1, 227, 2, 0, 0, 0, 12, 1843, 1845, 94, 137, 1846]), (14, 24, .isub, 1, []), (15, 25, .istore 6, 2, []), (16, 27, .aload_n 0, 1, []), (17, 28, .iconst (-1), 1, []), (18, 29, .putfield 392, 3, [12, 47, 0, 1382, 0]), (19, 32, .iload 6, 2, []), (20, 34, .ireturn, 1, [0])]
set_option maxRecDepth 20000 in
def kX12_loss : List INS := [(0, 0, .aload_n 0, 1, []), (1, 1, .iload_n 1, 1, []), (2, 2, .invokevirtual 430, 3, [1, 199, 1, 5, 0, 0, 12, 1743, 1745, 80, 137, 1746]), (3, 5, .ifCond .eq 29, 3, [16]), (4, 8, .aload_n 0, 1, []), (5, 9, .iload_n 3, 1, []), (6, 10, .invokevirtual 454, 3, [1, 200, 1, 5, 0, 0, 12, 1832, 1834, 92, 137, 1835]), (7, 13, .ifCond .eq 21, 3, [16]), (8, 16, .iload 4, 2, []), (9, 18, .invokestatic 457, 3, [0, 228, 1, 5, 0, 0, 0, 1836, 1837, 0, 137, 1838]), (10, 21, .ifCond .eq 13, 3, [16]), (11, 24, .iload_n 2, 1, []), (12, 25, .iconst 1, 1, []), (13, 26, .iload 4, 2, []), (14, 28, .invokestatic 376, 3, [0, 193, 3, 5, 0, 0, 0, 1732, 1733, 0, 137, 1734]), (15, 31, .ifCond .ne 5, 3, [18]), (16, 34, .iconst (-1), 1, []), (17, 35, .ireturn, 1, [0]), (18, 36, .aload_n 0, 1, []), (19, 37, .invokevirtual 460, 3, [1, 204, 0, 9, 0, 0, 12, 1839, 1841, 93, 137, 1842]), (20, 40, .aload_n 0, 1, []), (21, 41, .iload_n 1, 1, []), (22, 42, .iload_n 2, 1, []), (23, 43, .iload_n 3, 1, []), (24, 44, .iload 4, 2, []), (25, 46, .aload_n 0, 1, []), (26, 47, .iload_n 3, 1, []), (27, 48, .iload 4, 2, []), (28, 50, .invokevirtual 463, 3, [1, 227, 2, 0, 0, 0, 12, 1843, 1845, 94, 137, 1846]), (29, 53, .invokevirtual 515, 3, [1, 247, 5, 0, 0, 0, 12, 1938, 1940, 111, 137, 1941]), (30, 56, .istore 5, 2, []), (31, 58, .aload_n 0, 1, []), (32, 59, .invokevirtual 466, 3, [1, 205, 0, 9, 0, 0, 12, 1851, 1853, 96, 137, 1854]), (33, 62, .iload 5, 2, []), (34, 64, .ireturn, 1, [0])]
set_option maxRecDepth 20000 in
def kX12_blind : List INS := [(0, 0, .aload_n 0, 1, []), (1, 1, .iload_n 1, 1, []), (2, 2, .invokevirtual 454, 3, [1, 200, 1, 5, 0, 0, 12, 1832, 1834, 92, 137, 1835]), (3, 5, .ifCond .eq 10, 3, [7]), (4, 8, .iload_n 2, 1, []), (5, 9, .invokestatic 457, 3, [0, 228, 1, 5, 0, 0, 0, 1836, 1837, 0, 137, 1838]), (6, 12, .ifCond .ne 5, 3, [9]), (7, 15, .iconst (-1), 1, []), (8, 16, .ireturn, 1, [0]), (9, 17, .aload_n 0, 1, []), (10, 18, .invokevirtual 460, 3, [1, 204, 0, 9, 0, 0, 12, 1839, 1841, 93, 137, 1842]), (11, 21, .aload_n 0, 1, []), (12, 22, .iload_n 1, 1, []), (13, 23, .iload_n 2, 1, []), (14, 24, .invokevirtual 463, 3, [1, 227, 2, 0, 0, 0, 12, 1843, 1845, 94, 137, 1846]), (15, 27, .istore_n 3, 1, []), (16, 28, .iconst 0, 1, []), (17, 29, .istore 4, 2, []), (18, 31, .iconst 0, 1, []), (19, 32, .istore 5, 2, []), (20, 34, .iload 5, 2, []), (21, 36, .aload_n 0, 1, []), (22, 37, .invokevirtual 380, 3, [1, 195, 0, 0, 0, 0, 12, 1747, 1749, 81, 137, 1750]), (23, 40, .if_icmp .ge 48, 3, [45]), (24, 43, .iconst 1, 1, []), (25, 44, .istore 6, 2, []), (26, 46, .iload 6, 2, []), (27, 48, .iload_n 2, 1, []), (28, 49, .if_icmp .gt 33, 3, [43]), (29, 52, .aload_n 0, 1, []), (30, 53, .iload 5, 2, []), (31, 55, .iload 6, 2, []), (32, 57, .iload_n 1, 1, []), (33, 58, .iload_n 2, 1, []), (34, 59, .iload_n 3, 1, []), (35, 60, .invokevirtual 515, 3, [1, 247, 5, 0, 0, 0, 12, 1938, 1940, 111, 137, 1941]), (36, 63, .ifCond .ne 13, 3, [41]), (37, 66, .aload_n 0, 1, []), (38, 67, .getfield 414, 3, [12, 49, 5, 1384, 0]), (39, 70, .ifCond .eq 6, 3, [41]), (40, 73, .iinc 4 1, 3, []), (41, 76, .iinc 6 1, 3, []), (42, 79, .goto (-33), 3, [26]), (43, 82, .iinc 5 1, 3, []), (44, 85, .goto (-51), 3, [20]), (45, 88, .aload_n 0, 1, []), (46, 89, .invokevirtual 466, 3, [1, 205, 0, 9, 0, 0, 12, 1851, 1853, 96, 137, 1854]), (47, 92, .iload 4, 2, []), (48, 94, .ireturn, 1, [0])]
set_option maxRecDepth 20000 in
def kX12_adds : List INS := [(0, 0, .iload_n 1, 1, []), (1, 1, .iconst 0, 1, []), (2, 2, .aload_n 0, 1, []), (3, 3, .invokevirtual 439, 3, [1, 196, 0, 0, 0, 0, 12, 1775, 1777, 85, 137, 1778]), (4, 6, .iconst 1, 1, []), (5, 7, .isub, 1, []), (6, 8, .invokestatic 376, 3, [0, 193, 3, 5, 0, 0, 0, 1732, 1733, 0, 137, 1734]), (7, 11, .ifCond .eq 39, 3, [25]), (8, 14, .aload_n 0, 1, []), (9, 15, .iload_n 2, 1, []), (10, 16, .invokevirtual 454, 3, [1, 200, 1, 5, 0, 0, 12, 1832, 1834, 92, 137, 1835]), (11, 19, .ifCond .eq 31, 3, [25]), (12, 22, .iload_n 3, 1, []), (13, 23, .iconst 0, 1, []), (14, 24, .bipush 40, 2, []), (15, 26, .invokestatic 376, 3, [0, 193, 3, 5, 0, 0, 0, 1732, 1733, 0, 137, 1734]), (16, 29, .ifCond .eq 21, 3, [25]), (17, 32, .iload 4, 2, []), (18, 34, .invokestatic 457, 3, [0, 228, 1, 5, 0, 0, 0, 1836, 1837, 0, 137, 1838]), (19, 37, .ifCond .eq 13, 3, [25]), (20, 40, .iload 5, 2, []), (21, 42, .iconst 0, 1, []), (22, 43, .iconst 2, 1, []), (23, 44, .invokestatic 376, 3, [0, 193, 3, 5, 0, 0, 0, 1732, 1733, 0, 137, 1734]), (24, 47, .ifCond .ne 5, 3, [27]), (25, 50, .iconst (-1), 1, []), (26, 51, .ireturn, 1, [0]), (27, 52, .aload_n 0, 1, []), (28, 53, .invokevirtual 460, 3, [1, 204, 0, 9, 0, 0, 12, 1839, 1841, 93, 137, 1842]), (29, 56, .aload_n 0, 1, []), (30, 57, .invokevirtual 478, 3, [1, 232, 0, 9, 0, 0, 12, 1894, 1896, 103, 137, 1897]), (31, 60, .iconst 0, 1, []), (32, 61, .istore 6, 2, []), (33, 63, .iload 6, 2, []), (34, 65, .iconst 3, 1, []), (35, 66, .if_icmp .ge 17, 3, [43]), (36, 69, .aload_n 0, 1, []), (37, 70, .getfield 110, 3, [12, 46, 2, 1381, 1]), (38, 73, .iload 6, 2, []), (39, 75, .iconst 0, 1, []), (40, 76, .iastore, 1, []), (41, 77, .iinc 6 1, 3, []), (42, 80, .goto (-17), 3, [33]), (43, 83, .iconst 0, 1, []), (44, 84, .istore 6, 2, []), (45, 86, .iload 6, 2, []), (46, 88, .iload_n 3, 1, []), (47, 89, .if_icmp .gt 31, 3, [63]), (48, 92, .aload_n 0, 1, []), (49, 93, .getfield 110, 3, [12, 46, 2, 1381, 1]), (50, 96, .iload_n 1, 1, []), (51, 97, .iload 6, 2, []), (52, 99, .iastore, 1, []), (53, 100, .aload_n 0, 1, []), (54, 101, .getfield 122, 3, [12, 56, 2, 1391, 1]), (55, 104, .iload 6, 2, []), (56, 106, .aload_n 0, 1, []), (57, 107, .iload_n 2, 1, []), (58, 108, .iload 4, 2, []), (59, 110, .invokevirtual 463, 3, [1, 227, 2, 0, 0, 0, 12, 1843, 1845, 94, 137, 1846]), (60, 113, .iastore, 1, []), (61, 114, .iinc 6 1, 3, []), (62, 117, .goto (-31), 3, [45]), (63, 120, .aload_n 0, 1, []), (64, 121, .invokevirtual 491, 3, [1, 233, 0, 9, 0, 0, 12, 1906, 1908, 106, 137, 1909]), (65, 124, .aload_n 0, 1, []), (66, 125, .invokevirtual 466, 3, [1, 205, 0, 9, 0, 0, 12, 1851, 1853, 96, 137, 1854]), (67, 128, .iconst 0, 1, []), (68, 129, .istore 6, 2, []), (69, 131, .iconst (-1), 1, []), (70, 132, .istore 7, 2, []), (71, 134, .iconst (-1), 1, []), (72, 135, .istore 8, 2, []), (73, 137, .iconst 1, 1, []), (74, 138, .istore 9, 2, []), (75, 140, .iload 9, 2, []), (76, 142, .iload_n 3, 1, []), (77, 143, .if_icmp .gt 75, 3, [113]), (78, 146, .iload 9, 2, []), (79, 148, .istore 10, 2, []), (80, 150, .iload 9, 2, []), (81, 152, .iload 10, 2, []), (82, 154, .iadd, 1, []), (83, 155, .iload_n 3, 1, []), (84, 156, .if_icmp .gt 56, 3, [111]), (85, 159, .aload_n 0, 1, []), (86, 160, .getfield 122, 3, [12, 56, 2, 1391, 1]), (87, 163, .iload 9, 2, []), (88, 165, .iload 10, 2, []), (89, 167, .iadd, 1, []), (90, 168, .iaload, 1, []), (91, 169, .aload_n 0, 1, []), (92, 170, .getfield 122, 3, [12, 56, 2, 1391, 1]), (93, 173, .iload 9, 2, []), (94, 175, .iaload, 1, []), (95, 176, .aload_n 0, 1, []), (96, 177, .getfield 122, 3, [12, 56, 2, 1391, 1]), (97, 180, .iload 10, 2, []), (98, 182, .iaload, 1, []), (99, 183, .iadd, 1, []), (100, 184, .if_icmp .ne 6, 3, [102]), (101, 187, .goto 19, 3, [109]), (102, 190, .iload 6, 2, []), (103, 192, .ifCond .ne 11, 3, [108]), (104, 195, .iload 9, 2, []), (105, 197, .istore 7, 2, []), (106, 199, .iload 10, 2, []), (107, 201, .istore 8, 2, []), (108, 203, .iinc 6 1, 3, []), (109, 206, .iinc 10 1, 3, []), (110, 209, .goto (-59), 3, [80]), (111, 212, .iinc 9 1, 3, []), (112, 215, .goto (-75), 3, [75]), (113, 218, .iload 5, 2, []), (114, 220, .ifCond .ne 8, 3, [117]), (115, 223, .iload 6, 2, []), (116, 225, .goto 16, 3, [123]), (117, 228, .iload 5, 2, []), (118, 230, .iconst 1, 1, []), (119, 231, .if_icmp .ne 8, 3, [122]), (120, 234, .iload 7, 2, []), (121, 236, .goto 5, 3, [123]), (122, 239, .iload 8, 2, []), (123, 241, .ireturn, 1, [0])]
set_option maxRecDepth 20000 in
def kX12_layPaths : List INS := [(0, 0, .iconst 0, 1, []), (1, 1, .istore_n 2, 1, []), (2, 2, .iload_n 2, 1, []), (3, 3, .sipush 610, 3, []), (4, 6, .if_icmp .ge 16, 3, [12]), (5, 9, .aload_n 0, 1, []), (6, 10, .getfield 125, 3, [12, 57, 2, 1392, 1]), (7, 13, .iload_n 2, 1, []), (8, 14, .iconst 0, 1, []), (9, 15, .iastore, 1, []), (10, 16, .iinc 2 1, 3, []), (11, 19, .goto (-17), 3, [2]), (12, 22, .aload_n 0, 1, []), (13, 23, .getfield 125, 3, [12, 57, 2, 1392, 1]), (14, 26, .iload_n 1, 1, []), (15, 27, .iconst 1, 1, []), (16, 28, .iastore, 1, []), (17, 29, .iconst 1, 1, []), (18, 30, .istore_n 2, 1, []), (19, 31, .iload_n 2, 1, []), (20, 32, .bipush 60, 2, []), (21, 34, .if_icmp .gt 125, 3, [91]), (22, 37, .iconst 0, 1, []), (23, 38, .istore_n 3, 1, []), (24, 39, .iload_n 3, 1, []), (25, 40, .aload_n 0, 1, []), (26, 41, .invokevirtual 380, 3, [1, 195, 0, 0, 0, 0, 12, 1747, 1749, 81, 137, 1750]), (27, 44, .if_icmp .ge 109, 3, [89]), (28, 47, .iload_n 2, 1, []), (29, 48, .aload_n 0, 1, []), (30, 49, .iload_n 3, 1, []), (31, 50, .invokevirtual 501, 3, [1, 243, 1, 0, 0, 0, 12, 1926, 1928, 109, 137, 1929]), (32, 53, .isub, 1, []), (33, 54, .istore 4, 2, []), (34, 56, .iload 4, 2, []), (35, 58, .ifCond .ge 6, 3, [37]), (36, 61, .goto 86, 3, [87]), (37, 64, .bipush 10, 2, []), (38, 66, .iload_n 2, 1, []), (39, 67, .imul, 1, []), (40, 68, .aload_n 0, 1, []), (41, 69, .getfield 51, 3, [12, 21, 2, 1356, 1]), (42, 72, .bipush 16, 2, []), (43, 74, .aload_n 0, 1, []), (44, 75, .getfield 283, 3, [12, 36, 0, 1371, 0]), (45, 78, .imul, 1, []), (46, 79, .iload_n 3, 1, []), (47, 80, .iadd, 1, []), (48, 81, .iaload, 1, []), (49, 82, .iadd, 1, []), (50, 83, .istore 5, 2, []), (51, 85, .aload_n 0, 1, []), (52, 86, .getfield 125, 3, [12, 57, 2, 1392, 1]), (53, 89, .iload 5, 2, []), (54, 91, .iaload, 1, []), (55, 92, .i2l, 1, []), (56, 93, .aload_n 0, 1, []), (57, 94, .getfield 125, 3, [12, 57, 2, 1392, 1]), (58, 97, .bipush 10, 2, []), (59, 99, .iload 4, 2, []), (60, 101, .imul, 1, []), (61, 102, .aload_n 0, 1, []), (62, 103, .getfield 48, 3, [12, 20, 2, 1355, 1]), (63, 106, .bipush 16, 2, []), (64, 108, .aload_n 0, 1, []), (65, 109, .getfield 283, 3, [12, 36, 0, 1371, 0]), (66, 112, .imul, 1, []), (67, 113, .iload_n 3, 1, []), (68, 114, .iadd, 1, []), (69, 115, .iaload, 1, []), (70, 116, .iadd, 1, []), (71, 117, .iaload, 1, []), (72, 118, .i2l, 1, []), (73, 119, .ladd, 1, []), (74, 120, .lstore 6, 2, []), (75, 122, .aload_n 0, 1, []), (76, 123, .getfield 125, 3, [12, 57, 2, 1392, 1]), (77, 126, .iload 5, 2, []), (78, 128, .lload 6, 2, []), (79, 130, .ldc2_w 519, 3, [1000000000, 1958]), (80, 133, .lcmp, 1, []), (81, 134, .ifCond .le 9, 3, [84]), (82, 137, .ldc_w 521, 3, [1000000000, 1959]), (83, 140, .goto 6, 3, [86]), (84, 143, .lload 6, 2, []), (85, 145, .l2i, 1, []), (86, 146, .iastore, 1, []), (87, 147, .iinc 3 1, 3, []), (88, 150, .goto (-111), 3, [24]), (89, 153, .iinc 2 1, 3, []), (90, 156, .goto (-125), 3, [19]), (91, 159, .return_, 1, [])]
set_option maxRecDepth 20000 in
def kX12_paths : List INS := [(0, 0, .aload_n 0, 1, []), (1, 1, .iload_n 1, 1, []), (2, 2, .invokevirtual 383, 3, [1, 198, 1, 5, 0, 0, 12, 1724, 1726, 77, 137, 1727]), (3, 5, .ifCond .eq 21, 3, [13]), (4, 8, .aload_n 0, 1, []), (5, 9, .iload_n 2, 1, []), (6, 10, .invokevirtual 383, 3, [1, 198, 1, 5, 0, 0, 12, 1724, 1726, 77, 137, 1727]), (7, 13, .ifCond .eq 13, 3, [13]), (8, 16, .iload_n 3, 1, []), (9, 17, .iconst 0, 1, []), (10, 18, .bipush 60, 2, []), (11, 20, .invokestatic 376, 3, [0, 193, 3, 5, 0, 0, 0, 1732, 1733, 0, 137, 1734]), (12, 23, .ifCond .ne 5, 3, [15]), (13, 26, .iconst (-1), 1, []), (14, 27, .ireturn, 1, [0]), (15, 28, .aload_n 0, 1, []), (16, 29, .iload_n 1, 1, []), (17, 30, .invokevirtual 522, 3, [1, 251, 1, 9, 0, 0, 12, 1954, 1956, 112, 137, 1957]), (18, 33, .aload_n 0, 1, []), (19, 34, .getfield 125, 3, [12, 57, 2, 1392, 1]), (20, 37, .bipush 10, 2, []), (21, 39, .iload_n 3, 1, []), (22, 40, .imul, 1, []), (23, 41, .iload_n 2, 1, []), (24, 42, .iadd, 1, []), (25, 43, .iaload, 1, []), (26, 44, .ireturn, 1, [0])]
set_option maxRecDepth 20000 in
def kX12_meet : List INS := [(0, 0, .aload_n 0, 1, []), (1, 1, .iload_n 1, 1, []), (2, 2, .invokevirtual 383, 3, [1, 198, 1, 5, 0, 0, 12, 1724, 1726, 77, 137, 1727]), (3, 5, .ifCond .eq 19, 3, [12]), (4, 8, .aload_n 0, 1, []), (5, 9, .iload_n 2, 1, []), (6, 10, .invokevirtual 383, 3, [1, 198, 1, 5, 0, 0, 12, 1724, 1726, 77, 137, 1727]), (7, 13, .ifCond .eq 11, 3, [12]), (8, 16, .aload_n 0, 1, []), (9, 17, .iload_n 3, 1, []), (10, 18, .invokevirtual 383, 3, [1, 198, 1, 5, 0, 0, 12, 1724, 1726, 77, 137, 1727]), (11, 21, .ifCond .ne 5, 3, [14]), (12, 24, .iconst (-1), 1, []), (13, 25, .ireturn, 1, [0]), (14, 26, .aload_n 0, 1, []), (15, 27, .iload_n 1, 1, []), (16, 28, .invokevirtual 522, 3, [1, 251, 1, 9, 0, 0, 12, 1954, 1956, 112, 137, 1957]), (17, 31, .iconst 0, 1, []), (18, 32, .istore 4, 2, []), (19, 34, .iload 4, 2, []), (20, 36, .bipush 60, 2, []), (21, 38, .if_icmp .gt 36, 3, [40]), (22, 41, .aload_n 0, 1, []), (23, 42, .getfield 128, 3, [12, 58, 2, 1393, 1]), (24, 45, .iload 4, 2, []), (25, 47, .aload_n 0, 1, []), (26, 48, .getfield 125, 3, [12, 57, 2, 1392, 1]), (27, 51, .bipush 10, 2, []), (28, 53, .iload 4, 2, []), (29, 55, .imul, 1, []), (30, 56, .iload_n 3, 1, []), (31, 57, .iadd, 1, []), (32, 58, .iaload, 1, []), (33, 59, .ifCond .le 7, 3, [36]), (34, 62, .iconst 1, 1, []), (35, 63, .goto 4, 3, [37]), (36, 66, .iconst 0, 1, []), (37, 67, .bastore, 1, [103]), (38, 68, .iinc 4 1, 3, []), (39, 71, .goto (-37), 3, [19]), (40, 74, .aload_n 0, 1, []), (41, 75, .iload_n 2, 1, []), (42, 76, .invokevirtual 522, 3, [1, 251, 1, 9, 0, 0, 12, 1954, 1956, 112, 137, 1957]), (43, 79, .iconst 0, 1, []), (44, 80, .istore 4, 2, []), (45, 82, .iload 4, 2, []), (46, 84, .bipush 60, 2, []), (47, 86, .if_icmp .gt 37, 3, [66]), (48, 89, .aload_n 0, 1, []), (49, 90, .getfield 128, 3, [12, 58, 2, 1393, 1]), (50, 93, .iload 4, 2, []), (51, 95, .baload, 1, [103]), (52, 96, .ifCond .eq 21, 3, [64]), (53, 99, .aload_n 0, 1, []), (54, 100, .getfield 125, 3, [12, 57, 2, 1392, 1]), (55, 103, .bipush 10, 2, []), (56, 105, .iload 4, 2, []), (57, 107, .imul, 1, []), (58, 108, .iload_n 3, 1, []), (59, 109, .iadd, 1, []), (60, 110, .iaload, 1, []), (61, 111, .ifCond .le 6, 3, [64]), (62, 114, .iload 4, 2, []), (63, 116, .ireturn, 1, [0]), (64, 117, .iinc 4 1, 3, []), (65, 120, .goto (-38), 3, [45]), (66, 123, .iconst (-1), 1, []), (67, 124, .ireturn, 1, [0])]
set_option maxRecDepth 20000 in
def kX12_spread : List INS := [(0, 0, .aload_n 0, 1, []), (1, 1, .iload_n 1, 1, []), (2, 2, .invokevirtual 383, 3, [1, 198, 1, 5, 0, 0, 12, 1724, 1726, 77, 137, 1727]), (3, 5, .ifCond .eq 11, 3, [8]), (4, 8, .aload_n 0, 1, []), (5, 9, .iload_n 2, 1, []), (6, 10, .invokevirtual 383, 3, [1, 198, 1, 5, 0, 0, 12, 1724, 1726, 77, 137, 1727]), (7, 13, .ifCond .ne 5, 3, [10]), (8, 16, .iconst (-1), 1, []), (9, 17, .ireturn, 1, [0]), (10, 18, .aload_n 0, 1, []), (11, 19, .iload_n 1, 1, []), (12, 20, .invokevirtual 522, 3, [1, 251, 1, 9, 0, 0, 12, 1954, 1956, 112, 137, 1957]), (13, 23, .iconst 0, 1, []), (14, 24, .istore_n 3, 1, []), (15, 25, .iconst 0, 1, []), (16, 26, .istore 4, 2, []), (17, 28, .iload 4, 2, []), (18, 30, .bipush 60, 2, []), (19, 32, .if_icmp .gt 32, 3, [37]), (20, 35, .iload_n 3, 1, []), (21, 36, .aload_n 0, 1, []), (22, 37, .getfield 125, 3, [12, 57, 2, 1392, 1]), (23, 40, .bipush 10, 2, []), (24, 42, .iload 4, 2, []), (25, 44, .imul, 1, []), (26, 45, .iload_n 2, 1, []), (27, 46, .iadd, 1, []), (28, 47, .iaload, 1, []), (29, 48, .ifCond .le 7, 3, [32]), (30, 51, .iconst 1, 1, []), (31, 52, .goto 4, 3, [33]), (32, 55, .iconst 0, 1, []), (33, 56, .iadd, 1, []), (34, 57, .istore_n 3, 1, []), (35, 58, .iinc 4 1, 3, []), (36, 61, .goto (-33), 3, [17]), (37, 64, .iload_n 3, 1, []), (38, 65, .ireturn, 1, [0])]
set_option maxRecDepth 20000 in
def kX12_wider : List INS := [(0, 0, .iload_n 1, 1, []), (1, 1, .istore_n 2, 1, []), (2, 2, .iconst 0, 1, []), (3, 3, .istore_n 3, 1, []), (4, 4, .iload_n 3, 1, []), (5, 5, .aload_n 0, 1, []), (6, 6, .invokevirtual 380, 3, [1, 195, 0, 0, 0, 0, 12, 1747, 1749, 81, 137, 1750]), (7, 9, .if_icmp .ge 50, 3, [39]), (8, 12, .iload_n 1, 1, []), (9, 13, .aload_n 0, 1, []), (10, 14, .getfield 48, 3, [12, 20, 2, 1355, 1]), (11, 17, .bipush 16, 2, []), (12, 19, .aload_n 0, 1, []), (13, 20, .getfield 283, 3, [12, 36, 0, 1371, 0]), (14, 23, .imul, 1, []), (15, 24, .iload_n 3, 1, []), (16, 25, .iadd, 1, []), (17, 26, .iaload, 1, []), (18, 27, .ishr, 1, []), (19, 28, .iconst 1, 1, []), (20, 29, .iand, 1, []), (21, 30, .iconst 1, 1, []), (22, 31, .if_icmp .ne 22, 3, [37]), (23, 34, .iload_n 2, 1, []), (24, 35, .iconst 1, 1, []), (25, 36, .aload_n 0, 1, []), (26, 37, .getfield 51, 3, [12, 21, 2, 1356, 1]), (27, 40, .bipush 16, 2, []), (28, 42, .aload_n 0, 1, []), (29, 43, .getfield 283, 3, [12, 36, 0, 1371, 0]), (30, 46, .imul, 1, []), (31, 47, .iload_n 3, 1, []), (32, 48, .iadd, 1, []), (33, 49, .iaload, 1, []), (34, 50, .ishl, 1, []), (35, 51, .ior, 1, []), (36, 52, .istore_n 2, 1, []), (37, 53, .iinc 3 1, 3, []), (38, 56, .goto (-52), 3, [4]), (39, 59, .iload_n 2, 1, []), (40, 60, .ireturn, 1, [0])]
set_option maxRecDepth 20000 in
def kX12_isInRing : List INS := [(0, 0, .iconst 0, 1, []), (1, 1, .istore_n 2, 1, []), (2, 2, .iconst 0, 1, []), (3, 3, .istore_n 3, 1, []), (4, 4, .iload_n 3, 1, []), (5, 5, .aload_n 0, 1, []), (6, 6, .invokevirtual 380, 3, [1, 195, 0, 0, 0, 0, 12, 1747, 1749, 81, 137, 1750]), (7, 9, .if_icmp .ge 46, 3, [35]), (8, 12, .aload_n 0, 1, []), (9, 13, .getfield 48, 3, [12, 20, 2, 1355, 1]), (10, 16, .bipush 16, 2, []), (11, 18, .aload_n 0, 1, []), (12, 19, .getfield 283, 3, [12, 36, 0, 1371, 0]), (13, 22, .imul, 1, []), (14, 23, .iload_n 3, 1, []), (15, 24, .iadd, 1, []), (16, 25, .iaload, 1, []), (17, 26, .iload_n 1, 1, []), (18, 27, .if_icmp .ne 22, 3, [33]), (19, 30, .iload_n 2, 1, []), (20, 31, .iconst 1, 1, []), (21, 32, .aload_n 0, 1, []), (22, 33, .getfield 51, 3, [12, 21, 2, 1356, 1]), (23, 36, .bipush 16, 2, []), (24, 38, .aload_n 0, 1, []), (25, 39, .getfield 283, 3, [12, 36, 0, 1371, 0]), (26, 42, .imul, 1, []), (27, 43, .iload_n 3, 1, []), (28, 44, .iadd, 1, []), (29, 45, .iaload, 1, []), (30, 46, .ishl, 1, []), (31, 47, .ior, 1, []), (32, 48, .istore_n 2, 1, []), (33, 49, .iinc 3 1, 3, []), (34, 52, .goto (-48), 3, [4]), (35, 55, .aload_n 0, 1, []), (36, 56, .iload_n 2, 1, []), (37, 57, .invokevirtual 525, 3, [1, 255, 1, 0, 0, 0, 12, 1976, 1978, 114, 137, 1979]), (38, 60, .istore_n 3, 1, []), (39, 61, .iload_n 3, 1, []), (40, 62, .iload_n 2, 1, []), (41, 63, .if_icmp .eq 14, 3, [49]), (42, 66, .iload_n 3, 1, []), (43, 67, .istore_n 2, 1, []), (44, 68, .aload_n 0, 1, []), (45, 69, .iload_n 2, 1, []), (46, 70, .invokevirtual 525, 3, [1, 255, 1, 0, 0, 0, 12, 1976, 1978, 114, 137, 1979]), (47, 73, .istore_n 3, 1, []), (48, 74, .goto (-13), 3, [39]), (49, 77, .iload_n 2, 1, []), (50, 78, .iload_n 1, 1, []), (51, 79, .ishr, 1, []), (52, 80, .iconst 1, 1, []), (53, 81, .iand, 1, []), (54, 82, .iconst 1, 1, []), (55, 83, .if_icmp .ne 7, 3, [58]), (56, 86, .iconst 1, 1, []), (57, 87, .goto 4, 3, [59]), (58, 90, .iconst 0, 1, []), (59, 91, .ireturn, 1, [5])]
set_option maxRecDepth 20000 in
def kX12_ring : List INS := [(0, 0, .iconst 0, 1, []), (1, 1, .istore_n 1, 1, []), (2, 2, .iconst 0, 1, []), (3, 3, .istore_n 2, 1, []), (4, 4, .iload_n 2, 1, []), (5, 5, .aload_n 0, 1, []), (6, 6, .invokevirtual 373, 3, [1, 194, 0, 0, 0, 0, 12, 1728, 1730, 78, 137, 1731]), (7, 9, .if_icmp .ge 27, 3, [22]), (8, 12, .iload_n 1, 1, []), (9, 13, .aload_n 0, 1, []), (10, 14, .iload_n 2, 1, []), (11, 15, .invokevirtual 528, 3, [1, 256, 1, 5, 0, 0, 12, 1972, 1974, 113, 137, 1975]), (12, 18, .ifCond .eq 9, 3, [17]), (13, 21, .iconst 1, 1, []), (14, 22, .iload_n 2, 1, []), (15, 23, .ishl, 1, []), (16, 24, .goto 4, 3, [18]), (17, 27, .iconst 0, 1, []), (18, 28, .ior, 1, []), (19, 29, .istore_n 1, 1, []), (20, 30, .iinc 2 1, 3, []), (21, 33, .goto (-29), 3, [4]), (22, 36, .iload_n 1, 1, []), (23, 37, .ireturn, 1, [0])]
set_option maxRecDepth 20000 in
def kX12_pair : List INS := [(0, 0, .iload_n 1, 1, []), (1, 1, .iconst 0, 1, []), (2, 2, .sipush 999, 3, []), (3, 5, .invokestatic 376, 3, [0, 193, 3, 5, 0, 0, 0, 1732, 1733, 0, 137, 1734]), (4, 8, .ifCond .eq 22, 3, [14]), (5, 11, .iload_n 2, 1, []), (6, 12, .iconst 0, 1, []), (7, 13, .sipush 999, 3, []), (8, 16, .invokestatic 376, 3, [0, 193, 3, 5, 0, 0, 0, 1732, 1733, 0, 137, 1734]), (9, 19, .ifCond .eq 11, 3, [14]), (10, 22, .aload_n 0, 1, []), (11, 23, .getfield 401, 3, [12, 61, 0, 1396, 0]), (12, 26, .iconst 4, 1, []), (13, 27, .if_icmp .ne 5, 3, [16]), (14, 30, .iconst (-1), 1, []), (15, 31, .ireturn, 1, [0]), (16, 32, .aload_n 0, 1, []), (17, 33, .getfield 131, 3, [12, 59, 2, 1394, 1]), (18, 36, .aload_n 0, 1, []), (19, 37, .getfield 401, 3, [12, 61, 0, 1396, 0]), (20, 40, .iload_n 1, 1, []), (21, 41, .iastore, 1, []), (22, 42, .aload_n 0, 1, []), (23, 43, .getfield 134, 3, [12, 60, 2, 1395, 1]), (24, 46, .aload_n 0, 1, []), (25, 47, .getfield 401, 3, [12, 61, 0, 1396, 0]), (26, 50, .iload_n 2, 1, []), (27, 51, .iastore, 1, []), (28, 52, .aload_n 0, 1, []), (29, 53, .dup, 1, []), (30, 54, .getfield 401, 3, [12, 61, 0, 1396, 0]), (31, 57, .iconst 1, 1, []), (32, 58, .iadd, 1, []), (33, 59, .putfield 401, 3, [12, 61, 0, 1396, 0]), (34, 62, .aload_n 0, 1, []), (35, 63, .getfield 401, 3, [12, 61, 0, 1396, 0]), (36, 66, .ireturn, 1, [0])]
set_option maxRecDepth 20000 in
def kX12_hush : List INS := [(0, 0, .aload_n 0, 1, []), (1, 1, .getfield 401, 3, [12, 61, 0, 1396, 0]), (2, 4, .istore_n 1, 1, []), (3, 5, .aload_n 0, 1, []), (4, 6, .iconst 0, 1, []), (5, 7, .putfield 401, 3, [12, 61, 0, 1396, 0]), (6, 10, .iload_n 1, 1, []), (7, 11, .ireturn, 1, [0])]
set_option maxRecDepth 20000 in
def kX12_made : List INS := [(0, 0, .iload_n 1, 1, []), (1, 1, .ifCond .ne 9, 3, [6]), (2, 4, .iload_n 0, 1, []), (3, 5, .iconst 2, 1, []), (4, 6, .idiv, 1, []), (5, 7, .goto 36, 3, [27]), (6, 10, .iload_n 1, 1, []), (7, 11, .iconst 1, 1, []), (8, 12, .if_icmp .ne 9, 3, [13]), (9, 15, .iload_n 0, 1, []), (10, 16, .iconst 1, 1, []), (11, 17, .iadd, 1, []), (12, 18, .goto 25, 3, [27]), (13, 21, .iload_n 1, 1, []), (14, 22, .iconst 2, 1, []), (15, 23, .if_icmp .ne 17, 3, [24]), (16, 26, .iload_n 0, 1, []), (17, 27, .ifCond .le 9, 3, [22]), (18, 30, .iload_n 0, 1, []), (19, 31, .iconst 1, 1, []), (20, 32, .isub, 1, []), (21, 33, .goto 10, 3, [27]), (22, 36, .iconst 0, 1, []), (23, 37, .goto 6, 3, [27]), (24, 40, .iconst 2, 1, []), (25, 41, .iload_n 0, 1, []), (26, 42, .imul, 1, []), (27, 43, .ireturn, 1, [0])]
set_option maxRecDepth 20000 in
def kX12_doesChain : List INS := [(0, 0, .iconst 0, 1, []), (1, 1, .istore_n 3, 1, []), (2, 2, .iload_n 3, 1, []), (3, 3, .iload_n 2, 1, []), (4, 4, .if_icmp .ge 26, 3, [22]), (5, 7, .aload_n 0, 1, []), (6, 8, .getfield 116, 3, [12, 53, 2, 1388, 1]), (7, 11, .iload_n 3, 1, []), (8, 12, .iload_n 1, 1, []), (9, 13, .iconst 2, 1, []), (10, 14, .iload_n 2, 1, []), (11, 15, .iconst 1, 1, []), (12, 16, .isub, 1, []), (13, 17, .iload_n 3, 1, []), (14, 18, .isub, 1, []), (15, 19, .imul, 1, []), (16, 20, .ishr, 1, []), (17, 21, .iconst 3, 1, []), (18, 22, .iand, 1, []), (19, 23, .iastore, 1, []), (20, 24, .iinc 3 1, 3, []), (21, 27, .goto (-25), 3, [2]), (22, 30, .iconst 0, 1, []), (23, 31, .istore_n 3, 1, []), (24, 32, .iload_n 3, 1, []), (25, 33, .aload_n 0, 1, []), (26, 34, .getfield 401, 3, [12, 61, 0, 1396, 0]), (27, 37, .if_icmp .ge 59, 3, [57]), (28, 40, .aload_n 0, 1, []), (29, 41, .getfield 131, 3, [12, 59, 2, 1394, 1]), (30, 44, .iload_n 3, 1, []), (31, 45, .iaload, 1, []), (32, 46, .istore 4, 2, []), (33, 48, .iconst 0, 1, []), (34, 49, .istore 5, 2, []), (35, 51, .iload 5, 2, []), (36, 53, .iload_n 2, 1, []), (37, 54, .if_icmp .ge 23, 3, [47]), (38, 57, .iload 4, 2, []), (39, 59, .aload_n 0, 1, []), (40, 60, .getfield 116, 3, [12, 53, 2, 1388, 1]), (41, 63, .iload 5, 2, []), (42, 65, .iaload, 1, []), (43, 66, .invokestatic 531, 3, [0, 260, 2, 0, 0, 0, 0, 1996, 1997, 0, 137, 1998]), (44, 69, .istore 4, 2, []), (45, 71, .iinc 5 1, 3, []), (46, 74, .goto (-23), 3, [35]), (47, 77, .iload 4, 2, []), (48, 79, .aload_n 0, 1, []), (49, 80, .getfield 134, 3, [12, 60, 2, 1395, 1]), (50, 83, .iload_n 3, 1, []), (51, 84, .iaload, 1, []), (52, 85, .if_icmp .eq 5, 3, [55]), (53, 88, .iconst 0, 1, []), (54, 89, .ireturn, 1, [5]), (55, 90, .iinc 3 1, 3, []), (56, 93, .goto (-61), 3, [24]), (57, 96, .iconst 1, 1, []), (58, 97, .ireturn, 1, [5])]
set_option maxRecDepth 20000 in
def kX12_chain : List INS := [(0, 0, .aload_n 0, 1, []), (1, 1, .iconst 0, 1, []), (2, 2, .putfield 407, 3, [12, 55, 0, 1390, 0]), (3, 5, .iconst 0, 1, []), (4, 6, .istore_n 1, 1, []), (5, 7, .iload_n 1, 1, []), (6, 8, .bipush 8, 2, []), (7, 10, .if_icmp .gt 45, 3, [32]), (8, 13, .iconst 0, 1, []), (9, 14, .istore_n 2, 1, []), (10, 15, .iload_n 2, 1, []), (11, 16, .iconst 1, 1, []), (12, 17, .iconst 2, 1, []), (13, 18, .iload_n 1, 1, []), (14, 19, .imul, 1, []), (15, 20, .ishl, 1, []), (16, 21, .if_icmp .ge 28, 3, [30]), (17, 24, .aload_n 0, 1, []), (18, 25, .iload_n 2, 1, []), (19, 26, .iload_n 1, 1, []), (20, 27, .invokevirtual 534, 3, [1, 261, 2, 5, 0, 0, 12, 1992, 1994, 115, 137, 1995]), (21, 30, .ifCond .ne 6, 3, [23]), (22, 33, .goto 10, 3, [28]), (23, 36, .aload_n 0, 1, []), (24, 37, .iload_n 1, 1, []), (25, 38, .putfield 407, 3, [12, 55, 0, 1390, 0]), (26, 41, .iload_n 1, 1, []), (27, 42, .ireturn, 1, [0]), (28, 43, .iinc 2 1, 3, []), (29, 46, .goto (-31), 3, [10]), (30, 49, .iinc 1 1, 3, []), (31, 52, .goto (-45), 3, [5]), (32, 55, .iconst (-1), 1, []), (33, 56, .ireturn, 1, [0])]
set_option maxRecDepth 20000 in
def kX12_sight : List INS := [(0, 0, .aload_n 0, 1, []), (1, 1, .iload_n 1, 1, []), (2, 2, .invokevirtual 454, 3, [1, 200, 1, 5, 0, 0, 12, 1832, 1834, 92, 137, 1835]), (3, 5, .ifCond .eq 33, 3, [18]), (4, 8, .iload_n 2, 1, []), (5, 9, .iconst 1, 1, []), (6, 10, .bipush 60, 2, []), (7, 12, .invokestatic 376, 3, [0, 193, 3, 5, 0, 0, 0, 1732, 1733, 0, 137, 1734]), (8, 15, .ifCond .eq 23, 3, [18]), (9, 18, .iload_n 3, 1, []), (10, 19, .iconst 0, 1, []), (11, 20, .ldc_w 410, 3, [999999, 1779]), (12, 23, .invokestatic 376, 3, [0, 193, 3, 5, 0, 0, 0, 1732, 1733, 0, 137, 1734]), (13, 26, .ifCond .eq 12, 3, [18]), (14, 29, .aload_n 0, 1, []), (15, 30, .getfield 404, 3, [12, 70, 0, 1405, 0]), (16, 33, .bipush 20, 2, []), (17, 35, .if_icmp .ne 5, 3, [20]), (18, 38, .iconst (-1), 1, []), (19, 39, .ireturn, 1, [0]), (20, 40, .aload_n 0, 1, []), (21, 41, .getfield 137, 3, [12, 62, 2, 1397, 1]), (22, 44, .aload_n 0, 1, []), (23, 45, .getfield 404, 3, [12, 70, 0, 1405, 0]), (24, 48, .iload_n 1, 1, []), (25, 49, .iastore, 1, []), (26, 50, .aload_n 0, 1, []), (27, 51, .getfield 140, 3, [12, 63, 2, 1398, 1]), (28, 54, .aload_n 0, 1, []), (29, 55, .getfield 404, 3, [12, 70, 0, 1405, 0]), (30, 58, .iload_n 2, 1, []), (31, 59, .iastore, 1, []), (32, 60, .aload_n 0, 1, []), (33, 61, .getfield 143, 3, [12, 64, 2, 1399, 1]), (34, 64, .aload_n 0, 1, []), (35, 65, .getfield 404, 3, [12, 70, 0, 1405, 0]), (36, 68, .iload_n 3, 1, []), (37, 69, .iastore, 1, []), (38, 70, .aload_n 0, 1, []), (39, 71, .getfield 146, 3, [12, 65, 2, 1400, 1]), (40, 74, .aload_n 0, 1, []), (41, 75, .getfield 404, 3, [12, 70, 0, 1405, 0]), (42, 78, .aload_n 0, 1, []), (43, 79, .getfield 537, 3, [12, 71, 0, 1406, 0]), (44, 82, .iastore, 1, []), (45, 83, .aload_n 0, 1, []), (46, 84, .getfield 149, 3, [12, 66, 2, 1401, 1]), (47, 87, .aload_n 0, 1, []), (48, 88, .getfield 404, 3, [12, 70, 0, 1405, 0]), (49, 91, .iconst (-1), 1, []), (50, 92, .iastore, 1, []), (51, 93, .aload_n 0, 1, []), (52, 94, .dup, 1, []), (53, 95, .getfield 404, 3, [12, 70, 0, 1405, 0]), (54, 98, .iconst 1, 1, []), (55, 99, .iadd, 1, []), (56, 100, .putfield 404, 3, [12, 70, 0, 1405, 0]), (57, 103, .aload_n 0, 1, []), (58, 104, .getfield 404, 3, [12, 70, 0, 1405, 0]), (59, 107, .iconst 1, 1, []), (60, 108, .isub, 1, []), (61, 109, .ireturn, 1, [0])]
set_option maxRecDepth 20000 in
def kX12_untell : List INS := [(0, 0, .iload_n 1, 1, []), (1, 1, .iconst 0, 1, []), (2, 2, .aload_n 0, 1, []), (3, 3, .getfield 404, 3, [12, 70, 0, 1405, 0]), (4, 6, .iconst 1, 1, []), (5, 7, .isub, 1, []), (6, 8, .invokestatic 376, 3, [0, 193, 3, 5, 0, 0, 0, 1732, 1733, 0, 137, 1734]), (7, 11, .ifCond .eq 12, 3, [13]), (8, 14, .aload_n 0, 1, []), (9, 15, .getfield 149, 3, [12, 66, 2, 1401, 1]), (10, 18, .iload_n 1, 1, []), (11, 19, .iaload, 1, []), (12, 20, .ifCond .lt 5, 3, [15]), (13, 23, .iconst 0, 1, []), (14, 24, .ireturn, 1, [5]), (15, 25, .aload_n 0, 1, []), (16, 26, .getfield 149, 3, [12, 66, 2, 1401, 1]), (17, 29, .iload_n 1, 1, []), (18, 30, .aload_n 0, 1, []), (19, 31, .getfield 537, 3, [12, 71, 0, 1406, 0]), (20, 34, .iastore, 1, []), (21, 35, .iconst 1, 1, []), (22, 36, .ireturn, 1, [5])]
set_option maxRecDepth 20000 in
def kX12_later : List INS := [(0, 0, .iload_n 1, 1, []), (1, 1, .iconst 0, 1, []), (2, 2, .sipush 1000, 3, []), (3, 5, .invokestatic 376, 3, [0, 193, 3, 5, 0, 0, 0, 1732, 1733, 0, 137, 1734]), (4, 8, .ifCond .eq 15, 3, [11]), (5, 11, .aload_n 0, 1, []), (6, 12, .getfield 537, 3, [12, 71, 0, 1406, 0]), (7, 15, .iload_n 1, 1, []), (8, 16, .iadd, 1, []), (9, 17, .ldc_w 540, 3, [100000, 2011]), (10, 20, .if_icmp .le 5, 3, [13]), (11, 23, .iconst (-1), 1, []), (12, 24, .ireturn, 1, [0]), (13, 25, .aload_n 0, 1, []), (14, 26, .dup, 1, []), (15, 27, .getfield 537, 3, [12, 71, 0, 1406, 0]), (16, 30, .iload_n 1, 1, []), (17, 31, .iadd, 1, []), (18, 32, .putfield 537, 3, [12, 71, 0, 1406, 0]), (19, 35, .aload_n 0, 1, []), (20, 36, .getfield 537, 3, [12, 71, 0, 1406, 0]), (21, 39, .ireturn, 1, [0])]
set_option maxRecDepth 20000 in
def kX12_counts : List INS := [(0, 0, .aload_n 0, 1, []), (1, 1, .getfield 146, 3, [12, 65, 2, 1400, 1]), (2, 4, .iload_n 1, 1, []), (3, 5, .iaload, 1, []), (4, 6, .iload_n 2, 1, []), (5, 7, .if_icmp .gt 26, 3, [19]), (6, 10, .aload_n 0, 1, []), (7, 11, .getfield 149, 3, [12, 66, 2, 1401, 1]), (8, 14, .iload_n 1, 1, []), (9, 15, .iaload, 1, []), (10, 16, .ifCond .lt 13, 3, [17]), (11, 19, .aload_n 0, 1, []), (12, 20, .getfield 149, 3, [12, 66, 2, 1401, 1]), (13, 23, .iload_n 1, 1, []), (14, 24, .iaload, 1, []), (15, 25, .iload_n 2, 1, []), (16, 26, .if_icmp .le 7, 3, [19]), (17, 29, .iconst 1, 1, []), (18, 30, .goto 4, 3, [20]), (19, 33, .iconst 0, 1, []), (20, 34, .ireturn, 1, [5])]
set_option maxRecDepth 20000 in
def kX12_lastBeat : List INS := [(0, 0, .iconst 0, 1, []), (1, 1, .istore_n 2, 1, []), (2, 2, .iconst 0, 1, []), (3, 3, .istore_n 3, 1, []), (4, 4, .iload_n 3, 1, []), (5, 5, .aload_n 0, 1, []), (6, 6, .getfield 404, 3, [12, 70, 0, 1405, 0]), (7, 9, .if_icmp .ge 35, 3, [26]), (8, 12, .aload_n 0, 1, []), (9, 13, .iload_n 3, 1, []), (10, 14, .iload_n 1, 1, []), (11, 15, .invokevirtual 541, 3, [1, 266, 2, 5, 0, 0, 12, 2028, 2030, 119, 137, 2031]), (12, 18, .ifCond .eq 20, 3, [24]), (13, 21, .aload_n 0, 1, []), (14, 22, .getfield 140, 3, [12, 63, 2, 1398, 1]), (15, 25, .iload_n 3, 1, []), (16, 26, .iaload, 1, []), (17, 27, .iload_n 2, 1, []), (18, 28, .if_icmp .le 10, 3, [24]), (19, 31, .aload_n 0, 1, []), (20, 32, .getfield 140, 3, [12, 63, 2, 1398, 1]), (21, 35, .iload_n 3, 1, []), (22, 36, .iaload, 1, []), (23, 37, .istore_n 2, 1, []), (24, 38, .iinc 3 1, 3, []), (25, 41, .goto (-37), 3, [4]), (26, 44, .iload_n 2, 1, []), (27, 45, .ireturn, 1, [0])]
set_option maxRecDepth 20000 in
def kX12_areSo : List INS := [(0, 0, .aload_n 0, 1, []), (1, 1, .invokevirtual 451, 3, [1, 226, 0, 9, 0, 0, 12, 1847, 1849, 95, 137, 1850]), (2, 4, .aload_n 0, 1, []), (3, 5, .iload_n 1, 1, []), (4, 6, .invokevirtual 544, 3, [1, 267, 1, 0, 0, 0, 12, 2024, 2026, 118, 137, 2027]), (5, 9, .istore_n 2, 1, []), (6, 10, .iconst 1, 1, []), (7, 11, .istore_n 3, 1, []), (8, 12, .iload_n 3, 1, []), (9, 13, .iload_n 2, 1, []), (10, 14, .if_icmp .gt 80, 3, [50]), (11, 17, .aload_n 0, 1, []), (12, 18, .invokevirtual 445, 3, [1, 209, 0, 9, 0, 0, 12, 1788, 1790, 87, 137, 1791]), (13, 21, .iconst 0, 1, []), (14, 22, .istore 4, 2, []), (15, 24, .iload 4, 2, []), (16, 26, .aload_n 0, 1, []), (17, 27, .getfield 404, 3, [12, 70, 0, 1405, 0]), (18, 30, .if_icmp .ge 58, 3, [48]), (19, 33, .aload_n 0, 1, []), (20, 34, .getfield 140, 3, [12, 63, 2, 1398, 1]), (21, 37, .iload 4, 2, []), (22, 39, .iaload, 1, []), (23, 40, .iload_n 3, 1, []), (24, 41, .if_icmp .ne 41, 3, [46]), (25, 44, .aload_n 0, 1, []), (26, 45, .iload 4, 2, []), (27, 47, .iload_n 1, 1, []), (28, 48, .invokevirtual 541, 3, [1, 266, 2, 5, 0, 0, 12, 2028, 2030, 119, 137, 2031]), (29, 51, .ifCond .eq 31, 3, [46]), (30, 54, .aload_n 0, 1, []), (31, 55, .getfield 98, 3, [12, 42, 2, 1377, 1]), (32, 58, .sipush 192, 3, []), (33, 61, .aload_n 0, 1, []), (34, 62, .getfield 137, 3, [12, 62, 2, 1397, 1]), (35, 65, .iload 4, 2, []), (36, 67, .iaload, 1, []), (37, 68, .iadd, 1, []), (38, 69, .iaload, 1, []), (39, 70, .aload_n 0, 1, []), (40, 71, .getfield 143, 3, [12, 64, 2, 1399, 1]), (41, 74, .iload 4, 2, []), (42, 76, .iaload, 1, []), (43, 77, .if_icmp .eq 5, 3, [46]), (44, 80, .iconst 0, 1, []), (45, 81, .ireturn, 1, [5]), (46, 82, .iinc 4 1, 3, []), (47, 85, .goto (-61), 3, [15]), (48, 88, .iinc 3 1, 3, []), (49, 91, .goto (-79), 3, [8]), (50, 94, .iconst 1, 1, []), (51, 95, .ireturn, 1, [5])]
set_option maxRecDepth 20000 in
def kX12_countBegun : List INS := [(0, 0, .iconst 0, 1, []), (1, 1, .istore_n 3, 1, []), (2, 2, .aload_n 0, 1, []), (3, 3, .invokevirtual 460, 3, [1, 204, 0, 9, 0, 0, 12, 1839, 1841, 93, 137, 1842]), (4, 6, .aload_n 0, 1, []), (5, 7, .invokevirtual 478, 3, [1, 232, 0, 9, 0, 0, 12, 1894, 1896, 103, 137, 1897]), (6, 10, .iconst 0, 1, []), (7, 11, .istore 4, 2, []), (8, 13, .iload 4, 2, []), (9, 15, .aload_n 0, 1, []), (10, 16, .iload_n 1, 1, []), (11, 17, .invokevirtual 481, 3, [1, 234, 1, 0, 0, 0, 12, 1886, 1888, 101, 137, 1889]), (12, 20, .if_icmp .ge 136, 3, [81]), (13, 23, .aload_n 0, 1, []), (14, 24, .iload 4, 2, []), (15, 26, .iload_n 1, 1, []), (16, 27, .invokevirtual 484, 3, [1, 235, 2, 9, 0, 0, 12, 1898, 1900, 104, 137, 1901]), (17, 30, .aload_n 0, 1, []), (18, 31, .iload_n 2, 1, []), (19, 32, .invokevirtual 547, 3, [1, 268, 1, 5, 0, 0, 12, 2020, 2022, 117, 137, 2023]), (20, 35, .ifCond .ne 6, 3, [22]), (21, 38, .goto 112, 3, [79]), (22, 41, .iconst 0, 1, []), (23, 42, .istore 5, 2, []), (24, 44, .iload 5, 2, []), (25, 46, .aload_n 0, 1, []), (26, 47, .invokevirtual 439, 3, [1, 196, 0, 0, 0, 0, 12, 1775, 1777, 85, 137, 1778]), (27, 50, .if_icmp .ge 97, 3, [78]), (28, 53, .iload_n 3, 1, []), (29, 54, .ifCond .ne 17, 3, [38]), (30, 57, .aload_n 0, 1, []), (31, 58, .getfield 152, 3, [12, 67, 2, 1402, 1]), (32, 61, .iload 5, 2, []), (33, 63, .aload_n 0, 1, []), (34, 64, .getfield 110, 3, [12, 46, 2, 1381, 1]), (35, 67, .iload 5, 2, []), (36, 69, .iaload, 1, []), (37, 70, .iastore, 1, []), (38, 71, .iload_n 3, 1, []), (39, 72, .ifCond .eq 20, 3, [49]), (40, 75, .aload_n 0, 1, []), (41, 76, .getfield 110, 3, [12, 46, 2, 1381, 1]), (42, 79, .iload 5, 2, []), (43, 81, .iaload, 1, []), (44, 82, .aload_n 0, 1, []), (45, 83, .getfield 155, 3, [12, 68, 2, 1403, 1]), (46, 86, .iload 5, 2, []), (47, 88, .iaload, 1, []), (48, 89, .if_icmp .ge 17, 3, [57]), (49, 92, .aload_n 0, 1, []), (50, 93, .getfield 155, 3, [12, 68, 2, 1403, 1]), (51, 96, .iload 5, 2, []), (52, 98, .aload_n 0, 1, []), (53, 99, .getfield 110, 3, [12, 46, 2, 1381, 1]), (54, 102, .iload 5, 2, []), (55, 104, .iaload, 1, []), (56, 105, .iastore, 1, []), (57, 106, .iload_n 3, 1, []), (58, 107, .ifCond .eq 20, 3, [68]), (59, 110, .aload_n 0, 1, []), (60, 111, .getfield 110, 3, [12, 46, 2, 1381, 1]), (61, 114, .iload 5, 2, []), (62, 116, .iaload, 1, []), (63, 117, .aload_n 0, 1, []), (64, 118, .getfield 158, 3, [12, 69, 2, 1404, 1]), (65, 121, .iload 5, 2, []), (66, 123, .iaload, 1, []), (67, 124, .if_icmp .le 17, 3, [76]), (68, 127, .aload_n 0, 1, []), (69, 128, .getfield 158, 3, [12, 69, 2, 1404, 1]), (70, 131, .iload 5, 2, []), (71, 133, .aload_n 0, 1, []), (72, 134, .getfield 110, 3, [12, 46, 2, 1381, 1]), (73, 137, .iload 5, 2, []), (74, 139, .iaload, 1, []), (75, 140, .iastore, 1, []), (76, 141, .iinc 5 1, 3, []), (77, 144, .goto (-100), 3, [24]), (78, 147, .iinc 3 1, 3, []), (79, 150, .iinc 4 1, 3, []), (80, 153, .goto (-140), 3, [8]), (81, 156, .aload_n 0, 1, []), (82, 157, .invokevirtual 491, 3, [1, 233, 0, 9, 0, 0, 12, 1906, 1908, 106, 137, 1909]), (83, 160, .aload_n 0, 1, []), (84, 161, .invokevirtual 466, 3, [1, 205, 0, 9, 0, 0, 12, 1851, 1853, 96, 137, 1854]), (85, 164, .iload_n 3, 1, []), (86, 165, .ireturn, 1, [0])]
set_option maxRecDepth 20000 in
def kX12_begun : List INS := [(0, 0, .aload_n 0, 1, []), (1, 1, .iconst 0, 1, []), (2, 2, .putfield 407, 3, [12, 55, 0, 1390, 0]), (3, 5, .iload_n 1, 1, []), (4, 6, .iconst 0, 1, []), (5, 7, .bipush 9, 2, []), (6, 9, .invokestatic 376, 3, [0, 193, 3, 5, 0, 0, 0, 1732, 1733, 0, 137, 1734]), (7, 12, .ifCond .ne 5, 3, [10]), (8, 15, .iconst (-1), 1, []), (9, 16, .ireturn, 1, [0]), (10, 17, .aload_n 0, 1, []), (11, 18, .iload_n 1, 1, []), (12, 19, .iload_n 2, 1, []), (13, 20, .invokevirtual 550, 3, [1, 269, 2, 0, 0, 0, 12, 2016, 2018, 116, 137, 2019]), (14, 23, .istore_n 3, 1, []), (15, 24, .iload_n 3, 1, []), (16, 25, .ifCond .ne 5, 3, [19]), (17, 28, .iconst 0, 1, []), (18, 29, .ireturn, 1, [0]), (19, 30, .iconst 0, 1, []), (20, 31, .istore 4, 2, []), (21, 33, .iload 4, 2, []), (22, 35, .aload_n 0, 1, []), (23, 36, .invokevirtual 439, 3, [1, 196, 0, 0, 0, 0, 12, 1775, 1777, 85, 137, 1778]), (24, 39, .if_icmp .ge 23, 3, [35]), (25, 42, .aload_n 0, 1, []), (26, 43, .getfield 116, 3, [12, 53, 2, 1388, 1]), (27, 46, .iload 4, 2, []), (28, 48, .aload_n 0, 1, []), (29, 49, .getfield 152, 3, [12, 67, 2, 1402, 1]), (30, 52, .iload 4, 2, []), (31, 54, .iaload, 1, []), (32, 55, .iastore, 1, []), (33, 56, .iinc 4 1, 3, []), (34, 59, .goto (-26), 3, [21]), (35, 62, .aload_n 0, 1, []), (36, 63, .aload_n 0, 1, []), (37, 64, .invokevirtual 439, 3, [1, 196, 0, 0, 0, 0, 12, 1775, 1777, 85, 137, 1778]), (38, 67, .putfield 407, 3, [12, 55, 0, 1390, 0]), (39, 70, .iload_n 3, 1, []), (40, 71, .ireturn, 1, [0])]
set_option maxRecDepth 20000 in
def kX12_sure : List INS := [(0, 0, .iload_n 1, 1, []), (1, 1, .iconst 0, 1, []), (2, 2, .aload_n 0, 1, []), (3, 3, .invokevirtual 439, 3, [1, 196, 0, 0, 0, 0, 12, 1775, 1777, 85, 137, 1778]), (4, 6, .iconst 1, 1, []), (5, 7, .isub, 1, []), (6, 8, .invokestatic 376, 3, [0, 193, 3, 5, 0, 0, 0, 1732, 1733, 0, 137, 1734]), (7, 11, .ifCond .eq 22, 3, [18]), (8, 14, .iload_n 2, 1, []), (9, 15, .iconst 0, 1, []), (10, 16, .bipush 9, 2, []), (11, 18, .invokestatic 376, 3, [0, 193, 3, 5, 0, 0, 0, 1732, 1733, 0, 137, 1734]), (12, 21, .ifCond .eq 12, 3, [18]), (13, 24, .aload_n 0, 1, []), (14, 25, .iload_n 2, 1, []), (15, 26, .iload_n 3, 1, []), (16, 27, .invokevirtual 550, 3, [1, 269, 2, 0, 0, 0, 12, 2016, 2018, 116, 137, 2019]), (17, 30, .ifCond .ne 5, 3, [20]), (18, 33, .iconst (-1), 1, []), (19, 34, .ireturn, 1, [0]), (20, 35, .aload_n 0, 1, []), (21, 36, .getfield 155, 3, [12, 68, 2, 1403, 1]), (22, 39, .iload_n 1, 1, []), (23, 40, .iaload, 1, []), (24, 41, .aload_n 0, 1, []), (25, 42, .getfield 158, 3, [12, 69, 2, 1404, 1]), (26, 45, .iload_n 1, 1, []), (27, 46, .iaload, 1, []), (28, 47, .if_icmp .ne 12, 3, [34]), (29, 50, .aload_n 0, 1, []), (30, 51, .getfield 155, 3, [12, 68, 2, 1403, 1]), (31, 54, .iload_n 1, 1, []), (32, 55, .iaload, 1, []), (33, 56, .goto 5, 3, [35]), (34, 59, .bipush (-2), 2, []), (35, 61, .ireturn, 1, [0])]
set_option maxRecDepth 20000 in
def kX12_image : List INS := [(0, 0, .iload_n 1, 1, []), (1, 1, .iconst 0, 1, []), (2, 2, .iconst 2, 1, []), (3, 3, .invokestatic 376, 3, [0, 193, 3, 5, 0, 0, 0, 1732, 1733, 0, 137, 1734]), (4, 6, .ifCond .ne 5, 3, [7]), (5, 9, .iconst (-1), 1, []), (6, 10, .ireturn, 1, [0]), (7, 11, .iconst 0, 1, []), (8, 12, .istore_n 2, 1, []), (9, 13, .iload_n 2, 1, []), (10, 14, .sipush 218, 3, []), (11, 17, .if_icmp .ge 27, 3, [26]), (12, 20, .aload_n 0, 1, []), (13, 21, .getfield 161, 3, [12, 72, 2, 1407, 1]), (14, 24, .sipush 218, 3, []), (15, 27, .iload_n 1, 1, []), (16, 28, .imul, 1, []), (17, 29, .iload_n 2, 1, []), (18, 30, .iadd, 1, []), (19, 31, .aload_n 0, 1, []), (20, 32, .getfield 98, 3, [12, 42, 2, 1377, 1]), (21, 35, .iload_n 2, 1, []), (22, 36, .iaload, 1, []), (23, 37, .iastore, 1, []), (24, 38, .iinc 2 1, 3, []), (25, 41, .goto (-28), 3, [9]), (26, 44, .aload_n 0, 1, []), (27, 45, .getfield 164, 3, [12, 73, 2, 1408, 1]), (28, 48, .iload_n 1, 1, []), (29, 49, .iconst 1, 1, []), (30, 50, .bastore, 1, [103]), (31, 51, .aload_n 0, 1, []), (32, 52, .getfield 98, 3, [12, 42, 2, 1377, 1]), (33, 55, .sipush 216, 3, []), (34, 58, .iaload, 1, []), (35, 59, .ireturn, 1, [0])]
set_option maxRecDepth 20000 in
def kX12_back : List INS := [(0, 0, .iload_n 1, 1, []), (1, 1, .iconst 0, 1, []), (2, 2, .iconst 2, 1, []), (3, 3, .invokestatic 376, 3, [0, 193, 3, 5, 0, 0, 0, 1732, 1733, 0, 137, 1734]), (4, 6, .ifCond .eq 12, 3, [10]), (5, 9, .aload_n 0, 1, []), (6, 10, .getfield 164, 3, [12, 73, 2, 1408, 1]), (7, 13, .iload_n 1, 1, []), (8, 14, .baload, 1, [103]), (9, 15, .ifCond .ne 5, 3, [12]), (10, 18, .iconst (-1), 1, []), (11, 19, .ireturn, 1, [0]), (12, 20, .iconst 0, 1, []), (13, 21, .istore_n 2, 1, []), (14, 22, .iload_n 2, 1, []), (15, 23, .sipush 218, 3, []), (16, 26, .if_icmp .ge 27, 3, [31]), (17, 29, .aload_n 0, 1, []), (18, 30, .getfield 98, 3, [12, 42, 2, 1377, 1]), (19, 33, .iload_n 2, 1, []), (20, 34, .aload_n 0, 1, []), (21, 35, .getfield 161, 3, [12, 72, 2, 1407, 1]), (22, 38, .sipush 218, 3, []), (23, 41, .iload_n 1, 1, []), (24, 42, .imul, 1, []), (25, 43, .iload_n 2, 1, []), (26, 44, .iadd, 1, []), (27, 45, .iaload, 1, []), (28, 46, .iastore, 1, []), (29, 47, .iinc 2 1, 3, []), (30, 50, .goto (-28), 3, [14]), (31, 53, .aload_n 0, 1, []), (32, 54, .iconst 0, 1, []), (33, 55, .putfield 395, 3, [12, 51, 0, 1386, 0]), (34, 58, .aload_n 0, 1, []), (35, 59, .iconst 0, 1, []), (36, 60, .putfield 398, 3, [12, 52, 0, 1387, 0]), (37, 63, .aload_n 0, 1, []), (38, 64, .getfield 98, 3, [12, 42, 2, 1377, 1]), (39, 67, .sipush 216, 3, []), (40, 70, .iaload, 1, []), (41, 71, .ireturn, 1, [0])]
set_option maxRecDepth 20000 in
def kX12_about : List INS := [(0, 0, .iload_n 1, 1, []), (1, 1, .tableswitch 159 0 13 #[71, 76, 81, 86, 96, 105, 114, 119, 124, 129, 134, 139, 144, 154], 71, [54, 2, 5, 8, 11, 17, 22, 27, 30, 33, 36, 39, 42, 45, 51]), (2, 72, .aload_n 0, 1, []), (3, 73, .invokevirtual 373, 3, [1, 194, 0, 0, 0, 0, 12, 1728, 1730, 78, 137, 1731]), (4, 76, .ireturn, 1, [0]), (5, 77, .aload_n 0, 1, []), (6, 78, .invokevirtual 439, 3, [1, 196, 0, 0, 0, 0, 12, 1775, 1777, 85, 137, 1778]), (7, 81, .ireturn, 1, [0]), (8, 82, .aload_n 0, 1, []), (9, 83, .invokevirtual 380, 3, [1, 195, 0, 0, 0, 0, 12, 1747, 1749, 81, 137, 1750]), (10, 86, .ireturn, 1, [0]), (11, 87, .aload_n 0, 1, []), (12, 88, .getfield 30, 3, [12, 14, 2, 1349, 1]), (13, 91, .aload_n 0, 1, []), (14, 92, .getfield 283, 3, [12, 36, 0, 1371, 0]), (15, 95, .iaload, 1, []), (16, 96, .ireturn, 1, [0]), (17, 97, .aload_n 0, 1, []), (18, 98, .getfield 98, 3, [12, 42, 2, 1377, 1]), (19, 101, .sipush 216, 3, []), (20, 104, .iaload, 1, []), (21, 105, .ireturn, 1, [0]), (22, 106, .aload_n 0, 1, []), (23, 107, .getfield 98, 3, [12, 42, 2, 1377, 1]), (24, 110, .sipush 217, 3, []), (25, 113, .iaload, 1, []), (26, 114, .ireturn, 1, [0]), (27, 115, .aload_n 0, 1, []), (28, 116, .getfield 395, 3, [12, 51, 0, 1386, 0]), (29, 119, .ireturn, 1, [0]), (30, 120, .aload_n 0, 1, []), (31, 121, .getfield 398, 3, [12, 52, 0, 1387, 0]), (32, 124, .ireturn, 1, [0]), (33, 125, .aload_n 0, 1, []), (34, 126, .getfield 401, 3, [12, 61, 0, 1396, 0]), (35, 129, .ireturn, 1, [0]), (36, 130, .aload_n 0, 1, []), (37, 131, .getfield 404, 3, [12, 70, 0, 1405, 0]), (38, 134, .ireturn, 1, [0]), (39, 135, .aload_n 0, 1, []), (40, 136, .getfield 537, 3, [12, 71, 0, 1406, 0]), (41, 139, .ireturn, 1, [0]), (42, 140, .aload_n 0, 1, []), (43, 141, .getfield 280, 3, [12, 2, 0, 1337, 0]), (44, 144, .ireturn, 1, [0]), (45, 145, .aload_n 0, 1, []), (46, 146, .getfield 33, 3, [12, 15, 2, 1350, 1]), (47, 149, .aload_n 0, 1, []), (48, 150, .getfield 283, 3, [12, 36, 0, 1371, 0]), (49, 153, .iaload, 1, []), (50, 154, .ireturn, 1, [0]), (51, 155, .aload_n 0, 1, []), (52, 156, .getfield 407, 3, [12, 55, 0, 1390, 0]), (53, 159, .ireturn, 1, [0]), (54, 160, .iconst (-1), 1, []), (55, 161, .ireturn, 1, [0])]
set_option maxRecDepth 20000 in
def kX12_feed : List INS := [(0, 0, .aload_n 0, 1, []), (1, 1, .getfield 280, 3, [12, 2, 0, 1337, 0]), (2, 4, .bipush 20, 2, []), (3, 6, .iadd, 1, []), (4, 7, .sipush 1600, 3, []), (5, 10, .if_icmp .le 5, 3, [8]), (6, 13, .iconst (-1), 1, []), (7, 14, .ireturn, 1, [0]), (8, 15, .iconst 0, 1, []), (9, 16, .istore 6, 2, []), (10, 18, .iload 6, 2, []), (11, 20, .bipush 20, 2, []), (12, 22, .if_icmp .ge 83, 3, [54]), (13, 25, .iload 6, 2, []), (14, 27, .iconst 4, 1, []), (15, 28, .if_icmp .ge 7, 3, [18]), (16, 31, .iload_n 1, 1, []), (17, 32, .goto 39, 3, [34]), (18, 35, .iload 6, 2, []), (19, 37, .bipush 8, 2, []), (20, 39, .if_icmp .ge 7, 3, [23]), (21, 42, .iload_n 2, 1, []), (22, 43, .goto 28, 3, [34]), (23, 46, .iload 6, 2, []), (24, 48, .bipush 12, 2, []), (25, 50, .if_icmp .ge 7, 3, [28]), (26, 53, .iload_n 3, 1, []), (27, 54, .goto 17, 3, [34]), (28, 57, .iload 6, 2, []), (29, 59, .bipush 16, 2, []), (30, 61, .if_icmp .ge 8, 3, [33]), (31, 64, .iload 4, 2, []), (32, 66, .goto 5, 3, [34]), (33, 69, .iload 5, 2, []), (34, 71, .istore 7, 2, []), (35, 73, .aload_n 0, 1, []), (36, 74, .getfield 7, 3, [12, 0, 2, 1335, 1]), (37, 77, .aload_n 0, 1, []), (38, 78, .getfield 280, 3, [12, 2, 0, 1337, 0]), (39, 81, .iload 6, 2, []), (40, 83, .iadd, 1, []), (41, 84, .iload 7, 2, []), (42, 86, .bipush 24, 2, []), (43, 88, .bipush 8, 2, []), (44, 90, .iload 6, 2, []), (45, 92, .iconst 3, 1, []), (46, 93, .iand, 1, []), (47, 94, .imul, 1, []), (48, 95, .isub, 1, []), (49, 96, .ishr, 1, []), (50, 97, .i2b, 1, []), (51, 98, .bastore, 1, [102]), (52, 99, .iinc 6 1, 3, []), (53, 102, .goto (-84), 3, [10]), (54, 105, .aload_n 0, 1, []), (55, 106, .dup, 1, []), (56, 107, .getfield 280, 3, [12, 2, 0, 1337, 0]), (57, 110, .bipush 20, 2, []), (58, 112, .iadd, 1, []), (59, 113, .putfield 280, 3, [12, 2, 0, 1337, 0]), (60, 116, .aload_n 0, 1, []), (61, 117, .getfield 280, 3, [12, 2, 0, 1337, 0]), (62, 120, .ireturn, 1, [0])]
set_option maxRecDepth 20000 in
def kX12_end : List INS := [(0, 0, .iload_n 1, 1, []), (1, 1, .ifCond .lt 11, 3, [6]), (2, 4, .iload_n 1, 1, []), (3, 5, .aload_n 0, 1, []), (4, 6, .getfield 280, 3, [12, 2, 0, 1337, 0]), (5, 9, .if_icmp .le 5, 3, [8]), (6, 12, .iconst (-1), 1, []), (7, 13, .ireturn, 1, [0]), (8, 14, .aload_n 0, 1, []), (9, 15, .iload_n 1, 1, []), (10, 16, .putfield 280, 3, [12, 2, 0, 1337, 0]), (11, 19, .iload_n 1, 1, []), (12, 20, .ireturn, 1, [0])]
set_option maxRecDepth 20000 in
def kL_law : List INS := [(0, 0, .new 7, 3, [11, 15, 141, 142, 121]), (1, 3, .dup, 1, []), (2, 4, .invokespecial 9, 3, [2, 104, 0, 9, 363, 24617, 11, 143, 144, 0, 121, 145]), (3, 7, .astore_n 1, 1, []), (4, 8, .new 10, 3, [12, 74, 1317, 1318, 137]), (5, 11, .dup, 1, []), (6, 12, .invokespecial 12, 3, [2, 152, 0, 9, 50, 17024, 12, 1319, 1320, 0, 137, 1321]), (7, 15, .astore_n 2, 1, []), (8, 16, .iconst 0, 1, []), (9, 17, .istore_n 3, 1, []), (10, 18, .iload_n 3, 1, []), (11, 19, .aload_n 0, 1, []), (12, 20, .arraylength, 1, []), (13, 21, .bipush 6, 2, []), (14, 23, .isub, 1, []), (15, 24, .if_icmp .gt 1353, 3, [957]), (16, 27, .aload_n 0, 1, []), (17, 28, .iload_n 3, 1, []), (18, 29, .iaload, 1, []), (19, 30, .bipush 63, 2, []), (20, 32, .iand, 1, []), (21, 33, .tableswitch 1338 0 38 #[171, 234, 257, 270, 293, 326, 359, 392, 415, 448, 471, 484, 497, 510, 543, 576, 589, 612, 655, 698, 741, 794, 827, 890, 933, 976, 1009, 1022, 1055, 1068, 1081, 1104, 1147, 1170, 1193, 1226, 1269, 1292, 1315], 171, [955, 22, 79, 96, 103, 120, 147, 174, 201, 218, 245, 262, 269, 276, 283, 310, 337, 344, 361, 398, 435, 472, 519, 546, 603, 640, 677, 704, 711, 738, 745, 752, 769, 806, 823, 840, 867, 904, 921, 938]), (22, 204, .aload_n 1, 1, []), (23, 205, .aload_n 0, 1, []), (24, 206, .iload_n 3, 1, []), (25, 207, .iconst 1, 1, []), (26, 208, .iadd, 1, []), (27, 209, .iaload, 1, []), (28, 210, .aload_n 0, 1, []), (29, 211, .iload_n 3, 1, []), (30, 212, .iconst 2, 1, []), (31, 213, .iadd, 1, []), (32, 214, .iaload, 1, []), (33, 215, .aload_n 0, 1, []), (34, 216, .iload_n 3, 1, []), (35, 217, .iconst 3, 1, []), (36, 218, .iadd, 1, []), (37, 219, .iaload, 1, []), (38, 220, .aload_n 0, 1, []), (39, 221, .iload_n 3, 1, []), (40, 222, .iconst 4, 1, []), (41, 223, .iadd, 1, []), (42, 224, .iaload, 1, []), (43, 225, .aload_n 0, 1, []), (44, 226, .iload_n 3, 1, []), (45, 227, .iconst 5, 1, []), (46, 228, .iadd, 1, []), (47, 229, .iaload, 1, []), (48, 230, .invokevirtual 13, 3, [1, 105, 5, 0, 0, 0, 11, 675, 676, 677, 121, 678]), (49, 233, .aload_n 2, 1, []), (50, 234, .aload_n 0, 1, []), (51, 235, .iload_n 3, 1, []), (52, 236, .iconst 1, 1, []), (53, 237, .iadd, 1, []), (54, 238, .iaload, 1, []), (55, 239, .aload_n 0, 1, []), (56, 240, .iload_n 3, 1, []), (57, 241, .iconst 2, 1, []), (58, 242, .iadd, 1, []), (59, 243, .iaload, 1, []), (60, 244, .aload_n 0, 1, []), (61, 245, .iload_n 3, 1, []), (62, 246, .iconst 3, 1, []), (63, 247, .iadd, 1, []), (64, 248, .iaload, 1, []), (65, 249, .aload_n 0, 1, []), (66, 250, .iload_n 3, 1, []), (67, 251, .iconst 4, 1, []), (68, 252, .iadd, 1, []), (69, 253, .iaload, 1, []), (70, 254, .aload_n 0, 1, []), (71, 255, .iload_n 3, 1, []), (72, 256, .iconst 5, 1, []), (73, 257, .iadd, 1, []), (74, 258, .iaload, 1, []), (75, 259, .invokevirtual 17, 3, [1, 275, 5, 0, 0, 0, 12, 2048, 2049, 2050, 137, 2051]), (76, 262, .if_icmp .eq 1109, 3, [955]), (77, 265, .iconst 0, 1, []), (78, 266, .ireturn, 1, [5]), (79, 267, .aload_n 1, 1, []), (80, 268, .aload_n 0, 1, []), (81, 269, .iload_n 3, 1, []), (82, 270, .iconst 1, 1, []), (83, 271, .iadd, 1, []), (84, 272, .iaload, 1, []), (85, 273, .invokevirtual 18, 3, [1, 106, 1, 0, 0, 0, 11, 683, 684, 685, 121, 686]), (86, 276, .aload_n 2, 1, []), (87, 277, .aload_n 0, 1, []), (88, 278, .iload_n 3, 1, []), (89, 279, .iconst 1, 1, []), (90, 280, .iadd, 1, []), (91, 281, .iaload, 1, []), (92, 282, .invokevirtual 22, 3, [1, 276, 1, 0, 0, 0, 12, 2052, 2053, 2054, 137, 2055]), (93, 285, .if_icmp .eq 1086, 3, [955]), (94, 288, .iconst 0, 1, []), (95, 289, .ireturn, 1, [5]), (96, 290, .aload_n 1, 1, []), (97, 291, .invokevirtual 23, 3, [1, 107, 0, 0, 0, 0, 11, 687, 688, 689, 121, 690]), (98, 294, .aload_n 2, 1, []), (99, 295, .invokevirtual 27, 3, [1, 168, 0, 0, 0, 0, 12, 1558, 1559, 1560, 137, 1561]), (100, 298, .if_icmp .eq 1073, 3, [955]), (101, 301, .iconst 0, 1, []), (102, 302, .ireturn, 1, [5]), (103, 303, .aload_n 1, 1, []), (104, 304, .aload_n 0, 1, []), (105, 305, .iload_n 3, 1, []), (106, 306, .iconst 1, 1, []), (107, 307, .iadd, 1, []), (108, 308, .iaload, 1, []), (109, 309, .invokevirtual 28, 3, [1, 108, 1, 0, 0, 0, 11, 898, 899, 900, 121, 901]), (110, 312, .aload_n 2, 1, []), (111, 313, .aload_n 0, 1, []), (112, 314, .iload_n 3, 1, []), (113, 315, .iconst 1, 1, []), (114, 316, .iadd, 1, []), (115, 317, .iaload, 1, []), (116, 318, .invokevirtual 31, 3, [1, 192, 1, 0, 0, 0, 12, 1716, 1717, 1718, 137, 1719]), (117, 321, .if_icmp .eq 1050, 3, [955]), (118, 324, .iconst 0, 1, []), (119, 325, .ireturn, 1, [5]), (120, 326, .aload_n 1, 1, []), (121, 327, .aload_n 0, 1, []), (122, 328, .iload_n 3, 1, []), (123, 329, .iconst 1, 1, []), (124, 330, .iadd, 1, []), (125, 331, .iaload, 1, []), (126, 332, .aload_n 0, 1, []), (127, 333, .iload_n 3, 1, []), (128, 334, .iconst 2, 1, []), (129, 335, .iadd, 1, []), (130, 336, .iaload, 1, []), (131, 337, .invokevirtual 32, 3, [1, 109, 2, 0, 0, 0, 11, 902, 903, 904, 121, 905]), (132, 340, .aload_n 2, 1, []), (133, 341, .aload_n 0, 1, []), (134, 342, .iload_n 3, 1, []), (135, 343, .iconst 1, 1, []), (136, 344, .iadd, 1, []), (137, 345, .iaload, 1, []), (138, 346, .aload_n 0, 1, []), (139, 347, .iload_n 3, 1, []), (140, 348, .iconst 2, 1, []), (141, 349, .iadd, 1, []), (142, 350, .iaload, 1, []), (143, 351, .invokevirtual 36, 3, [1, 213, 2, 0, 0, 0, 12, 1720, 1721, 1722, 137, 1723]), (144, 354, .if_icmp .eq 1017, 3, [955]), (145, 357, .iconst 0, 1, []), (146, 358, .ireturn, 1, [5]), (147, 359, .aload_n 1, 1, []), (148, 360, .aload_n 0, 1, []), (149, 361, .iload_n 3, 1, []), (150, 362, .iconst 1, 1, []), (151, 363, .iadd, 1, []), (152, 364, .iaload, 1, []), (153, 365, .aload_n 0, 1, []), (154, 366, .iload_n 3, 1, []), (155, 367, .iconst 2, 1, []), (156, 368, .iadd, 1, []), (157, 369, .iaload, 1, []), (158, 370, .invokevirtual 37, 3, [1, 110, 2, 0, 0, 0, 11, 917, 918, 919, 121, 920]), (159, 373, .aload_n 2, 1, []), (160, 374, .aload_n 0, 1, []), (161, 375, .iload_n 3, 1, []), (162, 376, .iconst 1, 1, []), (163, 377, .iadd, 1, []), (164, 378, .iaload, 1, []), (165, 379, .aload_n 0, 1, []), (166, 380, .iload_n 3, 1, []), (167, 381, .iconst 2, 1, []), (168, 382, .iadd, 1, []), (169, 383, .iaload, 1, []), (170, 384, .invokevirtual 40, 3, [1, 214, 2, 0, 0, 0, 12, 1739, 1740, 1741, 137, 1742]), (171, 387, .if_icmp .eq 984, 3, [955]), (172, 390, .iconst 0, 1, []), (173, 391, .ireturn, 1, [5]), (174, 392, .aload_n 1, 1, []), (175, 393, .aload_n 0, 1, []), (176, 394, .iload_n 3, 1, []), (177, 395, .iconst 1, 1, []), (178, 396, .iadd, 1, []), (179, 397, .iaload, 1, []), (180, 398, .aload_n 0, 1, []), (181, 399, .iload_n 3, 1, []), (182, 400, .iconst 2, 1, []), (183, 401, .iadd, 1, []), (184, 402, .iaload, 1, []), (185, 403, .invokevirtual 41, 3, [1, 111, 2, 0, 0, 0, 11, 933, 934, 935, 121, 936]), (186, 406, .aload_n 2, 1, []), (187, 407, .aload_n 0, 1, []), (188, 408, .iload_n 3, 1, []), (189, 409, .iconst 1, 1, []), (190, 410, .iadd, 1, []), (191, 411, .iaload, 1, []), (192, 412, .aload_n 0, 1, []), (193, 413, .iload_n 3, 1, []), (194, 414, .iconst 2, 1, []), (195, 415, .iadd, 1, []), (196, 416, .iaload, 1, []), (197, 417, .invokevirtual 44, 3, [1, 215, 2, 0, 0, 0, 12, 1755, 1756, 1757, 137, 1758]), (198, 420, .if_icmp .eq 951, 3, [955]), (199, 423, .iconst 0, 1, []), (200, 424, .ireturn, 1, [5]), (201, 425, .aload_n 1, 1, []), (202, 426, .aload_n 0, 1, []), (203, 427, .iload_n 3, 1, []), (204, 428, .iconst 1, 1, []), (205, 429, .iadd, 1, []), (206, 430, .iaload, 1, []), (207, 431, .invokevirtual 45, 3, [1, 112, 1, 0, 0, 0, 11, 941, 942, 943, 121, 944]), (208, 434, .aload_n 2, 1, []), (209, 435, .aload_n 0, 1, []), (210, 436, .iload_n 3, 1, []), (211, 437, .iconst 1, 1, []), (212, 438, .iadd, 1, []), (213, 439, .iaload, 1, []), (214, 440, .invokevirtual 48, 3, [1, 216, 1, 0, 0, 0, 12, 1759, 1760, 1761, 137, 1762]), (215, 443, .if_icmp .eq 928, 3, [955]), (216, 446, .iconst 0, 1, []), (217, 447, .ireturn, 1, [5]), (218, 448, .aload_n 1, 1, []), (219, 449, .aload_n 0, 1, []), (220, 450, .iload_n 3, 1, []), (221, 451, .iconst 1, 1, []), (222, 452, .iadd, 1, []), (223, 453, .iaload, 1, []), (224, 454, .aload_n 0, 1, []), (225, 455, .iload_n 3, 1, []), (226, 456, .iconst 2, 1, []), (227, 457, .iadd, 1, []), (228, 458, .iaload, 1, []), (229, 459, .invokevirtual 49, 3, [1, 113, 2, 0, 0, 0, 11, 949, 950, 951, 121, 952]), (230, 462, .aload_n 2, 1, []), (231, 463, .aload_n 0, 1, []), (232, 464, .iload_n 3, 1, []), (233, 465, .iconst 1, 1, []), (234, 466, .iadd, 1, []), (235, 467, .iaload, 1, []), (236, 468, .aload_n 0, 1, []), (237, 469, .iload_n 3, 1, []), (238, 470, .iconst 2, 1, []), (239, 471, .iadd, 1, []), (240, 472, .iaload, 1, []), (241, 473, .invokevirtual 52, 3, [1, 219, 2, 0, 0, 0, 12, 1771, 1772, 1773, 137, 1774]), (242, 476, .if_icmp .eq 895, 3, [955]), (243, 479, .iconst 0, 1, []), (244, 480, .ireturn, 1, [5]), (245, 481, .aload_n 1, 1, []), (246, 482, .aload_n 0, 1, []), (247, 483, .iload_n 3, 1, []), (248, 484, .iconst 1, 1, []), (249, 485, .iadd, 1, []), (250, 486, .iaload, 1, []), (251, 487, .invokevirtual 53, 3, [1, 114, 1, 0, 0, 0, 11, 974, 975, 976, 121, 977]), (252, 490, .aload_n 2, 1, []), (253, 491, .aload_n 0, 1, []), (254, 492, .iload_n 3, 1, []), (255, 493, .iconst 1, 1, []), (256, 494, .iadd, 1, []), (257, 495, .iaload, 1, []), (258, 496, .invokevirtual 56, 3, [1, 220, 1, 0, 0, 0, 12, 1784, 1785, 1786, 137, 1787]), (259, 499, .if_icmp .eq 872, 3, [955]), (260, 502, .iconst 0, 1, []), (261, 503, .ireturn, 1, [5]), (262, 504, .aload_n 1, 1, []), (263, 505, .invokevirtual 57, 3, [1, 115, 0, 0, 0, 0, 11, 996, 997, 998, 121, 999]), (264, 508, .aload_n 2, 1, []), (265, 509, .invokevirtual 60, 3, [1, 221, 0, 0, 0, 0, 12, 1804, 1805, 1806, 137, 1807]), (266, 512, .if_icmp .eq 859, 3, [955]), (267, 515, .iconst 0, 1, []), (268, 516, .ireturn, 1, [5]), (269, 517, .aload_n 1, 1, []), (270, 518, .invokevirtual 61, 3, [1, 116, 0, 5, 0, 0, 11, 1004, 1005, 1006, 121, 1007]), (271, 521, .aload_n 2, 1, []), (272, 522, .invokevirtual 65, 3, [1, 222, 0, 5, 0, 0, 12, 1808, 1809, 1810, 137, 1811]), (273, 525, .if_icmp .eq 846, 3, [955]), (274, 528, .iconst 0, 1, []), (275, 529, .ireturn, 1, [5]), (276, 530, .aload_n 1, 1, []), (277, 531, .invokevirtual 66, 3, [1, 117, 0, 5, 0, 0, 11, 1012, 1013, 1014, 121, 1015]), (278, 534, .aload_n 2, 1, []), (279, 535, .invokevirtual 69, 3, [1, 223, 0, 5, 0, 0, 12, 1816, 1817, 1818, 137, 1819]), (280, 538, .if_icmp .eq 833, 3, [955]), (281, 541, .iconst 0, 1, []), (282, 542, .ireturn, 1, [5]), (283, 543, .aload_n 1, 1, []), (284, 544, .aload_n 0, 1, []), (285, 545, .iload_n 3, 1, []), (286, 546, .iconst 1, 1, []), (287, 547, .iadd, 1, []), (288, 548, .iaload, 1, []), (289, 549, .aload_n 0, 1, []), (290, 550, .iload_n 3, 1, []), (291, 551, .iconst 2, 1, []), (292, 552, .iadd, 1, []), (293, 553, .iaload, 1, []), (294, 554, .invokevirtual 70, 3, [1, 118, 2, 0, 0, 0, 11, 1020, 1021, 1022, 121, 1023]), (295, 557, .aload_n 2, 1, []), (296, 558, .aload_n 0, 1, []), (297, 559, .iload_n 3, 1, []), (298, 560, .iconst 1, 1, []), (299, 561, .iadd, 1, []), (300, 562, .iaload, 1, []), (301, 563, .aload_n 0, 1, []), (302, 564, .iload_n 3, 1, []), (303, 565, .iconst 2, 1, []), (304, 566, .iadd, 1, []), (305, 567, .iaload, 1, []), (306, 568, .invokevirtual 73, 3, [1, 225, 2, 0, 0, 0, 12, 1824, 1825, 1826, 137, 1827]), (307, 571, .if_icmp .eq 800, 3, [955]), (308, 574, .iconst 0, 1, []), (309, 575, .ireturn, 1, [5]), (310, 576, .aload_n 1, 1, []), (311, 577, .aload_n 0, 1, []), (312, 578, .iload_n 3, 1, []), (313, 579, .iconst 1, 1, []), (314, 580, .iadd, 1, []), (315, 581, .iaload, 1, []), (316, 582, .aload_n 0, 1, []), (317, 583, .iload_n 3, 1, []), (318, 584, .iconst 2, 1, []), (319, 585, .iadd, 1, []), (320, 586, .iaload, 1, []), (321, 587, .invokevirtual 74, 3, [1, 119, 2, 0, 0, 0, 11, 1024, 1025, 1026, 121, 1027]), (322, 590, .aload_n 2, 1, []), (323, 591, .aload_n 0, 1, []), (324, 592, .iload_n 3, 1, []), (325, 593, .iconst 1, 1, []), (326, 594, .iadd, 1, []), (327, 595, .iaload, 1, []), (328, 596, .aload_n 0, 1, []), (329, 597, .iload_n 3, 1, []), (330, 598, .iconst 2, 1, []), (331, 599, .iadd, 1, []), (332, 600, .iaload, 1, []), (333, 601, .invokevirtual 77, 3, [1, 229, 2, 0, 0, 0, 12, 1828, 1829, 1830, 137, 1831]), (334, 604, .if_icmp .eq 767, 3, [955]), (335, 607, .iconst 0, 1, []), (336, 608, .ireturn, 1, [5]), (337, 609, .aload_n 1, 1, []), (338, 610, .invokevirtual 78, 3, [1, 120, 0, 0, 0, 0, 11, 1051, 1052, 1053, 121, 1054]), (339, 613, .aload_n 2, 1, []), (340, 614, .invokevirtual 81, 3, [1, 231, 0, 0, 0, 0, 12, 1855, 1856, 1857, 137, 1858]), (341, 617, .if_icmp .eq 754, 3, [955]), (342, 620, .iconst 0, 1, []), (343, 621, .ireturn, 1, [5]), (344, 622, .aload_n 1, 1, []), (345, 623, .aload_n 0, 1, []), (346, 624, .iload_n 3, 1, []), (347, 625, .iconst 1, 1, []), (348, 626, .iadd, 1, []), (349, 627, .iaload, 1, []), (350, 628, .invokevirtual 82, 3, [1, 121, 1, 0, 0, 0, 11, 1059, 1060, 1061, 121, 1062]), (351, 631, .aload_n 2, 1, []), (352, 632, .aload_n 0, 1, []), (353, 633, .iload_n 3, 1, []), (354, 634, .iconst 1, 1, []), (355, 635, .iadd, 1, []), (356, 636, .iaload, 1, []), (357, 637, .invokevirtual 85, 3, [1, 237, 1, 0, 0, 0, 12, 1863, 1864, 1865, 137, 1866]), (358, 640, .if_icmp .eq 731, 3, [955]), (359, 643, .iconst 0, 1, []), (360, 644, .ireturn, 1, [5]), (361, 645, .aload_n 1, 1, []), (362, 646, .aload_n 0, 1, []), (363, 647, .iload_n 3, 1, []), (364, 648, .iconst 1, 1, []), (365, 649, .iadd, 1, []), (366, 650, .iaload, 1, []), (367, 651, .aload_n 0, 1, []), (368, 652, .iload_n 3, 1, []), (369, 653, .iconst 2, 1, []), (370, 654, .iadd, 1, []), (371, 655, .iaload, 1, []), (372, 656, .aload_n 0, 1, []), (373, 657, .iload_n 3, 1, []), (374, 658, .iconst 3, 1, []), (375, 659, .iadd, 1, []), (376, 660, .iaload, 1, []), (377, 661, .invokevirtual 86, 3, [1, 122, 3, 0, 0, 0, 11, 1074, 1075, 1076, 121, 1077]), (378, 664, .aload_n 2, 1, []), (379, 665, .aload_n 0, 1, []), (380, 666, .iload_n 3, 1, []), (381, 667, .iconst 1, 1, []), (382, 668, .iadd, 1, []), (383, 669, .iaload, 1, []), (384, 670, .aload_n 0, 1, []), (385, 671, .iload_n 3, 1, []), (386, 672, .iconst 2, 1, []), (387, 673, .iadd, 1, []), (388, 674, .iaload, 1, []), (389, 675, .aload_n 0, 1, []), (390, 676, .iload_n 3, 1, []), (391, 677, .iconst 3, 1, []), (392, 678, .iadd, 1, []), (393, 679, .iaload, 1, []), (394, 680, .invokevirtual 90, 3, [1, 240, 3, 0, 0, 0, 12, 1878, 1879, 1880, 137, 1881]), (395, 683, .if_icmp .eq 688, 3, [955]), (396, 686, .iconst 0, 1, []), (397, 687, .ireturn, 1, [5]), (398, 688, .aload_n 1, 1, []), (399, 689, .aload_n 0, 1, []), (400, 690, .iload_n 3, 1, []), (401, 691, .iconst 1, 1, []), (402, 692, .iadd, 1, []), (403, 693, .iaload, 1, []), (404, 694, .aload_n 0, 1, []), (405, 695, .iload_n 3, 1, []), (406, 696, .iconst 2, 1, []), (407, 697, .iadd, 1, []), (408, 698, .iaload, 1, []), (409, 699, .aload_n 0, 1, []), (410, 700, .iload_n 3, 1, []), (411, 701, .iconst 3, 1, []), (412, 702, .iadd, 1, []), (413, 703, .iaload, 1, []), (414, 704, .invokevirtual 91, 3, [1, 123, 3, 0, 0, 0, 11, 1113, 1114, 1115, 121, 1116]), (415, 707, .aload_n 2, 1, []), (416, 708, .aload_n 0, 1, []), (417, 709, .iload_n 3, 1, []), (418, 710, .iconst 1, 1, []), (419, 711, .iadd, 1, []), (420, 712, .iaload, 1, []), (421, 713, .aload_n 0, 1, []), (422, 714, .iload_n 3, 1, []), (423, 715, .iconst 2, 1, []), (424, 716, .iadd, 1, []), (425, 717, .iaload, 1, []), (426, 718, .aload_n 0, 1, []), (427, 719, .iload_n 3, 1, []), (428, 720, .iconst 3, 1, []), (429, 721, .iadd, 1, []), (430, 722, .iaload, 1, []), (431, 723, .invokevirtual 94, 3, [1, 241, 3, 0, 0, 0, 12, 1910, 1911, 1912, 137, 1913]), (432, 726, .if_icmp .eq 645, 3, [955]), (433, 729, .iconst 0, 1, []), (434, 730, .ireturn, 1, [5]), (435, 731, .aload_n 1, 1, []), (436, 732, .aload_n 0, 1, []), (437, 733, .iload_n 3, 1, []), (438, 734, .iconst 1, 1, []), (439, 735, .iadd, 1, []), (440, 736, .iaload, 1, []), (441, 737, .aload_n 0, 1, []), (442, 738, .iload_n 3, 1, []), (443, 739, .iconst 2, 1, []), (444, 740, .iadd, 1, []), (445, 741, .iaload, 1, []), (446, 742, .aload_n 0, 1, []), (447, 743, .iload_n 3, 1, []), (448, 744, .iconst 3, 1, []), (449, 745, .iadd, 1, []), (450, 746, .iaload, 1, []), (451, 747, .invokevirtual 95, 3, [1, 124, 3, 0, 0, 0, 11, 1125, 1126, 1127, 121, 1128]), (452, 750, .aload_n 2, 1, []), (453, 751, .aload_n 0, 1, []), (454, 752, .iload_n 3, 1, []), (455, 753, .iconst 1, 1, []), (456, 754, .iadd, 1, []), (457, 755, .iaload, 1, []), (458, 756, .aload_n 0, 1, []), (459, 757, .iload_n 3, 1, []), (460, 758, .iconst 2, 1, []), (461, 759, .iadd, 1, []), (462, 760, .iaload, 1, []), (463, 761, .aload_n 0, 1, []), (464, 762, .iload_n 3, 1, []), (465, 763, .iconst 3, 1, []), (466, 764, .iadd, 1, []), (467, 765, .iaload, 1, []), (468, 766, .invokevirtual 98, 3, [1, 246, 3, 0, 0, 0, 12, 1914, 1915, 1916, 137, 1917]), (469, 769, .if_icmp .eq 602, 3, [955]), (470, 772, .iconst 0, 1, []), (471, 773, .ireturn, 1, [5]), (472, 774, .aload_n 1, 1, []), (473, 775, .aload_n 0, 1, []), (474, 776, .iload_n 3, 1, []), (475, 777, .iconst 1, 1, []), (476, 778, .iadd, 1, []), (477, 779, .iaload, 1, []), (478, 780, .aload_n 0, 1, []), (479, 781, .iload_n 3, 1, []), (480, 782, .iconst 2, 1, []), (481, 783, .iadd, 1, []), (482, 784, .iaload, 1, []), (483, 785, .aload_n 0, 1, []), (484, 786, .iload_n 3, 1, []), (485, 787, .iconst 3, 1, []), (486, 788, .iadd, 1, []), (487, 789, .iaload, 1, []), (488, 790, .aload_n 0, 1, []), (489, 791, .iload_n 3, 1, []), (490, 792, .iconst 4, 1, []), (491, 793, .iadd, 1, []), (492, 794, .iaload, 1, []), (493, 795, .invokevirtual 99, 3, [1, 125, 4, 0, 0, 0, 11, 1137, 1138, 1139, 121, 1140]), (494, 798, .aload_n 2, 1, []), (495, 799, .aload_n 0, 1, []), (496, 800, .iload_n 3, 1, []), (497, 801, .iconst 1, 1, []), (498, 802, .iadd, 1, []), (499, 803, .iaload, 1, []), (500, 804, .aload_n 0, 1, []), (501, 805, .iload_n 3, 1, []), (502, 806, .iconst 2, 1, []), (503, 807, .iadd, 1, []), (504, 808, .iaload, 1, []), (505, 809, .aload_n 0, 1, []), (506, 810, .iload_n 3, 1, []), (507, 811, .iconst 3, 1, []), (508, 812, .iadd, 1, []), (509, 813, .iaload, 1, []), (510, 814, .aload_n 0, 1, []), (511, 815, .iload_n 3, 1, []), (512, 816, .iconst 4, 1, []), (513, 817, .iadd, 1, []), (514, 818, .iaload, 1, []), (515, 819, .invokevirtual 103, 3, [1, 248, 4, 0, 0, 0, 12, 1934, 1935, 1936, 137, 1937]), (516, 822, .if_icmp .eq 549, 3, [955]), (517, 825, .iconst 0, 1, []), (518, 826, .ireturn, 1, [5]), (519, 827, .aload_n 1, 1, []), (520, 828, .aload_n 0, 1, []), (521, 829, .iload_n 3, 1, []), (522, 830, .iconst 1, 1, []), (523, 831, .iadd, 1, []), (524, 832, .iaload, 1, []), (525, 833, .aload_n 0, 1, []), (526, 834, .iload_n 3, 1, []), (527, 835, .iconst 2, 1, []), (528, 836, .iadd, 1, []), (529, 837, .iaload, 1, []), (530, 838, .invokevirtual 104, 3, [1, 126, 2, 0, 0, 0, 11, 1160, 1161, 1162, 121, 1163]), (531, 841, .aload_n 2, 1, []), (532, 842, .aload_n 0, 1, []), (533, 843, .iload_n 3, 1, []), (534, 844, .iconst 1, 1, []), (535, 845, .iadd, 1, []), (536, 846, .iaload, 1, []), (537, 847, .aload_n 0, 1, []), (538, 848, .iload_n 3, 1, []), (539, 849, .iconst 2, 1, []), (540, 850, .iadd, 1, []), (541, 851, .iaload, 1, []), (542, 852, .invokevirtual 107, 3, [1, 249, 2, 0, 0, 0, 12, 1942, 1943, 1944, 137, 1945]), (543, 855, .if_icmp .eq 516, 3, [955]), (544, 858, .iconst 0, 1, []), (545, 859, .ireturn, 1, [5]), (546, 860, .aload_n 1, 1, []), (547, 861, .aload_n 0, 1, []), (548, 862, .iload_n 3, 1, []), (549, 863, .iconst 1, 1, []), (550, 864, .iadd, 1, []), (551, 865, .iaload, 1, []), (552, 866, .aload_n 0, 1, []), (553, 867, .iload_n 3, 1, []), (554, 868, .iconst 2, 1, []), (555, 869, .iadd, 1, []), (556, 870, .iaload, 1, []), (557, 871, .aload_n 0, 1, []), (558, 872, .iload_n 3, 1, []), (559, 873, .iconst 3, 1, []), (560, 874, .iadd, 1, []), (561, 875, .iaload, 1, []), (562, 876, .aload_n 0, 1, []), (563, 877, .iload_n 3, 1, []), (564, 878, .iconst 4, 1, []), (565, 879, .iadd, 1, []), (566, 880, .iaload, 1, []), (567, 881, .aload_n 0, 1, []), (568, 882, .iload_n 3, 1, []), (569, 883, .iconst 5, 1, []), (570, 884, .iadd, 1, []), (571, 885, .iaload, 1, []), (572, 886, .invokevirtual 108, 3, [1, 127, 5, 0, 0, 0, 11, 1168, 1169, 1170, 121, 1171]), (573, 889, .aload_n 2, 1, []), (574, 890, .aload_n 0, 1, []), (575, 891, .iload_n 3, 1, []), (576, 892, .iconst 1, 1, []), (577, 893, .iadd, 1, []), (578, 894, .iaload, 1, []), (579, 895, .aload_n 0, 1, []), (580, 896, .iload_n 3, 1, []), (581, 897, .iconst 2, 1, []), (582, 898, .iadd, 1, []), (583, 899, .iaload, 1, []), (584, 900, .aload_n 0, 1, []), (585, 901, .iload_n 3, 1, []), (586, 902, .iconst 3, 1, []), (587, 903, .iadd, 1, []), (588, 904, .iaload, 1, []), (589, 905, .aload_n 0, 1, []), (590, 906, .iload_n 3, 1, []), (591, 907, .iconst 4, 1, []), (592, 908, .iadd, 1, []), (593, 909, .iaload, 1, []), (594, 910, .aload_n 0, 1, []), (595, 911, .iload_n 3, 1, []), (596, 912, .iconst 5, 1, []), (597, 913, .iadd, 1, []), (598, 914, .iaload, 1, []), (599, 915, .invokevirtual 111, 3, [1, 250, 5, 0, 0, 0, 12, 1946, 1947, 1948, 137, 1949]), (600, 918, .if_icmp .eq 453, 3, [955]), (601, 921, .iconst 0, 1, []), (602, 922, .ireturn, 1, [5]), (603, 923, .aload_n 1, 1, []), (604, 924, .aload_n 0, 1, []), (605, 925, .iload_n 3, 1, []), (606, 926, .iconst 1, 1, []), (607, 927, .iadd, 1, []), (608, 928, .iaload, 1, []), (609, 929, .aload_n 0, 1, []), (610, 930, .iload_n 3, 1, []), (611, 931, .iconst 2, 1, []), (612, 932, .iadd, 1, []), (613, 933, .iaload, 1, []), (614, 934, .aload_n 0, 1, []), (615, 935, .iload_n 3, 1, []), (616, 936, .iconst 3, 1, []), (617, 937, .iadd, 1, []), (618, 938, .iaload, 1, []), (619, 939, .invokevirtual 112, 3, [1, 128, 3, 0, 0, 0, 11, 1176, 1177, 1178, 121, 1179]), (620, 942, .aload_n 2, 1, []), (621, 943, .aload_n 0, 1, []), (622, 944, .iload_n 3, 1, []), (623, 945, .iconst 1, 1, []), (624, 946, .iadd, 1, []), (625, 947, .iaload, 1, []), (626, 948, .aload_n 0, 1, []), (627, 949, .iload_n 3, 1, []), (628, 950, .iconst 2, 1, []), (629, 951, .iadd, 1, []), (630, 952, .iaload, 1, []), (631, 953, .aload_n 0, 1, []), (632, 954, .iload_n 3, 1, []), (633, 955, .iconst 3, 1, []), (634, 956, .iadd, 1, []), (635, 957, .iaload, 1, []), (636, 958, .invokevirtual 115, 3, [1, 252, 3, 0, 0, 0, 12, 1950, 1951, 1952, 137, 1953]), (637, 961, .if_icmp .eq 410, 3, [955]), (638, 964, .iconst 0, 1, []), (639, 965, .ireturn, 1, [5]), (640, 966, .aload_n 1, 1, []), (641, 967, .aload_n 0, 1, []), (642, 968, .iload_n 3, 1, []), (643, 969, .iconst 1, 1, []), (644, 970, .iadd, 1, []), (645, 971, .iaload, 1, []), (646, 972, .aload_n 0, 1, []), (647, 973, .iload_n 3, 1, []), (648, 974, .iconst 2, 1, []), (649, 975, .iadd, 1, []), (650, 976, .iaload, 1, []), (651, 977, .aload_n 0, 1, []), (652, 978, .iload_n 3, 1, []), (653, 979, .iconst 3, 1, []), (654, 980, .iadd, 1, []), (655, 981, .iaload, 1, []), (656, 982, .invokevirtual 116, 3, [1, 129, 3, 0, 0, 0, 11, 1190, 1191, 1192, 121, 1193]), (657, 985, .aload_n 2, 1, []), (658, 986, .aload_n 0, 1, []), (659, 987, .iload_n 3, 1, []), (660, 988, .iconst 1, 1, []), (661, 989, .iadd, 1, []), (662, 990, .iaload, 1, []), (663, 991, .aload_n 0, 1, []), (664, 992, .iload_n 3, 1, []), (665, 993, .iconst 2, 1, []), (666, 994, .iadd, 1, []), (667, 995, .iaload, 1, []), (668, 996, .aload_n 0, 1, []), (669, 997, .iload_n 3, 1, []), (670, 998, .iconst 3, 1, []), (671, 999, .iadd, 1, []), (672, 1000, .iaload, 1, []), (673, 1001, .invokevirtual 119, 3, [1, 253, 3, 0, 0, 0, 12, 1960, 1961, 1962, 137, 1963]), (674, 1004, .if_icmp .eq 367, 3, [955]), (675, 1007, .iconst 0, 1, []), (676, 1008, .ireturn, 1, [5]), (677, 1009, .aload_n 1, 1, []), (678, 1010, .aload_n 0, 1, []), (679, 1011, .iload_n 3, 1, []), (680, 1012, .iconst 1, 1, []), (681, 1013, .iadd, 1, []), (682, 1014, .iaload, 1, []), (683, 1015, .aload_n 0, 1, []), (684, 1016, .iload_n 3, 1, []), (685, 1017, .iconst 2, 1, []), (686, 1018, .iadd, 1, []), (687, 1019, .iaload, 1, []), (688, 1020, .invokevirtual 120, 3, [1, 130, 2, 0, 0, 0, 11, 1198, 1199, 1200, 121, 1201]), (689, 1023, .aload_n 2, 1, []), (690, 1024, .aload_n 0, 1, []), (691, 1025, .iload_n 3, 1, []), (692, 1026, .iconst 1, 1, []), (693, 1027, .iadd, 1, []), (694, 1028, .iaload, 1, []), (695, 1029, .aload_n 0, 1, []), (696, 1030, .iload_n 3, 1, []), (697, 1031, .iconst 2, 1, []), (698, 1032, .iadd, 1, []), (699, 1033, .iaload, 1, []), (700, 1034, .invokevirtual 123, 3, [1, 254, 2, 0, 0, 0, 12, 1964, 1965, 1966, 137, 1967]), (701, 1037, .if_icmp .eq 334, 3, [955]), (702, 1040, .iconst 0, 1, []), (703, 1041, .ireturn, 1, [5]), (704, 1042, .aload_n 1, 1, []), (705, 1043, .invokevirtual 124, 3, [1, 131, 0, 0, 0, 0, 11, 1206, 1207, 1208, 121, 1209]), (706, 1046, .aload_n 2, 1, []), (707, 1047, .invokevirtual 127, 3, [1, 257, 0, 0, 0, 0, 12, 1968, 1969, 1970, 137, 1971]), (708, 1050, .if_icmp .eq 321, 3, [955]), (709, 1053, .iconst 0, 1, []), (710, 1054, .ireturn, 1, [5]), (711, 1055, .aload_n 1, 1, []), (712, 1056, .aload_n 0, 1, []), (713, 1057, .iload_n 3, 1, []), (714, 1058, .iconst 1, 1, []), (715, 1059, .iadd, 1, []), (716, 1060, .iaload, 1, []), (717, 1061, .aload_n 0, 1, []), (718, 1062, .iload_n 3, 1, []), (719, 1063, .iconst 2, 1, []), (720, 1064, .iadd, 1, []), (721, 1065, .iaload, 1, []), (722, 1066, .invokevirtual 128, 3, [1, 132, 2, 0, 0, 0, 11, 1214, 1215, 1216, 121, 1217]), (723, 1069, .aload_n 2, 1, []), (724, 1070, .aload_n 0, 1, []), (725, 1071, .iload_n 3, 1, []), (726, 1072, .iconst 1, 1, []), (727, 1073, .iadd, 1, []), (728, 1074, .iaload, 1, []), (729, 1075, .aload_n 0, 1, []), (730, 1076, .iload_n 3, 1, []), (731, 1077, .iconst 2, 1, []), (732, 1078, .iadd, 1, []), (733, 1079, .iaload, 1, []), (734, 1080, .invokevirtual 131, 3, [1, 258, 2, 0, 0, 0, 12, 1980, 1981, 1982, 137, 1983]), (735, 1083, .if_icmp .eq 288, 3, [955]), (736, 1086, .iconst 0, 1, []), (737, 1087, .ireturn, 1, [5]), (738, 1088, .aload_n 1, 1, []), (739, 1089, .invokevirtual 132, 3, [1, 133, 0, 0, 0, 0, 11, 1222, 1223, 1224, 121, 1225]), (740, 1092, .aload_n 2, 1, []), (741, 1093, .invokevirtual 135, 3, [1, 259, 0, 0, 0, 0, 12, 1984, 1985, 1986, 137, 1987]), (742, 1096, .if_icmp .eq 275, 3, [955]), (743, 1099, .iconst 0, 1, []), (744, 1100, .ireturn, 1, [5]), (745, 1101, .aload_n 1, 1, []), (746, 1102, .invokevirtual 136, 3, [1, 134, 0, 0, 0, 0, 11, 1226, 1227, 1228, 121, 1229]), (747, 1105, .aload_n 2, 1, []), (748, 1106, .invokevirtual 139, 3, [1, 262, 0, 0, 0, 0, 12, 1988, 1989, 1990, 137, 1991]), (749, 1109, .if_icmp .eq 262, 3, [955]), (750, 1112, .iconst 0, 1, []), (751, 1113, .ireturn, 1, [5]), (752, 1114, .aload_n 1, 1, []), (753, 1115, .aload_n 0, 1, []), (754, 1116, .iload_n 3, 1, []), (755, 1117, .iconst 1, 1, []), (756, 1118, .iadd, 1, []), (757, 1119, .iaload, 1, []), (758, 1120, .invokevirtual 140, 3, [1, 135, 1, 0, 0, 0, 11, 1247, 1248, 1249, 121, 1250]), (759, 1123, .aload_n 2, 1, []), (760, 1124, .aload_n 0, 1, []), (761, 1125, .iload_n 3, 1, []), (762, 1126, .iconst 1, 1, []), (763, 1127, .iadd, 1, []), (764, 1128, .iaload, 1, []), (765, 1129, .invokevirtual 143, 3, [1, 224, 1, 0, 0, 0, 12, 1820, 1821, 1822, 137, 1823]), (766, 1132, .if_icmp .eq 239, 3, [955]), (767, 1135, .iconst 0, 1, []), (768, 1136, .ireturn, 1, [5]), (769, 1137, .aload_n 1, 1, []), (770, 1138, .aload_n 0, 1, []), (771, 1139, .iload_n 3, 1, []), (772, 1140, .iconst 1, 1, []), (773, 1141, .iadd, 1, []), (774, 1142, .iaload, 1, []), (775, 1143, .aload_n 0, 1, []), (776, 1144, .iload_n 3, 1, []), (777, 1145, .iconst 2, 1, []), (778, 1146, .iadd, 1, []), (779, 1147, .iaload, 1, []), (780, 1148, .aload_n 0, 1, []), (781, 1149, .iload_n 3, 1, []), (782, 1150, .iconst 3, 1, []), (783, 1151, .iadd, 1, []), (784, 1152, .iaload, 1, []), (785, 1153, .invokevirtual 144, 3, [1, 136, 3, 0, 0, 0, 11, 1251, 1252, 1253, 121, 1254]), (786, 1156, .aload_n 2, 1, []), (787, 1157, .aload_n 0, 1, []), (788, 1158, .iload_n 3, 1, []), (789, 1159, .iconst 1, 1, []), (790, 1160, .iadd, 1, []), (791, 1161, .iaload, 1, []), (792, 1162, .aload_n 0, 1, []), (793, 1163, .iload_n 3, 1, []), (794, 1164, .iconst 2, 1, []), (795, 1165, .iadd, 1, []), (796, 1166, .iaload, 1, []), (797, 1167, .aload_n 0, 1, []), (798, 1168, .iload_n 3, 1, []), (799, 1169, .iconst 3, 1, []), (800, 1170, .iadd, 1, []), (801, 1171, .iaload, 1, []), (802, 1172, .invokevirtual 147, 3, [1, 263, 3, 0, 0, 0, 12, 1999, 2000, 2001, 137, 2002]), (803, 1175, .if_icmp .eq 196, 3, [955]), (804, 1178, .iconst 0, 1, []), (805, 1179, .ireturn, 1, [5]), (806, 1180, .aload_n 1, 1, []), (807, 1181, .aload_n 0, 1, []), (808, 1182, .iload_n 3, 1, []), (809, 1183, .iconst 1, 1, []), (810, 1184, .iadd, 1, []), (811, 1185, .iaload, 1, []), (812, 1186, .invokevirtual 148, 3, [1, 137, 1, 5, 0, 0, 11, 1260, 1261, 1262, 121, 1263]), (813, 1189, .aload_n 2, 1, []), (814, 1190, .aload_n 0, 1, []), (815, 1191, .iload_n 3, 1, []), (816, 1192, .iconst 1, 1, []), (817, 1193, .iadd, 1, []), (818, 1194, .iaload, 1, []), (819, 1195, .invokevirtual 152, 3, [1, 264, 1, 5, 0, 0, 12, 2003, 2004, 2005, 137, 2006]), (820, 1198, .if_icmp .eq 173, 3, [955]), (821, 1201, .iconst 0, 1, []), (822, 1202, .ireturn, 1, [5]), (823, 1203, .aload_n 1, 1, []), (824, 1204, .aload_n 0, 1, []), (825, 1205, .iload_n 3, 1, []), (826, 1206, .iconst 1, 1, []), (827, 1207, .iadd, 1, []), (828, 1208, .iaload, 1, []), (829, 1209, .invokevirtual 153, 3, [1, 138, 1, 0, 0, 0, 11, 1268, 1269, 1270, 121, 1271]), (830, 1212, .aload_n 2, 1, []), (831, 1213, .aload_n 0, 1, []), (832, 1214, .iload_n 3, 1, []), (833, 1215, .iconst 1, 1, []), (834, 1216, .iadd, 1, []), (835, 1217, .iaload, 1, []), (836, 1218, .invokevirtual 156, 3, [1, 265, 1, 0, 0, 0, 12, 2007, 2008, 2009, 137, 2010]), (837, 1221, .if_icmp .eq 150, 3, [955]), (838, 1224, .iconst 0, 1, []), (839, 1225, .ireturn, 1, [5]), (840, 1226, .aload_n 1, 1, []), (841, 1227, .aload_n 0, 1, []), (842, 1228, .iload_n 3, 1, []), (843, 1229, .iconst 1, 1, []), (844, 1230, .iadd, 1, []), (845, 1231, .iaload, 1, []), (846, 1232, .aload_n 0, 1, []), (847, 1233, .iload_n 3, 1, []), (848, 1234, .iconst 2, 1, []), (849, 1235, .iadd, 1, []), (850, 1236, .iaload, 1, []), (851, 1237, .invokevirtual 157, 3, [1, 139, 2, 0, 0, 0, 11, 1273, 1274, 1275, 121, 1276]), (852, 1240, .aload_n 2, 1, []), (853, 1241, .aload_n 0, 1, []), (854, 1242, .iload_n 3, 1, []), (855, 1243, .iconst 1, 1, []), (856, 1244, .iadd, 1, []), (857, 1245, .iaload, 1, []), (858, 1246, .aload_n 0, 1, []), (859, 1247, .iload_n 3, 1, []), (860, 1248, .iconst 2, 1, []), (861, 1249, .iadd, 1, []), (862, 1250, .iaload, 1, []), (863, 1251, .invokevirtual 160, 3, [1, 270, 2, 0, 0, 0, 12, 2012, 2013, 2014, 137, 2015]), (864, 1254, .if_icmp .eq 117, 3, [955]), (865, 1257, .iconst 0, 1, []), (866, 1258, .ireturn, 1, [5]), (867, 1259, .aload_n 1, 1, []), (868, 1260, .aload_n 0, 1, []), (869, 1261, .iload_n 3, 1, []), (870, 1262, .iconst 1, 1, []), (871, 1263, .iadd, 1, []), (872, 1264, .iaload, 1, []), (873, 1265, .aload_n 0, 1, []), (874, 1266, .iload_n 3, 1, []), (875, 1267, .iconst 2, 1, []), (876, 1268, .iadd, 1, []), (877, 1269, .iaload, 1, []), (878, 1270, .aload_n 0, 1, []), (879, 1271, .iload_n 3, 1, []), (880, 1272, .iconst 3, 1, []), (881, 1273, .iadd, 1, []), (882, 1274, .iaload, 1, []), (883, 1275, .invokevirtual 161, 3, [1, 140, 3, 0, 0, 0, 11, 1296, 1297, 1298, 121, 1299]), (884, 1278, .aload_n 2, 1, []), (885, 1279, .aload_n 0, 1, []), (886, 1280, .iload_n 3, 1, []), (887, 1281, .iconst 1, 1, []), (888, 1282, .iadd, 1, []), (889, 1283, .iaload, 1, []), (890, 1284, .aload_n 0, 1, []), (891, 1285, .iload_n 3, 1, []), (892, 1286, .iconst 2, 1, []), (893, 1287, .iadd, 1, []), (894, 1288, .iaload, 1, []), (895, 1289, .aload_n 0, 1, []), (896, 1290, .iload_n 3, 1, []), (897, 1291, .iconst 3, 1, []), (898, 1292, .iadd, 1, []), (899, 1293, .iaload, 1, []), (900, 1294, .invokevirtual 164, 3, [1, 271, 3, 0, 0, 0, 12, 2032, 2033, 2034, 137, 2035]), (901, 1297, .if_icmp .eq 74, 3, [955]), (902, 1300, .iconst 0, 1, []), (903, 1301, .ireturn, 1, [5]), (904, 1302, .aload_n 1, 1, []), (905, 1303, .aload_n 0, 1, []), (906, 1304, .iload_n 3, 1, []), (907, 1305, .iconst 1, 1, []), (908, 1306, .iadd, 1, []), (909, 1307, .iaload, 1, []), (910, 1308, .invokevirtual 165, 3, [1, 141, 1, 0, 0, 0, 11, 1300, 1301, 1302, 121, 1303]), (911, 1311, .aload_n 2, 1, []), (912, 1312, .aload_n 0, 1, []), (913, 1313, .iload_n 3, 1, []), (914, 1314, .iconst 1, 1, []), (915, 1315, .iadd, 1, []), (916, 1316, .iaload, 1, []), (917, 1317, .invokevirtual 168, 3, [1, 272, 1, 0, 0, 0, 12, 2036, 2037, 2038, 137, 2039]), (918, 1320, .if_icmp .eq 51, 3, [955]), (919, 1323, .iconst 0, 1, []), (920, 1324, .ireturn, 1, [5]), (921, 1325, .aload_n 1, 1, []), (922, 1326, .aload_n 0, 1, []), (923, 1327, .iload_n 3, 1, []), (924, 1328, .iconst 1, 1, []), (925, 1329, .iadd, 1, []), (926, 1330, .iaload, 1, []), (927, 1331, .invokevirtual 169, 3, [1, 142, 1, 0, 0, 0, 11, 1305, 1306, 1307, 121, 1308]), (928, 1334, .aload_n 2, 1, []), (929, 1335, .aload_n 0, 1, []), (930, 1336, .iload_n 3, 1, []), (931, 1337, .iconst 1, 1, []), (932, 1338, .iadd, 1, []), (933, 1339, .iaload, 1, []), (934, 1340, .invokevirtual 172, 3, [1, 273, 1, 0, 0, 0, 12, 2040, 2041, 2042, 137, 2043]), (935, 1343, .if_icmp .eq 28, 3, [955]), (936, 1346, .iconst 0, 1, []), (937, 1347, .ireturn, 1, [5]), (938, 1348, .aload_n 1, 1, []), (939, 1349, .aload_n 0, 1, []), (940, 1350, .iload_n 3, 1, []), (941, 1351, .iconst 1, 1, []), (942, 1352, .iadd, 1, []), (943, 1353, .iaload, 1, []), (944, 1354, .invokevirtual 173, 3, [1, 143, 1, 0, 0, 0, 11, 1313, 1314, 1315, 121, 1316]), (945, 1357, .aload_n 2, 1, []), (946, 1358, .aload_n 0, 1, []), (947, 1359, .iload_n 3, 1, []), (948, 1360, .iconst 1, 1, []), (949, 1361, .iadd, 1, []), (950, 1362, .iaload, 1, []), (951, 1363, .invokevirtual 176, 3, [1, 274, 1, 0, 0, 0, 12, 2044, 2045, 2046, 137, 2047]), (952, 1366, .if_icmp .eq 5, 3, [955]), (953, 1369, .iconst 0, 1, []), (954, 1370, .ireturn, 1, [5]), (955, 1371, .iinc 3 6, 3, []), (956, 1374, .goto (-1356), 3, [10]), (957, 1377, .iconst 1, 1, []), (958, 1378, .ireturn, 1, [5])]
abbrev MT : Type := MethodName × ByteArray × Nat × Option FieldType × String × List INS
def mtL : List MT := [
  (yX0_init, cX0_init, 2, none, RX0, kX0_init),
  (yX0_now, cX0_now, 1, (some (.object "GeeseSums$Sky")), RX0, kX0_now),
  (yX0_goOn, cX0_goOn, 2, (some (.object "GeeseSums$Sky")), RX0, kX0_goOn),
  (yX0_takeBack, cX0_takeBack, 1, (some .boolean), RX0, kX0_takeBack),
  (yX0_doAgain, cX0_doAgain, 1, (some .boolean), RX0, kX0_doAgain),
  (yX0_restart, cX0_restart, 2, none, RX0, kX0_restart),
  (yX0_restartFrom, cX0_restartFrom, 2, none, RX0, kX0_restartFrom),
  (yX1_init, cX1_init, 2, none, RX1, kX1_init),
  (yX1_want, cX1_want, 3, (some .int), RX1, kX1_want),
  (yX1_shortest, cX1_shortest, 3, (some .int), RX1, kX1_shortest),
  (yX1_search, cX1_search, 5, (some .boolean), RX1, kX1_search),
  (yX1_isInReach, cX1_isInReach, 7, (some .boolean), RX1, kX1_isInReach),
  (yX1_made, cX1_made, 2, (some .int), RX1, kX1_made),
  (yX2_init, cX2_init, 4, none, RX2, kX2_init),
  (yX2_ask, cX2_ask, 5, (some .int), RX2, kX2_ask),
  (yX2_wrongFrom, cX2_wrongFrom, 6, (some .int), RX2, kX2_wrongFrom),
  (yX2_wrongOnes, cX2_wrongOnes, 4, (some .int), RX2, kX2_wrongOnes),
  (yX2_firstAgainst, cX2_firstAgainst, 4, (some .int), RX2, kX2_firstAgainst),
  (yX2_fewestToMend, cX2_fewestToMend, 3, (some .int), RX2, kX2_fewestToMend),
  (yX2_mendFrom, cX2_mendFrom, 9, (some .boolean), RX2, kX2_mendFrom),
  (yX3_init, cX3_init, 1, none, RX3, kX3_init),
  (yX3_put, cX3_put, 2, none, RX3, kX3_put),
  (yX4_init, cX4_init, 1, none, RX4, kX4_init),
  (yX4_clear, cX4_clear, 1, none, RX4, kX4_clear),
  (yX4_addTower, cX4_addTower, 3, none, RX4, kX4_addTower),
  (yX4_hasRoomForWay, cX4_hasRoomForWay, 3, (some .boolean), RX4, kX4_hasRoomForWay),
  (yX4_addWay, cX4_addWay, 4, none, RX4, kX4_addWay),
  (yX4_addClaim, cX4_addClaim, 2, none, RX4, kX4_addClaim),
  (yX4_emit, cX4_emit, 2, none, RX4, kX4_emit),
  (yX4_rows, cX4_rows, 4, (some .int), RX4, kX4_rows),
  (yX4_setRow, cX4_setRow, 7, none, RX4, kX4_setRow),
  (yX4_value, cX4_value, 7, (some .int), RX4, kX4_value),
  (yX4_joined, cX4_joined, 3, (some .int), RX4, kX4_joined),
  (yX5_init, cX5_init, 3, none, RX5, kX5_init),
  (yX5_read, cX5_read, 4, (some .boolean), RX5, kX5_read),
  (yX5_fail, cX5_fail, 2, (some .boolean), RX5, kX5_fail),
  (yX5_line, cX5_line, 2, (some .boolean), RX5, kX5_line),
  (yX5_towerLine, cX5_towerLine, 3, (some .boolean), RX5, kX5_towerLine),
  (yX5_wayLine, cX5_wayLine, 3, (some .boolean), RX5, kX5_wayLine),
  (yX5_claimLine, cX5_claimLine, 2, (some .boolean), RX5, kX5_claimLine),
  (yX5_drawLine, cX5_drawLine, 1, (some .boolean), RX5, kX5_drawLine),
  (yX5_formula, cX5_formula, 6, (some .boolean), RX5, kX5_formula),
  (yX5_negated, cX5_negated, 2, (some .boolean), RX5, kX5_negated),
  (yX5_isOperator, cX5_isOperator, 2, (some .boolean), RX5, kX5_isOperator),
  (yX5_unit, cX5_unit, 6, (some .boolean), RX5, kX5_unit),
  (yX5_find, cX5_find, 4, (some .int), RX5, kX5_find),
  (yX5_towerHere, cX5_towerHere, 1, (some .int), RX5, kX5_towerHere),
  (yX5_startHere, cX5_startHere, 2, (some .int), RX5, kX5_startHere),
  (yX5_isTowerHere, cX5_isTowerHere, 2, (some .boolean), RX5, kX5_isTowerHere),
  (yX5_takeWord, cX5_takeWord, 2, (some .boolean), RX5, kX5_takeWord),
  (yX5_takeSign, cX5_takeSign, 2, (some .boolean), RX5, kX5_takeSign),
  (yX5_takeNumber, cX5_takeNumber, 3, (some .boolean), RX5, kX5_takeNumber),
  (yX6_init, cX6_init, 1, none, RX6, kX6_init),
  (yX6_fill, cX6_fill, 7, none, RX6, kX6_fill),
  (yX6_count, cX6_count, 5, (some .int), RX6, kX6_count),
  (yX6_firstMeeting, cX6_firstMeeting, 6, (some .int), RX6, kX6_firstMeeting),
  (yX6_lengths, cX6_lengths, 6, (some .int), RX6, kX6_lengths),
  (yX6_close, cX6_close, 4, none, RX6, kX6_close),
  (yX6_returning, cX6_returning, 4, (some .int), RX6, kX6_returning),
  (yX6_between, cX6_between, 7, (some .int), RX6, kX6_between),
  (yX7_init, cX7_init, 2, none, RX7, kX7_init),
  (yX7_tell, cX7_tell, 5, (some .int), RX7, kX7_tell),
  (yX7_takeBack, cX7_takeBack, 3, (some .boolean), RX7, kX7_takeBack),
  (yX7_isKnown, cX7_isKnown, 3, (some .boolean), RX7, kX7_isKnown),
  (yX7_survey, cX7_survey, 7, none, RX7, kX7_survey),
  (yX7_isSo, cX7_isSo, 6, (some .boolean), RX7, kX7_isSo),
  (yX8_init, cX8_init, 1, none, RX8, kX8_init),
  (yX8_clear, cX8_clear, 3, none, RX8, kX8_clear),
  (yX8_copy, cX8_copy, 2, none, RX8, kX8_copy),
  (yX8_slot, cX8_slot, 3, (some .int), RX8, kX8_slot),
  (yX8_left, cX8_left, 3, (some .int), RX8, kX8_left),
  (yX8_onWay, cX8_onWay, 4, (some .int), RX8, kX8_onWay),
  (yX8_atTowers, cX8_atTowers, 3, (some .int), RX8, kX8_atTowers),
  (yX8_settle, cX8_settle, 3, none, RX8, kX8_settle),
  (yX8_lose, cX8_lose, 3, none, RX8, kX8_lose),
  (yX8_pass, cX8_pass, 3, none, RX8, kX8_pass),
  (yX8_gather, cX8_gather, 4, none, RX8, kX8_gather),
  (yX8_work, cX8_work, 8, none, RX8, kX8_work),
  (yX8_setOut, cX8_setOut, 5, none, RX8, kX8_setOut),
  (yX8_blow, cX8_blow, 4, (some .int), RX8, kX8_blow),
  (yX8_isStill, cX8_isStill, 4, (some .boolean), RX8, kX8_isStill),
  (yX9_init, cX9_init, 3, none, RX9, kX9_init),
  (yX9_put, cX9_put, 3, none, RX9, kX9_put),
  (yX9_part, cX9_part, 3, none, RX9, kX9_part),
  (yX9_partOne, cX9_partOne, 3, (some .int), RX9, kX9_partOne),
  (yX9_partWord, cX9_partWord, 6, (some .int), RX9, kX9_partWord),
  (yX9_partNumber, cX9_partNumber, 5, (some .int), RX9, kX9_partNumber),
  (yX9_partBad, cX9_partBad, 2, (some .int), RX9, kX9_partBad),
  (yX9_add, cX9_add, 5, none, RX9, kX9_add),
  (yX9_isLetter, cX9_isLetter, 1, (some .boolean), RX9, kX9_isLetter),
  (yX9_isDigit, cX9_isDigit, 1, (some .boolean), RX9, kX9_isDigit),
  (yX9_withLetter, cX9_withLetter, 3, (some .long), RX9, kX9_withLetter),
  (yX9_isKeyword, cX9_isKeyword, 2, (some .boolean), RX9, kX9_isKeyword),
  (yX9_isSign, cX9_isSign, 2, (some .boolean), RX9, kX9_isSign),
  (yX9_step, cX9_step, 1, none, RX9, kX9_step),
  (yX10_init, cX10_init, 1, none, RX10, kX10_init),
  (yX10_open, cX10_open, 4, none, RX10, kX10_open),
  (yX10_reckoned, cX10_reckoned, 6, (some .int), RX10, kX10_reckoned),
  (yX10_stillAt, cX10_stillAt, 4, (some .int), RX10, kX10_stillAt),
  (yX10_reckonedWithout, cX10_reckonedWithout, 6, (some .int), RX10, kX10_reckonedWithout),
  (yX10_hasSetOut, cX10_hasSetOut, 3, (some .boolean), RX10, kX10_hasSetOut),
  (yX10_lossOf, cX10_lossOf, 9, (some .int), RX10, kX10_lossOf),
  (yX10_unseen, cX10_unseen, 9, (some .int), RX10, kX10_unseen),
  (yX10_unadded, cX10_unadded, 10, (some .int), RX10, kX10_unadded),
  (yX11_init, cX11_init, 2, none, RX11, kX11_init),
  (yX11_feed, cX11_feed, 6, (some .int), RX11, kX11_feed),
  (yX11_end, cX11_end, 2, (some .int), RX11, kX11_end),
  (yX11_net, cX11_net, 4, (some .int), RX11, kX11_net),
  (yX11_fault, cX11_fault, 2, (some .int), RX11, kX11_fault),
  (yX11_tower, cX11_tower, 3, (some .int), RX11, kX11_tower),
  (yX11_way, cX11_way, 3, (some .int), RX11, kX11_way),
  (yX11_flock, cX11_flock, 3, (some .int), RX11, kX11_flock),
  (yX11_geese, cX11_geese, 3, (some .int), RX11, kX11_geese),
  (yX11_begin, cX11_begin, 5, (some .int), RX11, kX11_begin),
  (yX11_beats, cX11_beats, 4, (some .int), RX11, kX11_beats),
  (yX11_gust, cX11_gust, 1, (some .int), RX11, kX11_gust),
  (yX11_undo, cX11_undo, 1, (some .boolean), RX11, kX11_undo),
  (yX11_redo, cX11_redo, 1, (some .boolean), RX11, kX11_redo),
  (yX11_row, cX11_row, 4, (some .int), RX11, kX11_row),
  (yX11_reckon, cX11_reckon, 3, (some .int), RX11, kX11_reckon),
  (yX11_still, cX11_still, 1, (some .int), RX11, kX11_still),
  (yX11_says, cX11_says, 2, (some .int), RX11, kX11_says),
  (yX11_wrong, cX11_wrong, 4, (some .int), RX11, kX11_wrong),
  (yX11_against, cX11_against, 4, (some .int), RX11, kX11_against),
  (yX11_mend, cX11_mend, 4, (some .int), RX11, kX11_mend),
  (yX11_loss, cX11_loss, 5, (some .int), RX11, kX11_loss),
  (yX11_blind, cX11_blind, 3, (some .int), RX11, kX11_blind),
  (yX11_adds, cX11_adds, 6, (some .int), RX11, kX11_adds),
  (yX11_paths, cX11_paths, 4, (some .int), RX11, kX11_paths),
  (yX11_meet, cX11_meet, 4, (some .int), RX11, kX11_meet),
  (yX11_spread, cX11_spread, 3, (some .int), RX11, kX11_spread),
  (yX11_ring, cX11_ring, 1, (some .int), RX11, kX11_ring),
  (yX11_pair, cX11_pair, 3, (some .int), RX11, kX11_pair),
  (yX11_hush, cX11_hush, 2, (some .int), RX11, kX11_hush),
  (yX11_chain, cX11_chain, 1, (some .int), RX11, kX11_chain),
  (yX11_lies, cX11_lies, 2, (some .int), RX11, kX11_lies),
  (yX11_sight, cX11_sight, 4, (some .int), RX11, kX11_sight),
  (yX11_untell, cX11_untell, 2, (some .boolean), RX11, kX11_untell),
  (yX11_later, cX11_later, 2, (some .int), RX11, kX11_later),
  (yX11_begun, cX11_begun, 4, (some .int), RX11, kX11_begun),
  (yX11_sure, cX11_sure, 4, (some .int), RX11, kX11_sure),
  (yX11_image, cX11_image, 2, (some .int), RX11, kX11_image),
  (yX11_back, cX11_back, 2, (some .int), RX11, kX11_back),
  (yX11_about, cX11_about, 2, (some .int), RX11, kX11_about),
  (yX11_isWithin, cX11_isWithin, 3, (some .boolean), RX11, kX11_isWithin),
  (yX11_isTower, cX11_isTower, 2, (some .boolean), RX11, kX11_isTower),
  (yX11_isDusk, cX11_isDusk, 2, (some .boolean), RX11, kX11_isDusk),
  (yX11_isStart, cX11_isStart, 2, (some .boolean), RX11, kX11_isStart),
  (yX11_isWay, cX11_isWay, 2, (some .boolean), RX11, kX11_isWay),
  (yX11_isClaim, cX11_isClaim, 2, (some .boolean), RX11, kX11_isClaim),
  (yX11_isTried, cX11_isTried, 3, (some .boolean), RX11, kX11_isTried),
  (yX11_isClaimTried, cX11_isClaimTried, 4, (some .boolean), RX11, kX11_isClaimTried),
  (yX12_init, cX12_init, 1, none, RX12, kX12_init),
  (yX12_sign, cX12_sign, 2, (some .int), RX12, kX12_sign),
  (yX12_isLetter, cX12_isLetter, 1, (some .boolean), RX12, kX12_isLetter),
  (yX12_isDigit, cX12_isDigit, 1, (some .boolean), RX12, kX12_isDigit),
  (yX12_fails, cX12_fails, 3, none, RX12, kX12_fails),
  (yX12_isGood, cX12_isGood, 1, (some .boolean), RX12, kX12_isGood),
  (yX12_isKept, cX12_isKept, 3, (some .boolean), RX12, kX12_isKept),
  (yX12_isSign, cX12_isSign, 1, (some .boolean), RX12, kX12_isSign),
  (yX12_goOn, cX12_goOn, 3, none, RX12, kX12_goOn),
  (yX12_isSignHere, cX12_isSignHere, 2, (some .boolean), RX12, kX12_isSignHere),
  (yX12_isWord, cX12_isWord, 3, (some .boolean), RX12, kX12_isWord),
  (yX12_misplaced, cX12_misplaced, 1, none, RX12, kX12_misplaced),
  (yX12_must, cX12_must, 2, none, RX12, kX12_must),
  (yX12_numeral, cX12_numeral, 4, (some .int), RX12, kX12_numeral),
  (yX12_after, cX12_after, 5, (some .int), RX12, kX12_after),
  (yX12_clearBank, cX12_clearBank, 1, none, RX12, kX12_clearBank),
  (yX12_net, cX12_net, 2, (some .int), RX12, kX12_net),
  (yX12_sortHere, cX12_sortHere, 1, (some .int), RX12, kX12_sortHere),
  (yX12_isFull, cX12_isFull, 2, (some .boolean), RX12, kX12_isFull),
  (yX12_readLine, cX12_readLine, 4, none, RX12, kX12_readLine),
  (yX12_readDraw, cX12_readDraw, 1, none, RX12, kX12_readDraw),
  (yX12_here, cX12_here, 5, (some .int), RX12, kX12_here),
  (yX12_towerHere, cX12_towerHere, 1, (some .int), RX12, kX12_towerHere),
  (yX12_fresh, cX12_fresh, 4, (some .long), RX12, kX12_fresh),
  (yX12_known, cX12_known, 2, (some .int), RX12, kX12_known),
  (yX12_readTower, cX12_readTower, 3, none, RX12, kX12_readTower),
  (yX12_canBegin, cX12_canBegin, 3, (some .boolean), RX12, kX12_canBegin),
  (yX12_readWay, cX12_readWay, 3, none, RX12, kX12_readWay),
  (yX12_readClaim, cX12_readClaim, 2, none, RX12, kX12_readClaim),
  (yX12_readRule, cX12_readRule, 2, none, RX12, kX12_readRule),
  (yX12_emit, cX12_emit, 3, none, RX12, kX12_emit),
  (yX12_pushE, cX12_pushE, 3, none, RX12, kX12_pushE),
  (yX12_e, cX12_e, 2, none, RX12, kX12_e),
  (yX12_startHere, cX12_startHere, 3, (some .int), RX12, kX12_startHere),
  (yX12_unit, cX12_unit, 7, (some .boolean), RX12, kX12_unit),
  (yX12_rankHere, cX12_rankHere, 1, (some .int), RX12, kX12_rankHere),
  (yX12_isCompared, cX12_isCompared, 2, (some .boolean), RX12, kX12_isCompared),
  (yX12_behindUnit, cX12_behindUnit, 2, (some .boolean), RX12, kX12_behindUnit),
  (yX12_two, cX12_two, 3, (some .int), RX12, kX12_two),
  (yX12_comes, cX12_comes, 5, (some .int), RX12, kX12_comes),
  (yX12_fault, cX12_fault, 2, (some .int), RX12, kX12_fault),
  (yX12_isIn, cX12_isIn, 3, (some .boolean), RX12, kX12_isIn),
  (yX12_towerMany, cX12_towerMany, 1, (some .int), RX12, kX12_towerMany),
  (yX12_wayMany, cX12_wayMany, 1, (some .int), RX12, kX12_wayMany),
  (yX12_startMany, cX12_startMany, 1, (some .int), RX12, kX12_startMany),
  (yX12_sortOf, cX12_sortOf, 2, (some .int), RX12, kX12_sortOf),
  (yX12_isTower, cX12_isTower, 2, (some .boolean), RX12, kX12_isTower),
  (yX12_isWay, cX12_isWay, 2, (some .boolean), RX12, kX12_isWay),
  (yX12_isDusk, cX12_isDusk, 2, (some .boolean), RX12, kX12_isDusk),
  (yX12_isClaim, cX12_isClaim, 2, (some .boolean), RX12, kX12_isClaim),
  (yX12_startAnew, cX12_startAnew, 2, none, RX12, kX12_startAnew),
  (yX12_clearSky, cX12_clearSky, 2, none, RX12, kX12_clearSky),
  (yX12_putAside, cX12_putAside, 2, none, RX12, kX12_putAside),
  (yX12_bringBack, cX12_bringBack, 2, none, RX12, kX12_bringBack),
  (yX12_setOut, cX12_setOut, 4, none, RX12, kX12_setOut),
  (yX12_comeNearer, cX12_comeNearer, 3, none, RX12, kX12_comeNearer),
  (yX12_does, cX12_does, 8, none, RX12, kX12_does),
  (yX12_beat, cX12_beat, 2, none, RX12, kX12_beat),
  (yX12_onWay, cX12_onWay, 4, (some .int), RX12, kX12_onWay),
  (yX12_onWays, cX12_onWays, 3, (some .int), RX12, kX12_onWays),
  (yX12_staying, cX12_staying, 3, (some .int), RX12, kX12_staying),
  (yX12_tower, cX12_tower, 3, (some .int), RX12, kX12_tower),
  (yX12_way, cX12_way, 3, (some .int), RX12, kX12_way),
  (yX12_flock, cX12_flock, 3, (some .int), RX12, kX12_flock),
  (yX12_geese, cX12_geese, 2, (some .int), RX12, kX12_geese),
  (yX12_keepAct, cX12_keepAct, 2, none, RX12, kX12_keepAct),
  (yX12_exchange, cX12_exchange, 3, none, RX12, kX12_exchange),
  (yX12_begin, cX12_begin, 4, (some .int), RX12, kX12_begin),
  (yX12_beats, cX12_beats, 3, (some .int), RX12, kX12_beats),
  (yX12_gust, cX12_gust, 3, (some .int), RX12, kX12_gust),
  (yX12_undo, cX12_undo, 1, (some .boolean), RX12, kX12_undo),
  (yX12_redo, cX12_redo, 1, (some .boolean), RX12, kX12_redo),
  (yX12_lies, cX12_lies, 2, (some .int), RX12, kX12_lies),
  (yX12_row, cX12_row, 4, (some .int), RX12, kX12_row),
  (yX12_clearFor, cX12_clearFor, 2, none, RX12, kX12_clearFor),
  (yX12_reckoned, cX12_reckoned, 4, (some .int), RX12, kX12_reckoned),
  (yX12_isBeats, cX12_isBeats, 1, (some .boolean), RX12, kX12_isBeats),
  (yX12_reckon, cX12_reckon, 4, (some .int), RX12, kX12_reckon),
  (yX12_isStill, cX12_isStill, 2, (some .boolean), RX12, kX12_isStill),
  (yX12_still, cX12_still, 3, (some .int), RX12, kX12_still),
  (yX12_keepRow, cX12_keepRow, 2, none, RX12, kX12_keepRow),
  (yX12_bringRow, cX12_bringRow, 2, none, RX12, kX12_bringRow),
  (yX12_rowsOf, cX12_rowsOf, 4, (some .int), RX12, kX12_rowsOf),
  (yX12_layRow, cX12_layRow, 5, none, RX12, kX12_layRow),
  (yX12_isRight, cX12_isRight, 3, (some .boolean), RX12, kX12_isRight),
  (yX12_says, cX12_says, 2, (some .int), RX12, kX12_says),
  (yX12_canAsk, cX12_canAsk, 4, (some .boolean), RX12, kX12_canAsk),
  (yX12_wrongRows, cX12_wrongRows, 8, (some .int), RX12, kX12_wrongRows),
  (yX12_wrong, cX12_wrong, 4, (some .int), RX12, kX12_wrong),
  (yX12_against, cX12_against, 6, (some .int), RX12, kX12_against),
  (yX12_areAllRight, cX12_areAllRight, 5, (some .boolean), RX12, kX12_areAllRight),
  (yX12_told, cX12_told, 2, (some .int), RX12, kX12_told),
  (yX12_mendsOne, cX12_mendsOne, 8, (some .boolean), RX12, kX12_mendsOne),
  (yX12_mendsTwo, cX12_mendsTwo, 8, (some .boolean), RX12, kX12_mendsTwo),
  (yX12_mend, cX12_mend, 5, (some .int), RX12, kX12_mend),
  (yX12_lossOf, cX12_lossOf, 7, (some .int), RX12, kX12_lossOf),
  (yX12_loss, cX12_loss, 6, (some .int), RX12, kX12_loss),
  (yX12_blind, cX12_blind, 7, (some .int), RX12, kX12_blind),
  (yX12_adds, cX12_adds, 11, (some .int), RX12, kX12_adds),
  (yX12_layPaths, cX12_layPaths, 8, none, RX12, kX12_layPaths),
  (yX12_paths, cX12_paths, 4, (some .int), RX12, kX12_paths),
  (yX12_meet, cX12_meet, 5, (some .int), RX12, kX12_meet),
  (yX12_spread, cX12_spread, 5, (some .int), RX12, kX12_spread),
  (yX12_wider, cX12_wider, 4, (some .int), RX12, kX12_wider),
  (yX12_isInRing, cX12_isInRing, 4, (some .boolean), RX12, kX12_isInRing),
  (yX12_ring, cX12_ring, 3, (some .int), RX12, kX12_ring),
  (yX12_pair, cX12_pair, 3, (some .int), RX12, kX12_pair),
  (yX12_hush, cX12_hush, 2, (some .int), RX12, kX12_hush),
  (yX12_made, cX12_made, 2, (some .int), RX12, kX12_made),
  (yX12_doesChain, cX12_doesChain, 6, (some .boolean), RX12, kX12_doesChain),
  (yX12_chain, cX12_chain, 3, (some .int), RX12, kX12_chain),
  (yX12_sight, cX12_sight, 4, (some .int), RX12, kX12_sight),
  (yX12_untell, cX12_untell, 2, (some .boolean), RX12, kX12_untell),
  (yX12_later, cX12_later, 2, (some .int), RX12, kX12_later),
  (yX12_counts, cX12_counts, 3, (some .boolean), RX12, kX12_counts),
  (yX12_lastBeat, cX12_lastBeat, 4, (some .int), RX12, kX12_lastBeat),
  (yX12_areSo, cX12_areSo, 5, (some .boolean), RX12, kX12_areSo),
  (yX12_countBegun, cX12_countBegun, 6, (some .int), RX12, kX12_countBegun),
  (yX12_begun, cX12_begun, 5, (some .int), RX12, kX12_begun),
  (yX12_sure, cX12_sure, 4, (some .int), RX12, kX12_sure),
  (yX12_image, cX12_image, 3, (some .int), RX12, kX12_image),
  (yX12_back, cX12_back, 3, (some .int), RX12, kX12_back),
  (yX12_about, cX12_about, 2, (some .int), RX12, kX12_about),
  (yX12_feed, cX12_feed, 8, (some .int), RX12, kX12_feed),
  (yX12_end, cX12_end, 2, (some .int), RX12, kX12_end),
  (yJ11_isValidCodePoint_9a6ad, cJ11_isValidCodePoint_9a6ad, 2, (some .boolean), RJ11, []),
  (yJ11_highSurrogate_5068e, cJ11_highSurrogate_5068e, 1, (some .char), RJ11, []),
  (yJ11_lowSurrogate_5068e, cJ11_lowSurrogate_5068e, 1, (some .char), RJ11, []),
  (yJ9_max_7cf53, cJ9_max_7cf53, 2, (some .int), RJ9, []),
  (yJ9_min_7cf53, cJ9_min_7cf53, 2, (some .int), RJ9, []),
  (yJ0_length_8abf5, cJ0_length_8abf5, 1, (some .int), RJ0, []),
  (yJ0_charAt_5068e, cJ0_charAt_5068e, 2, (some .char), RJ0, []),
  (yJ0_indexOf_0f7a4, cJ0_indexOf_0f7a4, 2, (some .int), RJ0, []),
  (yJ0_indexOf_7cf53, cJ0_indexOf_7cf53, 3, (some .int), RJ0, []),
  (yJ0_coder_7d493, cJ0_coder_7d493, 1, (some .byte), RJ0, []),
  (yJ0_isLatin1_aae02, cJ0_isLatin1_aae02, 1, (some .boolean), RJ0, []),
  (yJ0_checkIndex_df160, cJ0_checkIndex_df160, 2, none, RJ0, []),
  (yJ0_checkBoundsBeginEnd_23922, cJ0_checkBoundsBeginEnd_23922, 3, none, RJ0, []),
  (yJ1_charAt_3b067, cJ1_charAt_3b067, 2, (some .char), RJ1, []),
  (yJ1_canEncode_9a6ad, cJ1_canEncode_9a6ad, 1, (some .boolean), RJ1, []),
  (yJ1_indexOf_4cfef, cJ1_indexOf_4cfef, 4, (some .int), RJ1, []),
  (yJ1_indexOfChar_4cfef, cJ1_indexOfChar_4cfef, 6, (some .int), RJ1, []),
  (yJ2_getChar_3b067, cJ2_getChar_3b067, 2, (some .char), RJ2, []),
  (yJ2_length_9d52b, cJ2_length_9d52b, 1, (some .int), RJ2, []),
  (yJ2_indexOf_4cfef, cJ2_indexOf_4cfef, 4, (some .int), RJ2, []),
  (yJ2_indexOfChar_4cfef, cJ2_indexOfChar_4cfef, 4, (some .int), RJ2, []),
  (yJ2_indexOfCharUnsafe_4cfef, cJ2_indexOfCharUnsafe_4cfef, 5, (some .int), RJ2, []),
  (yJ2_indexOfSupplementary_4cfef, cJ2_indexOfSupplementary_4cfef, 7, (some .int), RJ2, []),
  (yJ2_charAt_3b067, cJ2_charAt_3b067, 2, (some .char), RJ2, []),
  (yJ2_checkIndex_2214a, cJ2_checkIndex_2214a, 2, none, RJ2, []),
  (yJ2_checkBoundsBeginEnd_d044e, cJ2_checkBoundsBeginEnd_d044e, 3, none, RJ2, []),
  (yJ3_checkIndex_8e157, cJ3_checkIndex_8e157, 3, (some .int), RJ3, []),
  (yJ3_checkFromToIndex_8c36e, cJ3_checkFromToIndex_8c36e, 4, (some .int), RJ3, []),
  (yL_law, cL_law, 4, (some .boolean), RL, kL_law)]
def mt (m : Nat) : MT := mtL.getD m (yL_law, cL_law, 0, none, RL, [])
end
section
/-! THE PLAIN MACHINE: what the methods do, said over numbers alone (an address, a place: a number). 'gx_stp' is one instruction, 'gx_wp' a walk up to the places where it is cut, as a proposition. -/
abbrev vi (x : Int) : AV := (0, x)
abbrev vl (x : Int) : AV := (1, x)
abbrev vr (x : Int) : AV := (2, x)
abbrev vn : AV := (3, 0)
abbrev ve (x : Int) : AV := (4, x)
def w32 (x : Int) : Int := (Int32.ofInt x).toInt
def w64 (x : Int) : Int := (Int64.ofInt x).toInt
def w8 (x : Int) : Int := (Int32.ofInt x).toInt8.toInt32.toInt
def w16 (x : Int) : Int := ((Int32.ofInt x).toUInt32 % 65536).toInt32.toInt
def iadd (x y : Int) : Int := w32 (x + y)
def isub (x y : Int) : Int := w32 (x - y)
def imul (x y : Int) : Int := w32 (x * y)
def idiv (x y : Int) : Int := (Int32.ofInt x / Int32.ofInt y).toInt
def irem (x y : Int) : Int := (Int32.ofInt x - Int32.ofInt x / Int32.ofInt y * Int32.ofInt y).toInt
def iand (x y : Int) : Int := (Int32.ofInt x &&& Int32.ofInt y).toInt
def ior (x y : Int) : Int := (Int32.ofInt x ||| Int32.ofInt y).toInt
def ishl (x y : Int) : Int := (Int32.ofInt x <<< (Int32.ofInt y &&& 31)).toInt
def ishr (x y : Int) : Int := (Int32.ofInt x >>> (Int32.ofInt y &&& 31)).toInt
def ladd (x y : Int) : Int := w64 (x + y)
def lmul (x y : Int) : Int := w64 (x * y)
def lor (x y : Int) : Int := (Int64.ofInt x ||| Int64.ofInt y).toInt
def lshl (x y : Int) : Int := (Int64.ofInt x <<< ((Int32.ofInt y).toInt64 &&& 63)).toInt
def lcmp (x y : Int) : Int := if y < x then 1 else if x = y then 0 else -1
def imax (x y : Int) : Int := if x < y then y else x
def imin (x y : Int) : Int := if y < x then y else x
def zr (M : MEM) (a : Int) (v : Int) : MEM := fun q i => if q = a then v else M q i
def stm (M : MEM) (a i v : Int) : MEM := fun q j => if q = a ∧ j = i then v else M q j
def cpm (M : MEM) (a sp b dp n : Int) : MEM := fun q j => if q = b ∧ dp ≤ j ∧ j < dp + n then M a (sp + (j - dp)) else M q j
def shk (sh : SHP) (a : Int) : Nat × Nat := match a with
  | .ofNat n => sh.getD n (999, 0)
  | .negSucc _ => (999, 0)
def ook (sh : SHP) (ci : Nat) (a : Int) (P : Prop) : Prop := match Nat.beq (shk sh a).1 ci with
  | true => P
  | false => False
def aok (sh : SHP) (kd : Nat) (a i : Int) (P : Prop) : Prop := match Nat.beq (shk sh a).1 kd with
  | true => 0 ≤ i ∧ i < Int.ofNat (shk sh a).2 ∧ P
  | false => False
def bq (x : Int) (P : Prop) : Prop := match x with
  | .ofNat 0 => P
  | .ofNat 1 => P
  | _ => (x = 0 ∨ x = 1) ∧ P
def pI (s : List AV) (f : Int → List AV → Prop) : Prop := match s with
  | (0, x) :: t => f x t
  | _ => False
def pL (s : List AV) (f : Int → List AV → Prop) : Prop := match s with
  | (1, x) :: t => f x t
  | _ => False
def pR (s : List AV) (f : Int → List AV → Prop) : Prop := match s with
  | (2, x) :: t => f x t
  | _ => False
def pE (s : List AV) (f : Int → List AV → Prop) : Prop := match s with
  | (4, x) :: t => f x t
  | _ => False
def pII (s : List AV) (f : Int → Int → List AV → Prop) : Prop := pI s fun y t => pI t fun x t => f x y t
def pLL (s : List AV) (f : Int → Int → List AV → Prop) : Prop := pL s fun y t => pL t fun x t => f x y t
def popn : Nat → List AV → List AV → (List AV → List AV → Prop) → Prop
  | 0, acc, s, f => f acc s
  | n + 1, acc, v :: s, f => popn n (v :: acc) s f
  | _ + 1, _, [], _ => False
def catv (v : AV) : Nat := match v.1 with
  | 1 => 2
  | _ => 1
def cats : List AV → Nat
  | [] => 0
  | v :: s => catv v + cats s
def one1 (v : AV) : Bool := match v.1 with
  | 0 => true
  | 2 => true
  | 4 => true
  | _ => false
/-- a store of one word: it spoils a long that began a place ahead -/
def lst1 : List AV → Nat → AV → List AV
  | [], _, _ => []
  | _ :: t, 0, v => v :: t
  | a :: t, 1, v => (match a.1 with | 1 => vn | _ => a) :: lst1 t 0 v
  | a :: t, i + 2, v => a :: lst1 t (i + 1) v
/-- a store of two words -/
def lst2 : List AV → Nat → AV → List AV
  | [], _, _ => []
  | [_], _, _ => []
  | _ :: _ :: t, 0, v => v :: vn :: t
  | a :: t, 1, v => (match a.1 with | 1 => vn | _ => a) :: lst2 t 0 v
  | a :: t, i + 2, v => a :: lst2 t (i + 1) v
def lgt : List AV → Nat → AV
  | [], _ => vn
  | v :: _, 0 => v
  | _ :: t, i + 1 => lgt t i
def gI (v : AV) (f : Int → Prop) : Prop := match v with
  | (0, x) => f x
  | _ => False
def gL (v : AV) (f : Int → Prop) : Prop := match v with
  | (1, x) => f x
  | _ => False
def gR (v : AV) (f : AV → Prop) : Prop := match v with
  | (2, x) => f (2, x)
  | (4, x) => f (4, x)
  | _ => False
def pick (r : List Nat) (i : Nat) : Nat := match r, i with
  | [], _ => 0
  | a :: _, 0 => a
  | _ :: t, i + 1 => pick t i
def tsw (lo : Int) (x : Int) (J : Nat → Prop) (d : Nat) : List Nat → Prop
  | [] => J d
  | t :: r => if x = lo then J t else tsw (lo + 1) x J d r
def lsw (x : Int) (J : Nat → Prop) (d : Nat) : List (Int × Int) → List Nat → Prop
  | [], _ => J d
  | _, [] => J d
  | (k, _) :: ps, t :: r => if x = k then J t else lsw x J d ps r
def bud (b : Bool) (P : Prop) : Prop := match b with
  | true => P
  | false => False
/-- what a call's answer is to its caller -/
def rtk (rt : Nat) (s : List AV) (k : List AV → SHP → MEM → MEM → Prop) : RES := match rt with
  | 9 => fun _ sh R M => k s sh R M
  | 5 => fun x sh R M => (x = 0 ∨ x = 1) → k ((0, x) :: s) sh R M
  | _ => fun x sh R M => k ((rt, x) :: s) sh R M
def strB : Nat → List Int
  | 1 => [115, 116, 97, 114, 116, 32, 106, 111, 105, 110, 32, 115, 112, 108, 105, 116, 32, 111, 100, 100, 32, 100, 117, 115, 107, 32, 112, 111, 110, 100, 32, 102, 111, 120, 32, 98, 114, 101, 97, 100, 32, 119, 105, 110, 100, 32, 119, 97, 121, 32, 99, 108, 97, 105, 109, 32, 100, 114, 97, 119, 32, 116, 111, 32, 105, 110, 32, 97, 116, 32, 111, 114, 32, 97, 110, 100, 32, 110, 111, 116, 32]
  | 2 => [59, 40, 41, 60, 62, 61, 43, 45, 42, 47, 37]
  | _ => []
def idxOf (x : Int) : List Int → Int → Int
  | [], _ => -1
  | y :: t, i => if x = y then i else idxOf x t (i + 1)
def callp (C : CLL) (op : Nat) (r : List Nat) (ls s : List AV) (sh : SHP) (R M : MEM) (cb sb : Nat) (k : NXT) : Prop := match op with
  | 0 => popn (pick r 2) [] s fun as t => bud (Nat.ble (pick r 4) cb && Nat.ble (pick r 5) sb && Nat.ble (cats t) 8) (C (pick r 1) as sh R M (pick r 4) (pick r 5) (rtk (pick r 3) t fun t sh R M => k ls t sh R M (cb - pick r 4) (sb - pick r 5)))
  | 3 => bud (Nat.ble (cats s) 10) (pII s fun x y t => k ls (vi (imax x y) :: t) sh R M cb sb)
  | 4 => bud (Nat.ble (cats s) 10) (pII s fun x y t => k ls (vi (imin x y) :: t) sh R M cb sb)
  | 5 => bud (Nat.ble (cats s) 13) (pI s fun n s => pI s fun dp s => pR s fun b s => pI s fun sp s => pR s fun a s => aok sh 100 a sp (aok sh 100 b dp (0 ≤ n ∧ sp + n ≤ Int.ofNat (shk sh a).2 ∧ dp + n ≤ Int.ofNat (shk sh b).2 ∧ k ls s sh R (cpm M a sp b dp n) cb sb)))
  | 6 => bud (Nat.ble (cats s) 8) (pE s fun q t => bud (Nat.ble 1 q.toNat && Nat.ble q.toNat 2) (k ls (vi ((strB q.toNat).length : Int) :: t) sh R M cb sb))
  | 7 => bud (Nat.ble (cats s) 8) (pI s fun i t => pE t fun q t => bud (Nat.ble 1 q.toNat && Nat.ble q.toNat 2) (0 ≤ i ∧ i < ((strB q.toNat).length : Int) ∧ k ls (vi ((strB q.toNat).getD i.toNat 0) :: t) sh R M cb sb))
  | 8 => bud (Nat.ble (cats s) 8) (pI s fun c t => pE t fun q t => bud (Nat.ble 1 q.toNat && Nat.ble q.toNat 2) (k ls (vi (idxOf c (strB q.toNat) 0) :: t) sh R M cb sb))
  | 9 => bud (Nat.ble (cats s) 8) (pR s fun a t => 0 ≤ a ∧ k ls t sh R M cb sb)
  | _ => popn (pick r 2) [] s fun as t => pR t fun a t => ook sh (pick r 6) a (bud (Nat.ble (pick r 4) cb && Nat.ble (pick r 5) sb && Nat.ble (cats t) 8) (C (pick r 1) ((2, a) :: as) sh R M (pick r 4) (pick r 5) (rtk (pick r 3) t fun t sh R M => k ls t sh R M (cb - pick r 4) (sb - pick r 5))))
def cmpI (c : Jvm.ClassFile.Cond) (x y : Int) (A B : Prop) : Prop := match c with
  | .eq => if x = y then A else B
  | .ne => if x = y then B else A
  | .lt => if x < y then A else B
  | .ge => if x < y then B else A
  | .gt => if y < x then A else B
  | .le => if y < x then B else A
def newk (kd n : Nat) (sh : SHP) (R M : MEM) : SHP × MEM × MEM := (sh ++ [(kd, n)], zr R (sh.length : Int) (-1), zr M (sh.length : Int) 0)
/-- the outer array at 'length', its N rows of n behind it -/
def new2 (N n : Nat) (sh : SHP) (R M : MEM) : SHP × MEM × MEM := (sh ++ (105, N) :: List.replicate N (100, n), (fun q i => if q = (sh.length : Int) then (if 0 ≤ i ∧ i < (N : Int) then (sh.length : Int) + 1 + i else -1) else if (sh.length : Int) < q then -1 else R q i), fun q i => if (sh.length : Int) ≤ q then 0 else M q i)
def gx_stp (C : CLL) (X : Int × (Int → Int)) (i : Jvm.ClassFile.Instr) (r : List Nat) (ls s : List AV) (sh : SHP) (R M : MEM) (cb sb : Nat) (k : NXT) (J : Nat → NXT) (Q : RES) : Prop := match i with
  | .iconst n => k ls (vi n :: s) sh R M cb sb
  | .bipush n => k ls (vi n :: s) sh R M cb sb
  | .sipush n => k ls (vi n :: s) sh R M cb sb
  | .lconst n => k ls (vl (Int.ofNat n.val) :: s) sh R M cb sb
  | .iload n => gI (lgt ls n) fun x => k ls (vi x :: s) sh R M cb sb
  | .iload_n n => gI (lgt ls n.val) fun x => k ls (vi x :: s) sh R M cb sb
  | .lload n => gL (lgt ls n) fun x => k ls (vl x :: s) sh R M cb sb
  | .lload_n n => gL (lgt ls n.val) fun x => k ls (vl x :: s) sh R M cb sb
  | .aload n => gR (lgt ls n) fun v => k ls (v :: s) sh R M cb sb
  | .aload_n n => gR (lgt ls n.val) fun v => k ls (v :: s) sh R M cb sb
  | .istore n => pI s fun x t => k (lst1 ls n (vi x)) t sh R M cb sb
  | .istore_n n => pI s fun x t => k (lst1 ls n.val (vi x)) t sh R M cb sb
  | .lstore n => pL s fun x t => k (lst2 ls n (vl x)) t sh R M cb sb
  | .lstore_n n => pL s fun x t => k (lst2 ls n.val (vl x)) t sh R M cb sb
  | .astore n => pR s fun x t => k (lst1 ls n (vr x)) t sh R M cb sb
  | .astore_n n => pR s fun x t => k (lst1 ls n.val (vr x)) t sh R M cb sb
  | .iinc n d => gI (lgt ls n) fun x => k (lst1 ls n (vi (iadd x d))) s sh R M cb sb
  | .iadd => pII s fun x y t => k ls (vi (iadd x y) :: t) sh R M cb sb
  | .isub => pII s fun x y t => k ls (vi (isub x y) :: t) sh R M cb sb
  | .imul => pII s fun x y t => k ls (vi (imul x y) :: t) sh R M cb sb
  | .iand => pII s fun x y t => k ls (vi (iand x y) :: t) sh R M cb sb
  | .ior => pII s fun x y t => k ls (vi (ior x y) :: t) sh R M cb sb
  | .ishl => pII s fun x y t => k ls (vi (ishl x y) :: t) sh R M cb sb
  | .ishr => pII s fun x y t => k ls (vi (ishr x y) :: t) sh R M cb sb
  | .idiv => pII s fun x y t => y ≠ 0 ∧ k ls (vi (idiv x y) :: t) sh R M cb sb
  | .irem => pII s fun x y t => y ≠ 0 ∧ k ls (vi (irem x y) :: t) sh R M cb sb
  | .ladd => pLL s fun x y t => k ls (vl (ladd x y) :: t) sh R M cb sb
  | .lmul => pLL s fun x y t => k ls (vl (lmul x y) :: t) sh R M cb sb
  | .lor => pLL s fun x y t => k ls (vl (lor x y) :: t) sh R M cb sb
  | .lshl => pI s fun y t => pL t fun x t => k ls (vl (lshl x y) :: t) sh R M cb sb
  | .lcmp => pLL s fun x y t => k ls (vi (lcmp x y) :: t) sh R M cb sb
  | .i2l => pI s fun x t => k ls (vl x :: t) sh R M cb sb
  | .l2i => pL s fun x t => k ls (vi (w32 x) :: t) sh R M cb sb
  | .i2b => pI s fun x t => k ls (vi (w8 x) :: t) sh R M cb sb
  | .i2c => pI s fun x t => k ls (vi (w16 x) :: t) sh R M cb sb
  | .dup => match s with
    | v :: t => bud (one1 v) (k ls (v :: v :: t) sh R M cb sb)
    | [] => False
  | .dup2 => match s with
    | (1, x) :: t => k ls ((1, x) :: (1, x) :: t) sh R M cb sb
    | v :: u :: t => bud (one1 v && one1 u) (k ls (v :: u :: v :: u :: t) sh R M cb sb)
    | _ => False
  | .ifCond c _ => pI s fun x t => cmpI c x 0 (J (pick r 0) ls t sh R M cb sb) (k ls t sh R M cb sb)
  | .if_icmp c _ => pII s fun x y t => cmpI c x y (J (pick r 0) ls t sh R M cb sb) (k ls t sh R M cb sb)
  | .goto _ => J (pick r 0) ls s sh R M cb sb
  | .tableswitch _ lo _ _ => pI s fun x t => tsw lo x (fun j => J j ls t sh R M cb sb) (pick r 0) r.tail
  | .lookupswitch _ ps => pI s fun x t => lsw x (fun j => J j ls t sh R M cb sb) (pick r 0) ps.toList r.tail
  | .ireturn => match s with
    | [(0, x)] => (match pick r 0 with
      | 5 => bq x (Q x sh R M)
      | _ => Q x sh R M)
    | _ => False
  | .lreturn => match s with
    | [(1, x)] => Q x sh R M
    | _ => False
  | .areturn => match s with
    | [(2, x)] => Q x sh R M
    | _ => False
  | .return_ => match s with
    | [] => Q 0 sh R M
    | _ => False
  | .getfield _ => pR s fun a t => ook sh (pick r 0) a (match pick r 2 with
    | 2 => k ls (vr (R a (pick r 1 : Nat)) :: t) sh R M cb sb
    | 1 => k ls (vl (M a (pick r 1 : Nat)) :: t) sh R M cb sb
    | _ => k ls (vi (M a (pick r 1 : Nat)) :: t) sh R M cb sb)
  | .putfield _ => match pick r 2 with
    | 2 => pR s fun v t => pR t fun a t => ook sh (pick r 0) a (k ls t sh (stm R a (pick r 1 : Nat) v) M cb sb)
    | 1 => pL s fun v t => pR t fun a t => ook sh (pick r 0) a (k ls t sh R (stm M a (pick r 1 : Nat) v) cb sb)
    | 5 => pI s fun v t => pR t fun a t => ook sh (pick r 0) a (bq v (k ls t sh R (stm M a (pick r 1 : Nat) v) cb sb))
    | _ => pI s fun v t => pR t fun a t => ook sh (pick r 0) a (k ls t sh R (stm M a (pick r 1 : Nat) v) cb sb)
  | .iaload => pI s fun j t => match t with
    | (2, a) :: t => aok sh 100 a j (k ls (vi (M a j) :: t) sh R M cb sb)
    | (4, x) :: t => x = 0 ∧ 0 ≤ j ∧ j < X.1 ∧ k ls (vi (X.2 j) :: t) sh R M cb sb
    | _ => False
  | .laload => pI s fun j t => pR t fun a t => aok sh 101 a j (k ls (vl (M a j) :: t) sh R M cb sb)
  | .baload => pI s fun j t => pR t fun a t => aok sh (pick r 0) a j (k ls (vi (M a j) :: t) sh R M cb sb)
  | .aaload => pI s fun j t => pR t fun a t => aok sh (pick r 0) a j (k ls (vr (R a j) :: t) sh R M cb sb)
  | .iastore => pI s fun v t => pI t fun j t => pR t fun a t => aok sh 100 a j (k ls t sh R (stm M a j v) cb sb)
  | .lastore => pL s fun v t => pI t fun j t => pR t fun a t => aok sh 101 a j (k ls t sh R (stm M a j v) cb sb)
  | .bastore => pI s fun v t => pI t fun j t => pR t fun a t => aok sh (pick r 0) a j (match pick r 0 with
    | 103 => bq v (k ls t sh R (stm M a j v) cb sb)
    | _ => k ls t sh R (stm M a j (w8 v)) cb sb)
  | .aastore => pR s fun v t => pI t fun j t => pR t fun a t => aok sh 104 a j (ook sh 8 v (k ls t sh (stm R a j v) M cb sb))
  | .arraylength => match s with
    | (2, a) :: t => bud (Nat.ble 100 (shk sh a).1 && Nat.ble (shk sh a).1 105 && Nat.ble (shk sh a).2 100000) (k ls (vi (Int.ofNat (shk sh a).2) :: t) sh R M cb sb)
    | (4, x) :: t => x = 0 ∧ 0 ≤ X.1 ∧ k ls (vi X.1 :: t) sh R M cb sb
    | _ => False
  | .new _ => bud (Nat.ble 1 cb && Nat.ble (pick r 1) sb) (k ls (vr (sh.length : Int) :: s) (newk (pick r 0) 0 sh R M).1 (newk (pick r 0) 0 sh R M).2.1 (newk (pick r 0) 0 sh R M).2.2 (cb - 1) (sb - pick r 1))
  | .newarray _ => pI s fun n t => 0 ≤ n ∧ bud (Nat.ble n.toNat 100000 && Nat.ble 1 cb && Nat.ble n.toNat sb) (k ls (vr (sh.length : Int) :: t) (newk (pick r 0) n.toNat sh R M).1 (newk (pick r 0) n.toNat sh R M).2.1 (newk (pick r 0) n.toNat sh R M).2.2 (cb - 1) (sb - n.toNat))
  | .anewarray _ => pI s fun n t => 0 ≤ n ∧ bud (Nat.ble n.toNat 100000 && Nat.ble 1 cb && Nat.ble n.toNat sb) (k ls (vr (sh.length : Int) :: t) (newk 104 n.toNat sh R M).1 (newk 104 n.toNat sh R M).2.1 (newk 104 n.toNat sh R M).2.2 (cb - 1) (sb - n.toNat))
  | .multianewarray _ _ => pI s fun n t => pI t fun N t => 0 ≤ n ∧ 0 ≤ N ∧ bud (Nat.ble n.toNat 100000 && Nat.ble N.toNat 100000 && Nat.ble (1 + N.toNat) cb && Nat.ble (N.toNat + N.toNat * n.toNat) sb) (k ls (vr (sh.length : Int) :: t) (new2 N.toNat n.toNat sh R M).1 (new2 N.toNat n.toNat sh R M).2.1 (new2 N.toNat n.toNat sh R M).2.2 (cb - (1 + N.toNat)) (sb - (N.toNat + N.toNat * n.toNat)))
  | .ldc _ => match r with
    | [v, _] => k ls (vi (Int.ofNat v) :: s) sh R M cb sb
    | [v, _, _] => k ls (ve (Int.ofNat v) :: s) sh R M cb sb
    | _ => False
  | .ldc_w _ => k ls (vi (Int.ofNat (pick r 0)) :: s) sh R M cb sb
  | .ldc2_w _ => k ls (vl (Int.ofNat (pick r 0)) :: s) sh R M cb sb
  | .invokestatic _ => callp C (pick r 0) r ls s sh R M cb sb k
  | .invokevirtual _ => callp C (pick r 0) r ls s sh R M cb sb k
  | .invokespecial _ => callp C (pick r 0) r ls s sh R M cb sb k
  | _ => False
/-- what is live stays known at a cut -/
def msk : List Nat → List AV → List AV
  | 0 :: m, _ :: l => vn :: msk m l
  | _ :: m, v :: l => v :: msk m l
  | _, _ => []
def cutAt (cuts : List (Nat × List Nat)) (i : Nat) : Option (List Nat) := match cuts with
  | [] => none
  | (j, m) :: t => match Nat.beq j i with
    | true => some m
    | false => cutAt t i
/-- the walk: at most n instructions a path; at a cut (but the first) it is G's business -/
def gx_wp (C : CLL) (X : Int × (Int → Int)) (G : Nat → NXT) (Q : RES) (cuts : List (Nat × List Nat)) (code : List INS) : Nat → List INS → List AV → List AV → SHP → MEM → MEM → Nat → Nat → Prop
  | 0, _, _, _, _, _, _, _, _ => False
  | _ + 1, [], _, _, _, _, _, _, _ => False
  | n + 1, (_, _, i, _, r) :: rest, ls, s, sh, R, M, cb, sb => gx_stp C X i r ls s sh R M cb sb
      (fun ls s sh R M cb sb => match rest with
        | [] => False
        | (j, _) :: _ => match cutAt cuts j with
          | some m => G j (msk m ls) s sh R M cb sb
          | none => gx_wp C X G Q cuts code n rest ls s sh R M cb sb)
      (fun t ls s sh R M cb sb => match cutAt cuts t with
        | some m => G t (msk m ls) s sh R M cb sb
        | none => gx_wp C X G Q cuts code n (code.drop t) ls s sh R M cb sb)
      Q
end
section
/-! THE PLAIN MACHINE IS THE MACHINE: what heap the numbers are, what a frame; an instruction, a walk, a method, a call. -/
def tagT : FieldType → Nat
  | .long => 1
  | .object _ => 2
  | .array _ => 2
  | _ => 0
def tyF (k : Nat) : Nat → FieldType := match k with
  | 0 => tyX0
  | 1 => tyX1
  | 2 => tyX2
  | 3 => tyX3
  | 4 => tyX4
  | 5 => tyX5
  | 6 => tyX6
  | 7 => tyX7
  | 8 => tyX8
  | 9 => tyX9
  | 10 => tyX10
  | 11 => tyX11
  | _ => tyX12
def nF (k : Nat) : Nat := match vwCl[k]? with
  | some q => q.2.2
  | none => 0
def ftag (k j : Nat) : Nat := match k with
  | 100 => 0
  | 101 => 1
  | 102 => 0
  | 103 => 0
  | 104 => 2
  | 105 => 2
  | k => tagT (tyF k j)
def rngv (t : Nat) (x : Int) : Prop := match t with
  | 0 => -2147483648 ≤ x ∧ x < 2147483648
  | 1 => -9223372036854775808 ≤ x ∧ x < 9223372036854775808
  | 2 => -1 ≤ x
  | _ => True
def rv (B : Nat) (x : Int) : Value := if x < 0 then .null else .ref (B + x.toNat)
def ro (B : Nat) (x : Int) : Option Nat := if x < 0 then none else some (B + x.toNat)
theorem rv_ro (B : Nat) (x : Int) : rv B x = va_rf (ro B x) := by
  unfold rv ro va_rf
  by_cases h : x < 0 <;> simp [h]
def cv (B : Nat) (ex : Nat → Nat) (v : AV) : Value := match v.1 with
  | 0 => .int (Int32.ofInt v.2)
  | 1 => .long (Int64.ofInt v.2)
  | 2 => rv B v.2
  | 4 => .ref (ex v.2.toNat)
  | _ => .null
def fv (B t : Nat) (r m : Int) : Value := match t with
  | 1 => .long (Int64.ofInt m)
  | 2 => rv B r
  | _ => .int (Int32.ofInt m)
def fvs (B k : Nat) (Ra Ma : Int → Int) : List Value := (List.range (nF k)).map (fun j => fv B (ftag k j) (Ra j) (Ma j))
def el (B : Nat) (cA : Nat → ClassId) (k n : Nat) (Ra Ma : Int → Int) : va_E := match k with
  | 100 => .inl (cA 0, n, .inl (fun j => Int32.ofInt (Ma j)))
  | 101 => .inl (cA 1, n, .inr (.inl (fun j => Int64.ofInt (Ma j))))
  | 102 => .inl (cA 2, n, .inl (fun j => Int32.ofInt (Ma j)))
  | 103 => .inl (cA 3, n, .inl (fun j => Int32.ofInt (Ma j)))
  | 104 => .inl (cA 4, n, .inr (.inr (.inr (.inr (fun j => ro B (Ra j))))))
  | 105 => .inl (cA 5, n, .inr (.inr (.inr (.inr (fun j => ro B (Ra j))))))
  | k => .inr (k, fvs B k Ra Ma)
def TYS (cA : Nat → ClassId) : List (ClassId × FieldType) := [(cA 0, .int), (cA 1, .long), (cA 2, .byte), (cA 3, .boolean), (cA 4, .object "GeeseSums$Sky"), (cA 5, .array .int)]
def sk (sh : SHP) (a : Nat) : Nat × Nat := sh.getD a (999, 0)
def wo (B : Nat) (cA : Nat → ClassId) (sh : SHP) (R M : MEM) : va_W := (List.range sh.length).map (fun (a : Nat) => (B + a, el B cA (sk sh a).1 (sk sh a).2 (R a) (M a)))
theorem wo_len {B : Nat} {cA : Nat → ClassId} {sh : SHP} {R M : MEM} : (wo B cA sh R M).length = sh.length := by simp [wo]
theorem wo_get {B : Nat} {cA : Nat → ClassId} {sh : SHP} {R M : MEM} {a : Nat} (h : a < sh.length) : (wo B cA sh R M)[a]? = some (B + a, el B cA (sk sh a).1 (sk sh a).2 (R a) (M a)) := by
  unfold wo
  rw [List.getElem?_map, List.getElem?_range h]
  rfl
theorem wo_inv {B : Nat} {cA : Nat → ClassId} {sh : SHP} {R M : MEM} {a : Nat} {q : Nat × va_E} (h : (wo B cA sh R M)[a]? = some q) : a < sh.length ∧ q = (B + a, el B cA (sk sh a).1 (sk sh a).2 (R a) (M a)) := by
  have hl := (List.getElem?_eq_some_iff.mp h).1
  rw [wo_len] at hl
  rw [wo_get hl] at h
  exact ⟨hl, (Option.some.inj h).symm⟩
def Bq (B : Nat) : Nat → Prop := fun q => B ≤ q
theorem wo_D {B : Nat} {cA : Nat → ClassId} {sh : SHP} {R M : MEM} : va_D (Bq B) (wo B cA sh R M) := by
  refine ⟨fun i j p q hi hj h => ?_, fun k q hk => ?_⟩
  · obtain ⟨-, rfl⟩ := wo_inv hi
    obtain ⟨-, rfl⟩ := wo_inv hj
    dsimp only at h
    omega
  · obtain ⟨-, rfl⟩ := wo_inv hk
    exact Nat.le_add_right _ _
theorem sk_lt {sh : SHP} {a : Nat} (h : (sk sh a).1 ≠ 999) : a < sh.length := by
  rcases Nat.lt_or_ge a sh.length with q | q
  · exact q
  · exfalso
    apply h
    unfold sk
    rw [List.getD_eq_getElem?_getD, List.getElem?_eq_none q]
    rfl
/-- a cell's picture changed at one place of the list -/
theorem wo_set {B : Nat} {cA : Nat → ClassId} {sh : SHP} {R M R' M' : MEM} {a : Nat} {e : va_E} (ha : a < sh.length) (he : e = el B cA (sk sh a).1 (sk sh a).2 (R' a) (M' a)) (hR : ∀ q : Nat, q ≠ a → R' q = R q) (hM : ∀ q : Nat, q ≠ a → M' q = M q) :
    (wo B cA sh R M).set a (B + a, e) = wo B cA sh R' M' := by
  apply List.ext_getElem?
  intro i
  by_cases hi : i = a
  · subst hi
    rw [List.getElem?_set_self (by rw [wo_len]; exact ha), wo_get ha, he]
  · rw [List.getElem?_set_ne (Ne.symm hi)]
    by_cases hl : i < sh.length
    · rw [wo_get hl, wo_get hl, hR i hi, hM i hi]
    · rw [List.getElem?_eq_none (by rw [wo_len]; omega), List.getElem?_eq_none (by rw [wo_len]; omega)]
theorem sk_app_lt {sh : SHP} {a : Nat} {x : List (Nat × Nat)} (h : a < sh.length) : sk (sh ++ x) a = sk sh a := by
  unfold sk
  rw [List.getD_eq_getElem?_getD, List.getD_eq_getElem?_getD, List.getElem?_append_left h]
theorem sk_app_at {sh : SHP} {x : Nat × Nat} : sk (sh ++ [x]) sh.length = x := by
  unfold sk
  rw [List.getD_eq_getElem?_getD, List.getElem?_append_right (Nat.le_refl _), Nat.sub_self]
  rfl
theorem wo_push {B : Nat} {cA : Nat → ClassId} {sh : SHP} {R M R' M' : MEM} {k n : Nat} (hR : ∀ q : Nat, q < sh.length → R' q = R q) (hM : ∀ q : Nat, q < sh.length → M' q = M q) :
    wo B cA (sh ++ [(k, n)]) R' M' = wo B cA sh R M ++ [(B + sh.length, el B cA k n (R' sh.length) (M' sh.length))] := by
  apply List.ext_getElem?
  intro i
  rcases Nat.lt_trichotomy i sh.length with h | h | h
  · rw [wo_get (by simp; omega), List.getElem?_append_left (by rw [wo_len]; exact h), wo_get h, sk_app_lt h, hR i h, hM i h]
  · subst h
    rw [wo_get (by simp), List.getElem?_append_right (by rw [wo_len]; exact Nat.le_refl _), wo_len, Nat.sub_self, sk_app_at]
    rfl
  · rw [List.getElem?_eq_none (by rw [wo_len]; simp; omega), List.getElem?_eq_none (by simp [wo_len]; omega)]
/-- every number within its type -/
def RN (sh : SHP) (R M : MEM) : Prop := ∀ a j : Nat, a < sh.length → rngv (ftag (sk sh a).1 j) (match ftag (sk sh a).1 j with | 2 => R a j | _ => M a j)
theorem w32_rng (x : Int) : rngv 0 (w32 x) := ⟨Int32.le_toInt _, Int32.toInt_lt _⟩
theorem w64_rng (x : Int) : rngv 1 (w64 x) := ⟨Int64.le_toInt _, Int64.toInt_lt _⟩
theorem i32_rng (x : Int32) : rngv 0 x.toInt := ⟨Int32.le_toInt _, Int32.toInt_lt _⟩
theorem i64_rng (x : Int64) : rngv 1 x.toInt := ⟨Int64.le_toInt _, Int64.toInt_lt _⟩
theorem oi32 (x : Int32) : Int32.ofInt x.toInt = x := Int32.ofInt_toInt x
theorem oi64 (x : Int64) : Int64.ofInt x.toInt = x := Int64.ofInt_toInt x
theorem ti32 {x : Int} (h : rngv 0 x) : (Int32.ofInt x).toInt = x := Int32.toInt_ofInt_of_le h.1 h.2
theorem ti64 {x : Int} (h : rngv 1 x) : (Int64.ofInt x).toInt = x := Int64.toInt_ofInt_of_le h.1 h.2
theorem lt32 {x y : Int} (hx : rngv 0 x) (hy : rngv 0 y) : (Int32.ofInt x < Int32.ofInt y) ↔ x < y := by
  rw [Int32.lt_iff_toInt_lt, ti32 hx, ti32 hy]
theorem eq32 {x y : Int} (hx : rngv 0 x) (hy : rngv 0 y) : (Int32.ofInt x = Int32.ofInt y) ↔ x = y := by
  constructor
  · intro h
    have := congrArg Int32.toInt h
    rwa [ti32 hx, ti32 hy] at this
  · intro h; rw [h]
theorem ofw32 (x : Int) : Int32.ofInt (w32 x) = Int32.ofInt x := oi32 _
theorem ofw64 (x : Int) : Int64.ofInt (w64 x) = Int64.ofInt x := oi64 _
theorem o_add (x y : Int) : Int32.ofInt x + Int32.ofInt y = Int32.ofInt (iadd x y) := by unfold iadd; rw [ofw32, Int32.ofInt_add]
theorem o_sub (x y : Int) : Int32.ofInt x - Int32.ofInt y = Int32.ofInt (isub x y) := by unfold isub; rw [ofw32, Int32.ofInt_sub]
theorem o_mul (x y : Int) : Int32.ofInt x * Int32.ofInt y = Int32.ofInt (imul x y) := by unfold imul; rw [ofw32, Int32.ofInt_mul]
theorem o_ladd (x y : Int) : Int64.ofInt x + Int64.ofInt y = Int64.ofInt (ladd x y) := by unfold ladd; rw [ofw64, Int64.ofInt_add]
theorem o_lmul (x y : Int) : Int64.ofInt x * Int64.ofInt y = Int64.ofInt (lmul x y) := by unfold lmul; rw [ofw64, Int64.ofInt_mul]
theorem o_z : Int32.ofInt 0 = 0 := rfl
theorem clamp32 {x : Int} (hx : rngv 0 x) (h : 0 ≤ x) : (Int32.ofInt x).toNatClampNeg = x.toNat := by
  show ((Int32.ofInt x).toInt).toNat = x.toNat
  rw [ti32 hx]
theorem in32 {x : Int} {n : Nat} (hx : rngv 0 x) (h0 : 0 ≤ x) (h1 : x < (n : Int)) : vp_in (Int32.ofInt x) n := by
  intro h
  rcases h with h | h
  · rw [← o_z, lt32 hx ⟨by omega, by omega⟩] at h
    omega
  · rw [clamp32 hx h0] at h
    omega
end
section
/-! what a frame is, and each instruction -/
theorem pI_inv {s : List AV} {f : Int → List AV → Prop} (h : pI s f) : ∃ x t, s = (0, x) :: t ∧ f x t := by
  match s, h with
  | (0, x) :: t, h => exact ⟨x, t, rfl, h⟩
theorem pL_inv {s : List AV} {f : Int → List AV → Prop} (h : pL s f) : ∃ x t, s = (1, x) :: t ∧ f x t := by
  match s, h with
  | (1, x) :: t, h => exact ⟨x, t, rfl, h⟩
theorem pR_inv {s : List AV} {f : Int → List AV → Prop} (h : pR s f) : ∃ x t, s = (2, x) :: t ∧ f x t := by
  match s, h with
  | (2, x) :: t, h => exact ⟨x, t, rfl, h⟩
theorem pE_inv {s : List AV} {f : Int → List AV → Prop} (h : pE s f) : ∃ x t, s = (4, x) :: t ∧ f x t := by
  match s, h with
  | (4, x) :: t, h => exact ⟨x, t, rfl, h⟩
theorem pII_inv {s : List AV} {f : Int → Int → List AV → Prop} (h : pII s f) : ∃ x y t, s = (0, y) :: (0, x) :: t ∧ f x y t := by
  obtain ⟨y, t, e1, h1⟩ := pI_inv h
  obtain ⟨x, t2, e2, h2⟩ := pI_inv h1
  exact ⟨x, y, t2, by rw [e1, e2], h2⟩
theorem pLL_inv {s : List AV} {f : Int → Int → List AV → Prop} (h : pLL s f) : ∃ x y t, s = (1, y) :: (1, x) :: t ∧ f x y t := by
  obtain ⟨y, t, e1, h1⟩ := pL_inv h
  obtain ⟨x, t2, e2, h2⟩ := pL_inv h1
  exact ⟨x, y, t2, by rw [e1, e2], h2⟩
theorem gI_inv {v : AV} {f : Int → Prop} (h : gI v f) : ∃ x, v = (0, x) ∧ f x := by
  match v, h with
  | (0, x), h => exact ⟨x, rfl, h⟩
theorem gL_inv {v : AV} {f : Int → Prop} (h : gL v f) : ∃ x, v = (1, x) ∧ f x := by
  match v, h with
  | (1, x), h => exact ⟨x, rfl, h⟩
theorem gR_inv {v : AV} {f : AV → Prop} (h : gR v f) : ∃ x, (v = (2, x) ∧ f (2, x)) ∨ (v = (4, x) ∧ f (4, x)) := by
  match v, h with
  | (2, x), h => exact ⟨x, Or.inl ⟨rfl, h⟩⟩
  | (4, x), h => exact ⟨x, Or.inr ⟨rfl, h⟩⟩
theorem bud_inv {b : Bool} {P : Prop} (h : bud b P) : b = true ∧ P := by
  cases b with
  | false => exact h.elim
  | true => exact ⟨rfl, h⟩
theorem ook_inv {sh : SHP} {ci : Nat} {a : Int} {P : Prop} (h : ook sh ci a P) : (shk sh a).1 = ci ∧ P := by
  unfold ook at h
  cases hq : Nat.beq (shk sh a).1 ci with
  | false => rw [hq] at h; exact h.elim
  | true => rw [hq] at h; exact ⟨Nat.eq_of_beq_eq_true hq, h⟩
theorem aok_inv {sh : SHP} {kd : Nat} {a i : Int} {P : Prop} (h : aok sh kd a i P) : (shk sh a).1 = kd ∧ 0 ≤ i ∧ i < ((shk sh a).2 : Int) ∧ P := by
  unfold aok at h
  cases hq : Nat.beq (shk sh a).1 kd with
  | false => rw [hq] at h; exact h.elim
  | true => rw [hq] at h; exact ⟨Nat.eq_of_beq_eq_true hq, h⟩
theorem bq_inv {x : Int} {P : Prop} (h : bq x P) : (x = 0 ∨ x = 1) ∧ P := by
  unfold bq at h
  split at h
  · exact ⟨Or.inl rfl, h⟩
  · exact ⟨Or.inr rfl, h⟩
  · exact h
theorem shk_inv {sh : SHP} {a : Int} (h : (shk sh a).1 ≠ 999) : ∃ n : Nat, a = (n : Int) ∧ n < sh.length ∧ shk sh a = sk sh n := by
  cases a with
  | ofNat n => exact ⟨n, rfl, sk_lt h, rfl⟩
  | negSucc n => exact absurd rfl h
theorem cv_cat {B : Nat} {ex : Nat → Nat} (a : AV) (h : a.1 ≠ 1) : ((cv B ex a).category == 2) = false := by
  unfold cv
  split
  · rfl
  · rename_i h1
    exact absurd h1 h
  · unfold rv
    split <;> rfl
  · rfl
  · rfl
/-! locals -/
def lo (B : Nat) (ex : Nat → Nat) : Nat → List AV → List (Nat × Value)
  | _, [] => []
  | i, v :: t => (match v.1 with
    | 3 => []
    | _ => [(i, cv B ex v)]) ++ lo B ex (i + 1) t
theorem lo_mem {B : Nat} {ex : Nat → Nat} : ∀ (ls : List AV) (i : Nat) (q : Nat × Value), q ∈ lo B ex i ls ↔ ∃ (j : Nat) (v : AV), ls[j]? = some v ∧ v.1 ≠ 3 ∧ q = (i + j, cv B ex v)
  | [], i, q => by simp [lo]
  | v :: t, i, q => by
    unfold lo
    rw [List.mem_append, lo_mem t (i + 1) q]
    constructor
    · rintro (h | ⟨j, w, h1, h2, rfl⟩)
      · by_cases hv : v.1 = 3
        · rw [hv] at h
          exact absurd h List.not_mem_nil
        · refine ⟨0, v, rfl, hv, ?_⟩
          split at h
          · rename_i h3
            exact absurd h3 hv
          · exact List.mem_singleton.mp h
      · exact ⟨j + 1, w, h1, h2, by rw [Nat.add_assoc, Nat.add_comm 1 j]⟩
    · rintro ⟨j, w, h1, h2, rfl⟩
      cases j with
      | zero =>
        left
        have : v = w := Option.some.inj h1
        subst this
        split
        · rename_i h3
          exact absurd h3 h2
        · exact List.mem_singleton.mpr rfl
      | succ j => exact Or.inr ⟨j, w, h1, h2, by rw [Nat.add_assoc, Nat.add_comm 1 j]⟩
theorem lgt_get : ∀ (ls : List AV) (i : Nat), (lgt ls i).1 ≠ 3 → ls[i]? = some (lgt ls i)
  | [], i, h => absurd rfl h
  | v :: _, 0, _ => rfl
  | _ :: t, i + 1, h => lgt_get t i h
theorem lst1_get : ∀ (ls : List AV) (i : Nat) (v : AV) (j : Nat), i < ls.length → (lst1 ls i v)[j]? = if j = i then some v else if j + 1 = i then (ls[j]?).map (fun a => if a.1 = 1 then vn else a) else ls[j]?
  | [], i, _, _, h => absurd h (Nat.not_lt_zero i)
  | a :: t, 0, v, j, _ => by
    cases j with
    | zero => rfl
    | succ j => simp [lst1]
  | a :: t, 1, v, j, h => by
    have hl : 0 < t.length := by simpa using h
    cases j with
    | zero =>
      simp only [lst1, List.getElem?_cons_zero]
      obtain ⟨ta, xa⟩ := a
      match ta with
      | 0 => simp
      | 1 => simp
      | ta + 2 => simp
    | succ j =>
      simp only [lst1, List.getElem?_cons_succ]
      rw [lst1_get t 0 v j hl]
      by_cases hj : j = 0
      · simp [hj]
      · simp [hj]
  | a :: t, i + 2, v, j, h => by
    have hl : i + 1 < t.length := by simp at h; omega
    cases j with
    | zero => simp [lst1]
    | succ j =>
      simp only [lst1, List.getElem?_cons_succ]
      rw [lst1_get t (i + 1) v j hl]
      simp
theorem lst1_len : ∀ (ls : List AV) (i : Nat) (v : AV), (lst1 ls i v).length = ls.length
  | [], _, _ => rfl
  | _ :: _, 0, _ => rfl
  | a :: t, 1, v => by simp [lst1, lst1_len t 0 v]
  | a :: t, i + 2, v => by simp [lst1, lst1_len t (i + 1) v]
theorem lst2_get : ∀ (ls : List AV) (i : Nat) (v : AV) (j : Nat), i + 1 < ls.length → (lst2 ls i v)[j]? = if j = i then some v else if j = i + 1 then some vn else if j + 1 = i then (ls[j]?).map (fun a => if a.1 = 1 then vn else a) else ls[j]?
  | [], i, _, _, h => absurd h (Nat.not_lt_zero _)
  | [_], i, _, _, h => by simp at h
  | a :: b :: t, 0, v, j, _ => by
    match j with
    | 0 => rfl
    | 1 => rfl
    | j + 2 => simp [lst2]
  | a :: b :: t, 1, v, j, h => by
    have hl : 0 + 1 < (b :: t).length := by simpa using h
    cases j with
    | zero =>
      simp only [lst2, List.getElem?_cons_zero]
      obtain ⟨ta, xa⟩ := a
      match ta with
      | 0 => simp
      | 1 => simp
      | ta + 2 => simp
    | succ j =>
      simp only [lst2, List.getElem?_cons_succ]
      rw [lst2_get (b :: t) 0 v j hl]
      by_cases hj : j = 0
      · simp [hj]
      · by_cases hj1 : j = 1
        · simp [hj1]
        · simp [hj, hj1]
  | a :: b :: t, i + 2, v, j, h => by
    have hl : i + 1 + 1 < (b :: t).length := by simp at h ⊢; omega
    cases j with
    | zero => simp [lst2]
    | succ j =>
      simp only [lst2, List.getElem?_cons_succ]
      rw [lst2_get (b :: t) (i + 1) v j hl]
      simp
theorem lst2_len : ∀ (ls : List AV) (i : Nat) (v : AV), i + 1 < ls.length → (lst2 ls i v).length = ls.length
  | [], _, _, h => absurd h (Nat.not_lt_zero _)
  | [_], i, _, h => by simp at h
  | _ :: _ :: _, 0, _, _ => rfl
  | a :: b :: t, 1, v, h => by simp [lst2, lst2_len (b :: t) 0 v (by simp at h ⊢; omega)]
  | a :: b :: t, i + 2, v, h => by simp [lst2, lst2_len (b :: t) (i + 1) v (by simp at h ⊢; omega)]
def LR (B : Nat) (ex : Nat → Nat) (nL : Nat) (lsA : Array Slot) (ls : List AV) : Prop := lv_has lsA nL (lo B ex 0 ls) ∧ ls.length = nL ∧ ∀ v ∈ ls, rngv v.1 v.2
def SQ (s : List AV) : Prop := ∀ v ∈ s, rngv v.1 v.2
theorem SQ.hd {v : AV} {s : List AV} (h : SQ (v :: s)) : rngv v.1 v.2 := h v List.mem_cons_self
theorem SQ.tl {v : AV} {s : List AV} (h : SQ (v :: s)) : SQ s := fun w hw => h w (List.mem_cons_of_mem _ hw)
theorem SQ.cons {v : AV} {s : List AV} (h1 : rngv v.1 v.2) (h : SQ s) : SQ (v :: s) := fun w hw => by
  rcases List.mem_cons.mp hw with rfl | hw
  · exact h1
  · exact h w hw
theorem lv_has_of {lsA : Array Slot} {nL : Nat} {l l' : List (Nat × Value)} (h : lv_has lsA nL l) (hs : ∀ q ∈ l', q ∈ l) : lv_has lsA nL l' := ⟨h.1, h.2.1, fun q hq => h.2.2 q (hs q hq)⟩
theorem LR.get {B : Nat} {ex : Nat → Nat} {nL : Nat} {lsA : Array Slot} {ls : List AV} (h : LR B ex nL lsA ls) {i : Nat} (hi : (lgt ls i).1 ≠ 3) : lsA[i]? = some (.val (cv B ex (lgt ls i))) ∧ rngv (lgt ls i).1 (lgt ls i).2 ∧ i < nL := by
  have hg := lgt_get ls i hi
  refine ⟨h.1.2.2 (i, cv B ex (lgt ls i)) ((lo_mem ls 0 _).mpr ⟨i, _, hg, hi, by rw [Nat.zero_add]⟩), h.2.2 _ (List.mem_of_getElem? hg), ?_⟩
  rw [← h.2.1]
  exact (List.getElem?_eq_some_iff.mp hg).1
theorem LR.st1 {B : Nat} {ex : Nat → Nat} {nL : Nat} {ls : List AV} {i : Nat} {v : AV} {lsA' : Array Slot} (hlen : ls.length = nL) (hrg : ∀ w ∈ ls, rngv w.1 w.2) (hi : i < nL) (hv : rngv v.1 v.2)
    (h : lv_has lsA' nL ((i, cv B ex v) :: (lo B ex 0 ls).filter (fun q => !(q.1 == i) && !(q.1 + 1 == i && q.2.category == 2)))) : LR B ex nL lsA' (lst1 ls i v) := by
  have hi' : i < ls.length := by rw [hlen]; exact hi
  refine ⟨lv_has_of h ?_, by rw [lst1_len, hlen], ?_⟩
  · intro q hq
    obtain ⟨j, w, h1, h2, rfl⟩ := (lo_mem _ 0 q).mp hq
    rw [Nat.zero_add]
    rw [lst1_get ls i v j hi'] at h1
    by_cases hj : j = i
    · subst hj
      rw [if_pos rfl] at h1
      cases h1
      exact List.mem_cons_self
    · rw [if_neg hj] at h1
      refine List.mem_cons_of_mem _ (List.mem_filter.mpr ⟨?_, ?_⟩)
      · by_cases hj1 : j + 1 = i
        · rw [if_pos hj1] at h1
          cases hx : ls[j]? with
          | none => rw [hx] at h1; cases h1
          | some a =>
            rw [hx, Option.map_some] at h1
            by_cases ha : a.1 = 1
            · rw [if_pos ha] at h1
              cases h1
              exact absurd rfl h2
            · rw [if_neg ha] at h1
              cases h1
              exact (lo_mem ls 0 _).mpr ⟨j, _, hx, h2, by rw [Nat.zero_add]⟩
        · rw [if_neg hj1] at h1
          exact (lo_mem ls 0 _).mpr ⟨j, _, h1, h2, by rw [Nat.zero_add]⟩
      · have e1 : (j == i) = false := by simpa using hj
        rw [e1]
        by_cases hj1 : j + 1 = i
        · rw [if_pos hj1] at h1
          cases hx : ls[j]? with
          | none => rw [hx] at h1; cases h1
          | some a =>
            rw [hx, Option.map_some] at h1
            by_cases ha : a.1 = 1
            · rw [if_pos ha] at h1
              cases h1
              exact absurd rfl h2
            · rw [if_neg ha] at h1
              cases h1
              rw [cv_cat _ ha]
              simp
        · have e2 : (j + 1 == i) = false := by simpa using hj1
          rw [e2]
          rfl
  · intro w hw
    obtain ⟨j, hj⟩ := List.getElem?_of_mem hw
    rw [lst1_get ls i v j hi'] at hj
    by_cases h1 : j = i
    · rw [if_pos h1] at hj
      cases hj
      exact hv
    · rw [if_neg h1] at hj
      by_cases h2 : j + 1 = i
      · rw [if_pos h2] at hj
        cases hx : ls[j]? with
        | none => rw [hx] at hj; cases hj
        | some a =>
          rw [hx, Option.map_some] at hj
          by_cases ha : a.1 = 1
          · rw [if_pos ha] at hj
            cases hj
            trivial
          · rw [if_neg ha] at hj
            cases hj
            exact hrg _ (List.mem_of_getElem? hx)
      · rw [if_neg h2] at hj
        exact hrg _ (List.mem_of_getElem? hj)
theorem LR.st2 {B : Nat} {ex : Nat → Nat} {nL : Nat} {ls : List AV} {i : Nat} {v : AV} {lsA' : Array Slot} (hlen : ls.length = nL) (hrg : ∀ w ∈ ls, rngv w.1 w.2) (hi : i + 1 < nL) (hv : rngv v.1 v.2)
    (h : lv_has lsA' nL ((i, cv B ex v) :: (lo B ex 0 ls).filter (fun q => !(q.1 == i) && (!(q.1 == i + 1) && !(q.1 + 1 == i && q.2.category == 2))))) : LR B ex nL lsA' (lst2 ls i v) := by
  have hi' : i + 1 < ls.length := by rw [hlen]; exact hi
  refine ⟨lv_has_of h ?_, by rw [lst2_len _ _ _ hi', hlen], ?_⟩
  · intro q hq
    obtain ⟨j, w, h1, h2, rfl⟩ := (lo_mem _ 0 q).mp hq
    rw [Nat.zero_add]
    rw [lst2_get ls i v j hi'] at h1
    by_cases hj : j = i
    · subst hj
      rw [if_pos rfl] at h1
      cases h1
      exact List.mem_cons_self
    · rw [if_neg hj] at h1
      by_cases hj2 : j = i + 1
      · rw [if_pos hj2] at h1
        cases h1
        exact absurd rfl h2
      rw [if_neg hj2] at h1
      refine List.mem_cons_of_mem _ (List.mem_filter.mpr ⟨?_, ?_⟩)
      · by_cases hj1 : j + 1 = i
        · rw [if_pos hj1] at h1
          cases hx : ls[j]? with
          | none => rw [hx] at h1; cases h1
          | some a =>
            rw [hx, Option.map_some] at h1
            by_cases ha : a.1 = 1
            · rw [if_pos ha] at h1
              cases h1
              exact absurd rfl h2
            · rw [if_neg ha] at h1
              cases h1
              exact (lo_mem ls 0 _).mpr ⟨j, _, hx, h2, by rw [Nat.zero_add]⟩
        · rw [if_neg hj1] at h1
          exact (lo_mem ls 0 _).mpr ⟨j, _, h1, h2, by rw [Nat.zero_add]⟩
      · have e1 : (j == i) = false := by simpa using hj
        have e3 : (j == i + 1) = false := by simpa using hj2
        rw [e1, e3]
        by_cases hj1 : j + 1 = i
        · rw [if_pos hj1] at h1
          cases hx : ls[j]? with
          | none => rw [hx] at h1; cases h1
          | some a =>
            rw [hx, Option.map_some] at h1
            by_cases ha : a.1 = 1
            · rw [if_pos ha] at h1
              cases h1
              exact absurd rfl h2
            · rw [if_neg ha] at h1
              cases h1
              rw [cv_cat _ ha]
              simp
        · have e2 : (j + 1 == i) = false := by simpa using hj1
          rw [e2]
          rfl
  · intro w hw
    obtain ⟨j, hj⟩ := List.getElem?_of_mem hw
    rw [lst2_get ls i v j hi'] at hj
    by_cases h1 : j = i
    · rw [if_pos h1] at hj
      cases hj
      exact hv
    · rw [if_neg h1] at hj
      by_cases h3 : j = i + 1
      · rw [if_pos h3] at hj
        cases hj
        trivial
      rw [if_neg h3] at hj
      by_cases h2 : j + 1 = i
      · rw [if_pos h2] at hj
        cases hx : ls[j]? with
        | none => rw [hx] at hj; cases hj
        | some a =>
          rw [hx, Option.map_some] at hj
          by_cases ha : a.1 = 1
          · rw [if_pos ha] at hj
            cases hj
            trivial
          · rw [if_neg ha] at hj
            cases hj
            exact hrg _ (List.mem_of_getElem? hx)
      · rw [if_neg h2] at hj
        exact hrg _ (List.mem_of_getElem? hj)
theorem msk_get : ∀ (m : List Nat) (ls : List AV), m.length = ls.length → ∀ (j : Nat) (v : AV), (msk m ls)[j]? = some v → v.1 ≠ 3 → ls[j]? = some v
  | [], [], _, j, v, h, _ => by simp [msk] at h
  | 0 :: m, a :: l, hl, j, v, h, hv => by
    cases j with
    | zero =>
      simp only [msk, List.getElem?_cons_zero] at h
      cases h
      exact absurd rfl hv
    | succ j => exact msk_get m l (by simpa using hl) j v (by simpa [msk] using h) hv
  | (n + 1) :: m, a :: l, hl, j, v, h, hv => by
    cases j with
    | zero => simpa [msk] using h
    | succ j => exact msk_get m l (by simpa using hl) j v (by simpa [msk] using h) hv
  | [], _ :: _, hl, _, _, _, _ => by simp at hl
  | _ :: _, [], hl, _, _, _, _ => by simp at hl
theorem msk_len : ∀ (m : List Nat) (ls : List AV), m.length = ls.length → (msk m ls).length = ls.length
  | [], [], _ => rfl
  | 0 :: m, a :: l, hl => by simp [msk, msk_len m l (by simpa using hl)]
  | (n + 1) :: m, a :: l, hl => by simp [msk, msk_len m l (by simpa using hl)]
  | [], _ :: _, hl => by simp at hl
  | _ :: _, [], hl => by simp at hl
theorem LR.msk {B : Nat} {ex : Nat → Nat} {nL : Nat} {lsA : Array Slot} {ls : List AV} (m : List Nat) (hm : m.length = nL) (h : LR B ex nL lsA ls) : LR B ex nL lsA (msk m ls) := by
  have hl : m.length = ls.length := by rw [hm, h.2.1]
  refine ⟨lv_has_of h.1 ?_, by rw [msk_len m ls hl, h.2.1], ?_⟩
  · intro q hq
    obtain ⟨j, v, h1, h2, rfl⟩ := (lo_mem _ 0 q).mp hq
    exact (lo_mem ls 0 _).mpr ⟨j, v, msk_get m ls hl j v h1 h2, h2, rfl⟩
  · intro v hv
    by_cases h3 : v.1 = 3
    · obtain ⟨t, x⟩ := v
      dsimp only at h3
      subst h3
      trivial
    · obtain ⟨j, hj⟩ := List.getElem?_of_mem hv
      exact h.2.2 v (List.mem_of_getElem? (msk_get m ls hl j v hj h3))
end
section
/-! each instruction: what the plain machine says of it is so of the machine -/
def HR (B : Nat) (cA : Nat → ClassId) (D : va_G) (s : State) (H : Heap) (locs : List Loc) (sh : SHP) (R M : MEM) : Prop := va_P D vwCl (wo B cA sh R M) H ∧ va_S (Bq B) s.heap H locs ∧ H.size = B + sh.length ∧ RN sh R M
def WG (p : Program) (l : Launch) (e : Env) (Rm : Room) (s : State) (mm : MethodId) (args : Array Value) (below : List Frame) (meth : Method) (c : Code) (Qw : State → Prop) (B : Nat) (cA : Nat → ClassId) (ex : Nat → Nat) (D : va_G) (nL mc ms : Nat) (pc : Nat) : NXT := fun ls st sh R M cb sb => ∀ (H : Heap) (locs : List Loc) (cells slots : Nat) (lsA : Array Slot), HR B cA D s H locs sh R M → LR B ex nL lsA ls → SQ st → cells + cb ≤ mc → slots + sb ≤ ms → W p l e Rm s mm args below meth c H locs cells slots Qw (F0 mm pc lsA (st.map (cv B ex)))
def TBg : List Cond := lw_tbl.filter goodWord
theorem map_cv_cons (B : Nat) (ex : Nat → Nat) (v : AV) (s : List AV) : (v :: s).map (cv B ex) = cv B ex v :: s.map (cv B ex) := rfl
theorem cats_sum (B : Nat) (ex : Nat → Nat) : ∀ s : List AV, ((s.map (cv B ex)).map fun v => v.category).sum ≤ cats s
  | [] => Nat.le_refl _
  | v :: s => by
    have ih := cats_sum B ex s
    have hv : (cv B ex v).category ≤ catv v := by
      by_cases h : v.1 = 1
      · unfold catv cv
        rw [h]
        exact Nat.le_refl _
      · have h1 := cv_cat (B := B) (ex := ex) v h
        have h2 : (cv B ex v).category = 1 := by
          rcases lv_cat (cv B ex v) with q | q
          · exact q
          · rw [q] at h1
            exact absurd h1 (by decide)
        rw [h2]
        unfold catv
        split <;> omega
    simp only [List.map_cons, List.sum_cons, cats]
    omega
theorem lt0_32 {x : Int} (hx : rngv 0 x) (h : 0 ≤ x) : ¬ Int32.ofInt x < 0 := by
  rw [← o_z, lt32 hx ⟨by omega, by omega⟩]
  omega
section
variable {p : Program} {l : Launch} {e : Env} {Rm : Room} {s : State} {mm : MethodId} {args : Array Value} {below : List Frame} {meth : Method} {c : Code} {Qw : State → Prop}
variable {B : Nat} {cA : Nat → ClassId} {ex : Nat → Nat} {D : va_G} {nL mc ms : Nat} {cc : ByteArray} {pc : Nat} {k : NXT} {ls st : List AV} {sh : SHP} {R M : MEM} {cb sb : Nat}
theorem sd_iconst (hx : p.tables.exec = Jvm.exec) (hb : c.code = cc) {n : Int} (hdg : decode cc pc = .ok (.iconst n, 1)) (hv : Int32.ofInt n = Int32.ofInt n) (hr : rngv 0 n) (hk : ∀ ls st sh R M cb sb, k ls st sh R M cb sb → WG p l e Rm s mm args below meth c Qw B cA ex D nL mc ms (pc + 1) ls st sh R M cb sb) (h : k ls (vi n :: st) sh R M cb sb) : WG p l e Rm s mm args below meth c Qw B cA ex D nL mc ms pc ls st sh R M cb sb := by
  intro H locs cells slots lsA hH hL hS h1 h2
  exact lv_iconst hx hb hdg hv (hk _ _ _ _ _ _ _ h H locs cells slots lsA hH hL (SQ.cons hr hS) h1 h2)
theorem sd_bipush (hx : p.tables.exec = Jvm.exec) (hb : c.code = cc) {n : Int} (hdg : decode cc pc = .ok (.bipush n, 2)) (hv : (Int8.ofInt n).toInt32 = Int32.ofInt n) (hr : rngv 0 n) (hk : ∀ ls st sh R M cb sb, k ls st sh R M cb sb → WG p l e Rm s mm args below meth c Qw B cA ex D nL mc ms (pc + 2) ls st sh R M cb sb) (h : k ls (vi n :: st) sh R M cb sb) : WG p l e Rm s mm args below meth c Qw B cA ex D nL mc ms pc ls st sh R M cb sb := by
  intro H locs cells slots lsA hH hL hS h1 h2
  exact lv_bipush hx hb hdg hv (hk _ _ _ _ _ _ _ h H locs cells slots lsA hH hL (SQ.cons hr hS) h1 h2)
theorem sd_sipush (hx : p.tables.exec = Jvm.exec) (hb : c.code = cc) {n : Int} (hdg : decode cc pc = .ok (.sipush n, 3)) (hv : (Int16.ofInt n).toInt32 = Int32.ofInt n) (hr : rngv 0 n) (hk : ∀ ls st sh R M cb sb, k ls st sh R M cb sb → WG p l e Rm s mm args below meth c Qw B cA ex D nL mc ms (pc + 3) ls st sh R M cb sb) (h : k ls (vi n :: st) sh R M cb sb) : WG p l e Rm s mm args below meth c Qw B cA ex D nL mc ms pc ls st sh R M cb sb := by
  intro H locs cells slots lsA hH hL hS h1 h2
  exact lv_sipush hx hb hdg hv (hk _ _ _ _ _ _ _ h H locs cells slots lsA hH hL (SQ.cons hr hS) h1 h2)
theorem sd_lconst (hx : p.tables.exec = Jvm.exec) (hb : c.code = cc) {n : Fin 2} (hdg : decode cc pc = .ok (.lconst n, 1)) (hk : ∀ ls st sh R M cb sb, k ls st sh R M cb sb → WG p l e Rm s mm args below meth c Qw B cA ex D nL mc ms (pc + 1) ls st sh R M cb sb) (h : k ls (vl (Int.ofNat n.val) :: st) sh R M cb sb) : WG p l e Rm s mm args below meth c Qw B cA ex D nL mc ms pc ls st sh R M cb sb := by
  intro H locs cells slots lsA hH hL hS h1 h2
  have hn : n.val < 2 := n.isLt
  refine lv_lconst (v := Int64.ofInt (Int.ofNat n.val)) hx hb hdg (by rfl) ?_
  exact hk _ _ _ _ _ _ _ h H locs cells slots lsA hH hL (SQ.cons (show rngv 1 ((n.val : Nat) : Int) from ⟨by omega, by omega⟩) hS) h1 h2
theorem sd_iload (hx : p.tables.exec = Jvm.exec) (hb : c.code = cc) {i : Nat} (hdg : decode cc pc = .ok (.iload i, 2)) (hk : ∀ ls st sh R M cb sb, k ls st sh R M cb sb → WG p l e Rm s mm args below meth c Qw B cA ex D nL mc ms (pc + 2) ls st sh R M cb sb) (h0 : gI (lgt ls i) fun x => k ls (vi x :: st) sh R M cb sb) : WG p l e Rm s mm args below meth c Qw B cA ex D nL mc ms pc ls st sh R M cb sb := by
  obtain ⟨x, hx1, h⟩ := gI_inv h0
  intro H locs cells slots lsA hH hL hS h1 h2
  obtain ⟨g1, g2, -⟩ := hL.get (i := i) (by rw [hx1]; simp)
  rw [hx1] at g1 g2
  exact lv_iload hx hb hdg g1 (hk _ _ _ _ _ _ _ h H locs cells slots lsA hH hL (SQ.cons g2 hS) h1 h2)
theorem sd_iload_n (hx : p.tables.exec = Jvm.exec) (hb : c.code = cc) {i : Fin 4} (hdg : decode cc pc = .ok (.iload_n i, 1)) (hk : ∀ ls st sh R M cb sb, k ls st sh R M cb sb → WG p l e Rm s mm args below meth c Qw B cA ex D nL mc ms (pc + 1) ls st sh R M cb sb) (h0 : gI (lgt ls i.val) fun x => k ls (vi x :: st) sh R M cb sb) : WG p l e Rm s mm args below meth c Qw B cA ex D nL mc ms pc ls st sh R M cb sb := by
  obtain ⟨x, hx1, h⟩ := gI_inv h0
  intro H locs cells slots lsA hH hL hS h1 h2
  obtain ⟨g1, g2, -⟩ := hL.get (i := i.val) (by rw [hx1]; simp)
  rw [hx1] at g1 g2
  exact lv_iload_n hx hb hdg rfl g1 (hk _ _ _ _ _ _ _ h H locs cells slots lsA hH hL (SQ.cons g2 hS) h1 h2)
theorem sd_lload (hx : p.tables.exec = Jvm.exec) (hb : c.code = cc) {i : Nat} (hdg : decode cc pc = .ok (.lload i, 2)) (hk : ∀ ls st sh R M cb sb, k ls st sh R M cb sb → WG p l e Rm s mm args below meth c Qw B cA ex D nL mc ms (pc + 2) ls st sh R M cb sb) (h0 : gL (lgt ls i) fun x => k ls (vl x :: st) sh R M cb sb) : WG p l e Rm s mm args below meth c Qw B cA ex D nL mc ms pc ls st sh R M cb sb := by
  obtain ⟨x, hx1, h⟩ := gL_inv h0
  intro H locs cells slots lsA hH hL hS h1 h2
  obtain ⟨g1, g2, -⟩ := hL.get (i := i) (by rw [hx1]; simp)
  rw [hx1] at g1 g2
  exact lv_lload hx hb hdg g1 (hk _ _ _ _ _ _ _ h H locs cells slots lsA hH hL (SQ.cons g2 hS) h1 h2)
theorem sd_lload_n (hx : p.tables.exec = Jvm.exec) (hb : c.code = cc) {i : Fin 4} (hdg : decode cc pc = .ok (.lload_n i, 1)) (hk : ∀ ls st sh R M cb sb, k ls st sh R M cb sb → WG p l e Rm s mm args below meth c Qw B cA ex D nL mc ms (pc + 1) ls st sh R M cb sb) (h0 : gL (lgt ls i.val) fun x => k ls (vl x :: st) sh R M cb sb) : WG p l e Rm s mm args below meth c Qw B cA ex D nL mc ms pc ls st sh R M cb sb := by
  obtain ⟨x, hx1, h⟩ := gL_inv h0
  intro H locs cells slots lsA hH hL hS h1 h2
  obtain ⟨g1, g2, -⟩ := hL.get (i := i.val) (by rw [hx1]; simp)
  rw [hx1] at g1 g2
  exact lv_lload_n hx hb hdg rfl g1 (hk _ _ _ _ _ _ _ h H locs cells slots lsA hH hL (SQ.cons g2 hS) h1 h2)
theorem sd_aload (hx : p.tables.exec = Jvm.exec) (hb : c.code = cc) {i : Nat} (hdg : decode cc pc = .ok (.aload i, 2)) (hk : ∀ ls st sh R M cb sb, k ls st sh R M cb sb → WG p l e Rm s mm args below meth c Qw B cA ex D nL mc ms (pc + 2) ls st sh R M cb sb) (h0 : gR (lgt ls i) fun v => k ls (v :: st) sh R M cb sb) : WG p l e Rm s mm args below meth c Qw B cA ex D nL mc ms pc ls st sh R M cb sb := by
  obtain ⟨x, ⟨hx1, h⟩ | ⟨hx1, h⟩⟩ := gR_inv h0
  · intro H locs cells slots lsA hH hL hS h1 h2
    obtain ⟨g1, g2, -⟩ := hL.get (i := i) (by rw [hx1]; simp)
    rw [hx1] at g1 g2
    have hh := hk _ _ _ _ _ _ _ h H locs cells slots lsA hH hL (SQ.cons g2 hS) h1 h2
    rw [map_cv_cons] at hh
    have e1 : cv B ex (2, x) = rv B x := rfl
    rw [e1] at hh g1
    unfold rv at hh g1
    by_cases hx0 : x < 0
    · rw [if_pos hx0] at hh g1
      exact lv_aloadN hx hb hdg g1 hh
    · rw [if_neg hx0] at hh g1
      exact lv_aload hx hb hdg g1 hh
  · intro H locs cells slots lsA hH hL hS h1 h2
    obtain ⟨g1, g2, -⟩ := hL.get (i := i) (by rw [hx1]; simp)
    rw [hx1] at g1 g2
    exact lv_aload hx hb hdg g1 (hk _ _ _ _ _ _ _ h H locs cells slots lsA hH hL (SQ.cons g2 hS) h1 h2)
theorem sd_aload_n (hx : p.tables.exec = Jvm.exec) (hb : c.code = cc) {i : Fin 4} (hdg : decode cc pc = .ok (.aload_n i, 1)) (hk : ∀ ls st sh R M cb sb, k ls st sh R M cb sb → WG p l e Rm s mm args below meth c Qw B cA ex D nL mc ms (pc + 1) ls st sh R M cb sb) (h0 : gR (lgt ls i.val) fun v => k ls (v :: st) sh R M cb sb) : WG p l e Rm s mm args below meth c Qw B cA ex D nL mc ms pc ls st sh R M cb sb := by
  obtain ⟨x, ⟨hx1, h⟩ | ⟨hx1, h⟩⟩ := gR_inv h0
  · intro H locs cells slots lsA hH hL hS h1 h2
    obtain ⟨g1, g2, -⟩ := hL.get (i := i.val) (by rw [hx1]; simp)
    rw [hx1] at g1 g2
    have hh := hk _ _ _ _ _ _ _ h H locs cells slots lsA hH hL (SQ.cons g2 hS) h1 h2
    rw [map_cv_cons] at hh
    have e1 : cv B ex (2, x) = rv B x := rfl
    rw [e1] at hh g1
    unfold rv at hh g1
    by_cases hx0 : x < 0
    · rw [if_pos hx0] at hh g1
      exact lv_aload_nN hx hb hdg rfl g1 hh
    · rw [if_neg hx0] at hh g1
      exact lv_aload_n hx hb hdg rfl g1 hh
  · intro H locs cells slots lsA hH hL hS h1 h2
    obtain ⟨g1, g2, -⟩ := hL.get (i := i.val) (by rw [hx1]; simp)
    rw [hx1] at g1 g2
    exact lv_aload_n hx hb hdg rfl g1 (hk _ _ _ _ _ _ _ h H locs cells slots lsA hH hL (SQ.cons g2 hS) h1 h2)
theorem sd_istore (hx : p.tables.exec = Jvm.exec) (hb : c.code = cc) {i : Nat} (hdg : decode cc pc = .ok (.istore i, 2)) (hi : i < nL) (hk : ∀ ls st sh R M cb sb, k ls st sh R M cb sb → WG p l e Rm s mm args below meth c Qw B cA ex D nL mc ms (pc + 2) ls st sh R M cb sb) (h0 : pI st fun x t => k (lst1 ls i (vi x)) t sh R M cb sb) : WG p l e Rm s mm args below meth c Qw B cA ex D nL mc ms pc ls st sh R M cb sb := by
  obtain ⟨x, t, rfl, h⟩ := pI_inv h0
  intro H locs cells slots lsA hH hL hS h1 h2
  refine lv_istore hx hb hdg hL.1 hi rfl (fun ls' hl' => ?_)
  exact hk _ _ _ _ _ _ _ h H locs cells slots ls' hH (LR.st1 hL.2.1 hL.2.2 hi hS.hd hl') hS.tl h1 h2
theorem sd_istore_n (hx : p.tables.exec = Jvm.exec) (hb : c.code = cc) {i : Fin 4} (hdg : decode cc pc = .ok (.istore_n i, 1)) (hi : i.val < nL) (hk : ∀ ls st sh R M cb sb, k ls st sh R M cb sb → WG p l e Rm s mm args below meth c Qw B cA ex D nL mc ms (pc + 1) ls st sh R M cb sb) (h0 : pI st fun x t => k (lst1 ls i.val (vi x)) t sh R M cb sb) : WG p l e Rm s mm args below meth c Qw B cA ex D nL mc ms pc ls st sh R M cb sb := by
  obtain ⟨x, t, rfl, h⟩ := pI_inv h0
  intro H locs cells slots lsA hH hL hS h1 h2
  refine lv_istore_n hx hb hdg rfl hL.1 hi rfl (fun ls' hl' => ?_)
  exact hk _ _ _ _ _ _ _ h H locs cells slots ls' hH (LR.st1 hL.2.1 hL.2.2 hi hS.hd hl') hS.tl h1 h2
theorem sd_lstore (hx : p.tables.exec = Jvm.exec) (hb : c.code = cc) {i : Nat} (hdg : decode cc pc = .ok (.lstore i, 2)) (hi : i + 1 < nL) (hk : ∀ ls st sh R M cb sb, k ls st sh R M cb sb → WG p l e Rm s mm args below meth c Qw B cA ex D nL mc ms (pc + 2) ls st sh R M cb sb) (h0 : pL st fun x t => k (lst2 ls i (vl x)) t sh R M cb sb) : WG p l e Rm s mm args below meth c Qw B cA ex D nL mc ms pc ls st sh R M cb sb := by
  obtain ⟨x, t, rfl, h⟩ := pL_inv h0
  intro H locs cells slots lsA hH hL hS h1 h2
  refine lv_lstore hx hb hdg hL.1 hi rfl (fun ls' hl' => ?_)
  exact hk _ _ _ _ _ _ _ h H locs cells slots ls' hH (LR.st2 hL.2.1 hL.2.2 hi hS.hd hl') hS.tl h1 h2
theorem sd_lstore_n (hx : p.tables.exec = Jvm.exec) (hb : c.code = cc) {i : Fin 4} (hdg : decode cc pc = .ok (.lstore_n i, 1)) (hi : i.val + 1 < nL) (hk : ∀ ls st sh R M cb sb, k ls st sh R M cb sb → WG p l e Rm s mm args below meth c Qw B cA ex D nL mc ms (pc + 1) ls st sh R M cb sb) (h0 : pL st fun x t => k (lst2 ls i.val (vl x)) t sh R M cb sb) : WG p l e Rm s mm args below meth c Qw B cA ex D nL mc ms pc ls st sh R M cb sb := by
  obtain ⟨x, t, rfl, h⟩ := pL_inv h0
  intro H locs cells slots lsA hH hL hS h1 h2
  refine lv_lstore_n hx hb hdg rfl hL.1 hi rfl (fun ls' hl' => ?_)
  exact hk _ _ _ _ _ _ _ h H locs cells slots ls' hH (LR.st2 hL.2.1 hL.2.2 hi hS.hd hl') hS.tl h1 h2
theorem sd_astore (hx : p.tables.exec = Jvm.exec) (hb : c.code = cc) {i : Nat} (hdg : decode cc pc = .ok (.astore i, 2)) (hi : i < nL) (hk : ∀ ls st sh R M cb sb, k ls st sh R M cb sb → WG p l e Rm s mm args below meth c Qw B cA ex D nL mc ms (pc + 2) ls st sh R M cb sb) (h0 : pR st fun x t => k (lst1 ls i (vr x)) t sh R M cb sb) : WG p l e Rm s mm args below meth c Qw B cA ex D nL mc ms pc ls st sh R M cb sb := by
  obtain ⟨x, t, rfl, h⟩ := pR_inv h0
  intro H locs cells slots lsA hH hL hS h1 h2
  have key : ∀ ls', lv_has ls' nL ((i, rv B x) :: (lo B ex 0 ls).filter (fun q => !(q.1 == i) && !(q.1 + 1 == i && q.2.category == 2))) → W p l e Rm s mm args below meth c H locs cells slots Qw (F0 mm (pc + 2) ls' (t.map (cv B ex))) := fun ls' hl' =>
    hk _ _ _ _ _ _ _ h H locs cells slots ls' hH (LR.st1 (v := vr x) hL.2.1 hL.2.2 hi hS.hd hl') hS.tl h1 h2
  rw [map_cv_cons]
  have e1 : cv B ex (2, x) = rv B x := rfl
  rw [e1]
  unfold rv at key ⊢
  by_cases hx0 : x < 0
  · rw [if_pos hx0] at key ⊢
    exact lv_astoreN hx hb hdg hL.1 hi rfl key
  · rw [if_neg hx0] at key ⊢
    exact lv_astore hx hb hdg hL.1 hi rfl key
theorem sd_astore_n (hx : p.tables.exec = Jvm.exec) (hb : c.code = cc) {i : Fin 4} (hdg : decode cc pc = .ok (.astore_n i, 1)) (hi : i.val < nL) (hk : ∀ ls st sh R M cb sb, k ls st sh R M cb sb → WG p l e Rm s mm args below meth c Qw B cA ex D nL mc ms (pc + 1) ls st sh R M cb sb) (h0 : pR st fun x t => k (lst1 ls i.val (vr x)) t sh R M cb sb) : WG p l e Rm s mm args below meth c Qw B cA ex D nL mc ms pc ls st sh R M cb sb := by
  obtain ⟨x, t, rfl, h⟩ := pR_inv h0
  intro H locs cells slots lsA hH hL hS h1 h2
  have key : ∀ ls', lv_has ls' nL ((i.val, rv B x) :: (lo B ex 0 ls).filter (fun q => !(q.1 == i.val) && !(q.1 + 1 == i.val && q.2.category == 2))) → W p l e Rm s mm args below meth c H locs cells slots Qw (F0 mm (pc + 1) ls' (t.map (cv B ex))) := fun ls' hl' =>
    hk _ _ _ _ _ _ _ h H locs cells slots ls' hH (LR.st1 (v := vr x) hL.2.1 hL.2.2 hi hS.hd hl') hS.tl h1 h2
  rw [map_cv_cons]
  have e1 : cv B ex (2, x) = rv B x := rfl
  rw [e1]
  unfold rv at key ⊢
  by_cases hx0 : x < 0
  · rw [if_pos hx0] at key ⊢
    exact lv_astore_nN hx hb hdg rfl hL.1 hi rfl key
  · rw [if_neg hx0] at key ⊢
    exact lv_astore_n hx hb hdg rfl hL.1 hi rfl key
theorem sd_iinc (hx : p.tables.exec = Jvm.exec) (hb : c.code = cc) {i : Nat} {d : Int} (hdg : decode cc pc = .ok (.iinc i d, 3)) (hk : ∀ ls st sh R M cb sb, k ls st sh R M cb sb → WG p l e Rm s mm args below meth c Qw B cA ex D nL mc ms (pc + 3) ls st sh R M cb sb) (h0 : gI (lgt ls i) fun x => k (lst1 ls i (vi (iadd x d))) st sh R M cb sb) : WG p l e Rm s mm args below meth c Qw B cA ex D nL mc ms pc ls st sh R M cb sb := by
  obtain ⟨x, hx1, h⟩ := gI_inv h0
  intro H locs cells slots lsA hH hL hS h1 h2
  obtain ⟨-, g2, g3⟩ := hL.get (i := i) (by rw [hx1]; simp)
  have hm : (i, Value.int (Int32.ofInt x)) ∈ lo B ex 0 ls := (lo_mem ls 0 _).mpr ⟨i, lgt ls i, lgt_get ls i (by rw [hx1]; simp), by rw [hx1]; simp, by rw [hx1, Nat.zero_add]; rfl⟩
  obtain ⟨kk, hkk⟩ := List.getElem?_of_mem hm
  refine lv_iinc hx hb hdg hL.1 hkk (o_add x d) g3 rfl (fun ls' hl' => ?_)
  exact hk _ _ _ _ _ _ _ h H locs cells slots ls' hH (LR.st1 (v := vi (iadd x d)) hL.2.1 hL.2.2 g3 (w32_rng _) hl') hS h1 h2
theorem sd_iadd (hx : p.tables.exec = Jvm.exec) (hb : c.code = cc) (hdg : decode cc pc = .ok (.iadd, 1)) (hk : ∀ ls st sh R M cb sb, k ls st sh R M cb sb → WG p l e Rm s mm args below meth c Qw B cA ex D nL mc ms (pc + 1) ls st sh R M cb sb) (h0 : pII st fun x y t => k ls (vi (iadd x y) :: t) sh R M cb sb) : WG p l e Rm s mm args below meth c Qw B cA ex D nL mc ms pc ls st sh R M cb sb := by
  obtain ⟨x, y, t, rfl, h⟩ := pII_inv h0
  intro H locs cells slots lsA hH hL hS h1 h2
  have hh := hk _ _ _ _ _ _ _ h H locs cells slots lsA hH hL (SQ.cons (w32_rng _) hS.tl.tl) h1 h2
  rw [map_cv_cons, show cv B ex (vi (iadd x y)) = .int (Int32.ofInt (iadd x y)) from rfl, ← o_add] at hh
  exact lv_iadd hx hb hdg hh
theorem sd_isub (hx : p.tables.exec = Jvm.exec) (hb : c.code = cc) (hdg : decode cc pc = .ok (.isub, 1)) (hk : ∀ ls st sh R M cb sb, k ls st sh R M cb sb → WG p l e Rm s mm args below meth c Qw B cA ex D nL mc ms (pc + 1) ls st sh R M cb sb) (h0 : pII st fun x y t => k ls (vi (isub x y) :: t) sh R M cb sb) : WG p l e Rm s mm args below meth c Qw B cA ex D nL mc ms pc ls st sh R M cb sb := by
  obtain ⟨x, y, t, rfl, h⟩ := pII_inv h0
  intro H locs cells slots lsA hH hL hS h1 h2
  have hh := hk _ _ _ _ _ _ _ h H locs cells slots lsA hH hL (SQ.cons (w32_rng _) hS.tl.tl) h1 h2
  rw [map_cv_cons, show cv B ex (vi (isub x y)) = .int (Int32.ofInt (isub x y)) from rfl, ← o_sub] at hh
  exact lv_isub hx hb hdg hh
theorem sd_imul (hx : p.tables.exec = Jvm.exec) (hb : c.code = cc) (hdg : decode cc pc = .ok (.imul, 1)) (hk : ∀ ls st sh R M cb sb, k ls st sh R M cb sb → WG p l e Rm s mm args below meth c Qw B cA ex D nL mc ms (pc + 1) ls st sh R M cb sb) (h0 : pII st fun x y t => k ls (vi (imul x y) :: t) sh R M cb sb) : WG p l e Rm s mm args below meth c Qw B cA ex D nL mc ms pc ls st sh R M cb sb := by
  obtain ⟨x, y, t, rfl, h⟩ := pII_inv h0
  intro H locs cells slots lsA hH hL hS h1 h2
  have hh := hk _ _ _ _ _ _ _ h H locs cells slots lsA hH hL (SQ.cons (w32_rng _) hS.tl.tl) h1 h2
  rw [map_cv_cons, show cv B ex (vi (imul x y)) = .int (Int32.ofInt (imul x y)) from rfl, ← o_mul] at hh
  exact lv_imul hx hb hdg hh
theorem sd_iand (hx : p.tables.exec = Jvm.exec) (hb : c.code = cc) (hdg : decode cc pc = .ok (.iand, 1)) (hk : ∀ ls st sh R M cb sb, k ls st sh R M cb sb → WG p l e Rm s mm args below meth c Qw B cA ex D nL mc ms (pc + 1) ls st sh R M cb sb) (h0 : pII st fun x y t => k ls (vi (iand x y) :: t) sh R M cb sb) : WG p l e Rm s mm args below meth c Qw B cA ex D nL mc ms pc ls st sh R M cb sb := by
  obtain ⟨x, y, t, rfl, h⟩ := pII_inv h0
  intro H locs cells slots lsA hH hL hS h1 h2
  have hh := hk _ _ _ _ _ _ _ h H locs cells slots lsA hH hL (SQ.cons (i32_rng _) hS.tl.tl) h1 h2
  rw [map_cv_cons, show cv B ex (vi (iand x y)) = .int (Int32.ofInt (iand x y)) from rfl, show Int32.ofInt (iand x y) = _ from oi32 _] at hh
  exact lv_iand hx hb hdg hh
theorem sd_ior (hx : p.tables.exec = Jvm.exec) (hb : c.code = cc) (hdg : decode cc pc = .ok (.ior, 1)) (hk : ∀ ls st sh R M cb sb, k ls st sh R M cb sb → WG p l e Rm s mm args below meth c Qw B cA ex D nL mc ms (pc + 1) ls st sh R M cb sb) (h0 : pII st fun x y t => k ls (vi (ior x y) :: t) sh R M cb sb) : WG p l e Rm s mm args below meth c Qw B cA ex D nL mc ms pc ls st sh R M cb sb := by
  obtain ⟨x, y, t, rfl, h⟩ := pII_inv h0
  intro H locs cells slots lsA hH hL hS h1 h2
  have hh := hk _ _ _ _ _ _ _ h H locs cells slots lsA hH hL (SQ.cons (i32_rng _) hS.tl.tl) h1 h2
  rw [map_cv_cons, show cv B ex (vi (ior x y)) = .int (Int32.ofInt (ior x y)) from rfl, show Int32.ofInt (ior x y) = _ from oi32 _] at hh
  exact lv_ior hx hb hdg hh
theorem sd_ishl (hx : p.tables.exec = Jvm.exec) (hb : c.code = cc) (hdg : decode cc pc = .ok (.ishl, 1)) (hk : ∀ ls st sh R M cb sb, k ls st sh R M cb sb → WG p l e Rm s mm args below meth c Qw B cA ex D nL mc ms (pc + 1) ls st sh R M cb sb) (h0 : pII st fun x y t => k ls (vi (ishl x y) :: t) sh R M cb sb) : WG p l e Rm s mm args below meth c Qw B cA ex D nL mc ms pc ls st sh R M cb sb := by
  obtain ⟨x, y, t, rfl, h⟩ := pII_inv h0
  intro H locs cells slots lsA hH hL hS h1 h2
  have hh := hk _ _ _ _ _ _ _ h H locs cells slots lsA hH hL (SQ.cons (i32_rng _) hS.tl.tl) h1 h2
  rw [map_cv_cons, show cv B ex (vi (ishl x y)) = .int (Int32.ofInt (ishl x y)) from rfl, show Int32.ofInt (ishl x y) = _ from oi32 _] at hh
  exact lv_ishl hx hb hdg hh
theorem sd_ishr (hx : p.tables.exec = Jvm.exec) (hb : c.code = cc) (hdg : decode cc pc = .ok (.ishr, 1)) (hk : ∀ ls st sh R M cb sb, k ls st sh R M cb sb → WG p l e Rm s mm args below meth c Qw B cA ex D nL mc ms (pc + 1) ls st sh R M cb sb) (h0 : pII st fun x y t => k ls (vi (ishr x y) :: t) sh R M cb sb) : WG p l e Rm s mm args below meth c Qw B cA ex D nL mc ms pc ls st sh R M cb sb := by
  obtain ⟨x, y, t, rfl, h⟩ := pII_inv h0
  intro H locs cells slots lsA hH hL hS h1 h2
  have hh := hk _ _ _ _ _ _ _ h H locs cells slots lsA hH hL (SQ.cons (i32_rng _) hS.tl.tl) h1 h2
  rw [map_cv_cons, show cv B ex (vi (ishr x y)) = .int (Int32.ofInt (ishr x y)) from rfl, show Int32.ofInt (ishr x y) = _ from oi32 _] at hh
  exact lv_ishr hx hb hdg hh
theorem irem_def (x y : Int) : Int32.ofInt (irem x y) = Int32.ofInt x - Int32.ofInt x / Int32.ofInt y * Int32.ofInt y := oi32 _
theorem sd_idiv (hx : p.tables.exec = Jvm.exec) (hb : c.code = cc) (hdg : decode cc pc = .ok (.idiv, 1)) (hk : ∀ ls st sh R M cb sb, k ls st sh R M cb sb → WG p l e Rm s mm args below meth c Qw B cA ex D nL mc ms (pc + 1) ls st sh R M cb sb) (h0 : pII st fun x y t => y ≠ 0 ∧ k ls (vi (idiv x y) :: t) sh R M cb sb) : WG p l e Rm s mm args below meth c Qw B cA ex D nL mc ms pc ls st sh R M cb sb := by
  obtain ⟨x, y, t, rfl, hy, h⟩ := pII_inv h0
  intro H locs cells slots lsA hH hL hS h1 h2
  have hh := hk _ _ _ _ _ _ _ h H locs cells slots lsA hH hL (SQ.cons (i32_rng _) hS.tl.tl) h1 h2
  rw [map_cv_cons, show cv B ex (vi (idiv x y)) = .int (Int32.ofInt (idiv x y)) from rfl, show Int32.ofInt (idiv x y) = _ from oi32 _] at hh
  refine lv_idiv hx hb hdg (fun z => hy ?_) hh
  rw [← o_z] at z
  exact (eq32 hS.hd ⟨by omega, by omega⟩).mp z
theorem sd_irem (hx : p.tables.exec = Jvm.exec) (hb : c.code = cc) (hdg : decode cc pc = .ok (.irem, 1)) (hk : ∀ ls st sh R M cb sb, k ls st sh R M cb sb → WG p l e Rm s mm args below meth c Qw B cA ex D nL mc ms (pc + 1) ls st sh R M cb sb) (h0 : pII st fun x y t => y ≠ 0 ∧ k ls (vi (irem x y) :: t) sh R M cb sb) : WG p l e Rm s mm args below meth c Qw B cA ex D nL mc ms pc ls st sh R M cb sb := by
  obtain ⟨x, y, t, rfl, hy, h⟩ := pII_inv h0
  intro H locs cells slots lsA hH hL hS h1 h2
  have hh := hk _ _ _ _ _ _ _ h H locs cells slots lsA hH hL (SQ.cons (i32_rng _) hS.tl.tl) h1 h2
  rw [map_cv_cons, show cv B ex (vi (irem x y)) = .int (Int32.ofInt (irem x y)) from rfl, show Int32.ofInt (irem x y) = _ from oi32 _] at hh
  refine lv_irem hx hb hdg (fun z => hy ?_) hh
  rw [← o_z] at z
  exact (eq32 hS.hd ⟨by omega, by omega⟩).mp z
theorem sd_ladd (hx : p.tables.exec = Jvm.exec) (hb : c.code = cc) (hdg : decode cc pc = .ok (.ladd, 1)) (hk : ∀ ls st sh R M cb sb, k ls st sh R M cb sb → WG p l e Rm s mm args below meth c Qw B cA ex D nL mc ms (pc + 1) ls st sh R M cb sb) (h0 : pLL st fun x y t => k ls (vl (ladd x y) :: t) sh R M cb sb) : WG p l e Rm s mm args below meth c Qw B cA ex D nL mc ms pc ls st sh R M cb sb := by
  obtain ⟨x, y, t, rfl, h⟩ := pLL_inv h0
  intro H locs cells slots lsA hH hL hS h1 h2
  have hh := hk _ _ _ _ _ _ _ h H locs cells slots lsA hH hL (SQ.cons (w64_rng _) hS.tl.tl) h1 h2
  rw [map_cv_cons, show cv B ex (vl (ladd x y)) = .long (Int64.ofInt (ladd x y)) from rfl, ← o_ladd] at hh
  exact lv_ladd hx hb hdg hh
theorem sd_lmul (hx : p.tables.exec = Jvm.exec) (hb : c.code = cc) (hdg : decode cc pc = .ok (.lmul, 1)) (hk : ∀ ls st sh R M cb sb, k ls st sh R M cb sb → WG p l e Rm s mm args below meth c Qw B cA ex D nL mc ms (pc + 1) ls st sh R M cb sb) (h0 : pLL st fun x y t => k ls (vl (lmul x y) :: t) sh R M cb sb) : WG p l e Rm s mm args below meth c Qw B cA ex D nL mc ms pc ls st sh R M cb sb := by
  obtain ⟨x, y, t, rfl, h⟩ := pLL_inv h0
  intro H locs cells slots lsA hH hL hS h1 h2
  have hh := hk _ _ _ _ _ _ _ h H locs cells slots lsA hH hL (SQ.cons (w64_rng _) hS.tl.tl) h1 h2
  rw [map_cv_cons, show cv B ex (vl (lmul x y)) = .long (Int64.ofInt (lmul x y)) from rfl, ← o_lmul] at hh
  exact lv_lmul hx hb hdg hh
theorem sd_lor (hx : p.tables.exec = Jvm.exec) (hb : c.code = cc) (hdg : decode cc pc = .ok (.lor, 1)) (hk : ∀ ls st sh R M cb sb, k ls st sh R M cb sb → WG p l e Rm s mm args below meth c Qw B cA ex D nL mc ms (pc + 1) ls st sh R M cb sb) (h0 : pLL st fun x y t => k ls (vl (lor x y) :: t) sh R M cb sb) : WG p l e Rm s mm args below meth c Qw B cA ex D nL mc ms pc ls st sh R M cb sb := by
  obtain ⟨x, y, t, rfl, h⟩ := pLL_inv h0
  intro H locs cells slots lsA hH hL hS h1 h2
  have hh := hk _ _ _ _ _ _ _ h H locs cells slots lsA hH hL (SQ.cons (i64_rng _) hS.tl.tl) h1 h2
  rw [map_cv_cons, show cv B ex (vl (lor x y)) = .long (Int64.ofInt (lor x y)) from rfl, show Int64.ofInt (lor x y) = _ from oi64 _] at hh
  exact lv_lor hx hb hdg hh
theorem sd_lshl (hx : p.tables.exec = Jvm.exec) (hb : c.code = cc) (hdg : decode cc pc = .ok (.lshl, 1)) (hk : ∀ ls st sh R M cb sb, k ls st sh R M cb sb → WG p l e Rm s mm args below meth c Qw B cA ex D nL mc ms (pc + 1) ls st sh R M cb sb) (h0 : pI st fun y t => pL t fun x t => k ls (vl (lshl x y) :: t) sh R M cb sb) : WG p l e Rm s mm args below meth c Qw B cA ex D nL mc ms pc ls st sh R M cb sb := by
  obtain ⟨y, t, rfl, h⟩ := pI_inv h0
  obtain ⟨x, t2, rfl, h⟩ := pL_inv h
  intro H locs cells slots lsA hH hL hS h1 h2
  have hh := hk _ _ _ _ _ _ _ h H locs cells slots lsA hH hL (SQ.cons (i64_rng _) hS.tl.tl) h1 h2
  rw [map_cv_cons, show cv B ex (vl (lshl x y)) = .long (Int64.ofInt (lshl x y)) from rfl, show Int64.ofInt (lshl x y) = _ from oi64 _] at hh
  exact lv_lshl hx hb hdg rfl hh
theorem sd_lcmp (hx : p.tables.exec = Jvm.exec) (hb : c.code = cc) (hdg : decode cc pc = .ok (.lcmp, 1)) (hk : ∀ ls st sh R M cb sb, k ls st sh R M cb sb → WG p l e Rm s mm args below meth c Qw B cA ex D nL mc ms (pc + 1) ls st sh R M cb sb) (h0 : pLL st fun x y t => k ls (vi (lcmp x y) :: t) sh R M cb sb) : WG p l e Rm s mm args below meth c Qw B cA ex D nL mc ms pc ls st sh R M cb sb := by
  obtain ⟨x, y, t, rfl, h⟩ := pLL_inv h0
  intro H locs cells slots lsA hH hL hS h1 h2
  have hy : rngv 1 y := hS.hd
  have hxx : rngv 1 x := hS.tl.hd
  have hr : rngv 0 (lcmp x y) := by
    unfold lcmp
    split
    · exact ⟨by omega, by omega⟩
    · split <;> exact ⟨by omega, by omega⟩
  have hh := hk _ _ _ _ _ _ _ h H locs cells slots lsA hH hL (SQ.cons hr hS.tl.tl) h1 h2
  have e1 : Int32.ofInt (lcmp x y) = lg_cmp (Int64.ofInt x) (Int64.ofInt y) := by
    have q1 : (Int64.ofInt y < Int64.ofInt x) ↔ y < x := by rw [Int64.lt_iff_toInt_lt, ti64 hy, ti64 hxx]
    have q2 : (Int64.ofInt x = Int64.ofInt y) ↔ x = y := by
      constructor
      · intro z
        have := congrArg Int64.toInt z
        rwa [ti64 hxx, ti64 hy] at this
      · intro z; rw [z]
    unfold lcmp lg_cmp
    simp only [q1, q2]
    split
    · rfl
    · split <;> rfl
  rw [map_cv_cons, show cv B ex (vi (lcmp x y)) = .int (Int32.ofInt (lcmp x y)) from rfl, e1] at hh
  exact W.lcmp hx hb hdg hh
theorem sd_i2l (hx : p.tables.exec = Jvm.exec) (hb : c.code = cc) (hdg : decode cc pc = .ok (.i2l, 1)) (hk : ∀ ls st sh R M cb sb, k ls st sh R M cb sb → WG p l e Rm s mm args below meth c Qw B cA ex D nL mc ms (pc + 1) ls st sh R M cb sb) (h0 : pI st fun x t => k ls (vl x :: t) sh R M cb sb) : WG p l e Rm s mm args below meth c Qw B cA ex D nL mc ms pc ls st sh R M cb sb := by
  obtain ⟨x, t, rfl, h⟩ := pI_inv h0
  intro H locs cells slots lsA hH hL hS h1 h2
  have hxx : rngv 0 x := hS.hd
  have hr : rngv 1 x := ⟨by have := hxx.1; omega, by have := hxx.2; omega⟩
  refine lv_i2l hx hb hdg (v := Int64.ofInt x) ?_ (hk _ _ _ _ _ _ _ h H locs cells slots lsA hH hL (SQ.cons hr hS.tl) h1 h2)
  apply Int64.toInt_inj.mp
  rw [Int32.toInt_toInt64, ti32 hxx, ti64 hr]
theorem sd_l2i (hx : p.tables.exec = Jvm.exec) (hb : c.code = cc) (hdg : decode cc pc = .ok (.l2i, 1)) (hk : ∀ ls st sh R M cb sb, k ls st sh R M cb sb → WG p l e Rm s mm args below meth c Qw B cA ex D nL mc ms (pc + 1) ls st sh R M cb sb) (h0 : pL st fun x t => k ls (vi (w32 x) :: t) sh R M cb sb) : WG p l e Rm s mm args below meth c Qw B cA ex D nL mc ms pc ls st sh R M cb sb := by
  obtain ⟨x, t, rfl, h⟩ := pL_inv h0
  intro H locs cells slots lsA hH hL hS h1 h2
  refine lv_l2i hx hb hdg (v := Int32.ofInt (w32 x)) ?_ (hk _ _ _ _ _ _ _ h H locs cells slots lsA hH hL (SQ.cons (w32_rng _) hS.tl) h1 h2)
  rw [ofw32, Int64.toInt32_ofInt]
theorem sd_i2b (hx : p.tables.exec = Jvm.exec) (hb : c.code = cc) (hdg : decode cc pc = .ok (.i2b, 1)) (hk : ∀ ls st sh R M cb sb, k ls st sh R M cb sb → WG p l e Rm s mm args below meth c Qw B cA ex D nL mc ms (pc + 1) ls st sh R M cb sb) (h0 : pI st fun x t => k ls (vi (w8 x) :: t) sh R M cb sb) : WG p l e Rm s mm args below meth c Qw B cA ex D nL mc ms pc ls st sh R M cb sb := by
  obtain ⟨x, t, rfl, h⟩ := pI_inv h0
  intro H locs cells slots lsA hH hL hS h1 h2
  exact lv_i2b hx hb hdg (v := Int32.ofInt (w8 x)) (oi32 _).symm (hk _ _ _ _ _ _ _ h H locs cells slots lsA hH hL (SQ.cons (i32_rng _) hS.tl) h1 h2)
theorem sd_i2c (hx : p.tables.exec = Jvm.exec) (hb : c.code = cc) (hdg : decode cc pc = .ok (.i2c, 1)) (hk : ∀ ls st sh R M cb sb, k ls st sh R M cb sb → WG p l e Rm s mm args below meth c Qw B cA ex D nL mc ms (pc + 1) ls st sh R M cb sb) (h0 : pI st fun x t => k ls (vi (w16 x) :: t) sh R M cb sb) : WG p l e Rm s mm args below meth c Qw B cA ex D nL mc ms pc ls st sh R M cb sb := by
  obtain ⟨x, t, rfl, h⟩ := pI_inv h0
  intro H locs cells slots lsA hH hL hS h1 h2
  exact lv_i2c hx hb hdg (v := Int32.ofInt (w16 x)) (oi32 _).symm (hk _ _ _ _ _ _ _ h H locs cells slots lsA hH hL (SQ.cons (i32_rng _) hS.tl) h1 h2)
theorem one1_cat (B : Nat) (ex : Nat → Nat) {v : AV} (h : one1 v = true) : (cv B ex v).category = 1 := by
  obtain ⟨t, x⟩ := v
  match t, h with
  | 0, _ => rfl
  | 2, _ => show (rv B x).category = 1; unfold rv; split <;> rfl
  | 4, _ => rfl
theorem sd_dup (hx : p.tables.exec = Jvm.exec) (hb : c.code = cc) {v : AV} {t : List AV} (hst : st = v :: t) (hdg : decode cc pc = .ok (.dup, 1)) (hk : ∀ ls st sh R M cb sb, k ls st sh R M cb sb → WG p l e Rm s mm args below meth c Qw B cA ex D nL mc ms (pc + 1) ls st sh R M cb sb) (h0 : bud (one1 v) (k ls (v :: v :: t) sh R M cb sb)) : WG p l e Rm s mm args below meth c Qw B cA ex D nL mc ms pc ls st sh R M cb sb := by
  obtain ⟨hb1, h⟩ := bud_inv h0
  subst hst
  intro H locs cells slots lsA hH hL hS h1 h2
  exact lv_dup hx hb hdg (one1_cat B ex hb1) (hk _ _ _ _ _ _ _ h H locs cells slots lsA hH hL (SQ.cons hS.hd hS) h1 h2)
theorem sd_dup2L (hx : p.tables.exec = Jvm.exec) (hb : c.code = cc) {x : Int} {t : List AV} (hst : st = (1, x) :: t) (hdg : decode cc pc = .ok (.dup2, 1)) (hk : ∀ ls st sh R M cb sb, k ls st sh R M cb sb → WG p l e Rm s mm args below meth c Qw B cA ex D nL mc ms (pc + 1) ls st sh R M cb sb) (h : k ls ((1, x) :: (1, x) :: t) sh R M cb sb) : WG p l e Rm s mm args below meth c Qw B cA ex D nL mc ms pc ls st sh R M cb sb := by
  subst hst
  intro H locs cells slots lsA hH hL hS h1 h2
  exact lv_dup2_2 hx hb hdg rfl (hk _ _ _ _ _ _ _ h H locs cells slots lsA hH hL (SQ.cons hS.hd hS) h1 h2)
theorem sd_dup2 (hx : p.tables.exec = Jvm.exec) (hb : c.code = cc) {v u : AV} {t : List AV} (hst : st = v :: u :: t) (hdg : decode cc pc = .ok (.dup2, 1)) (hk : ∀ ls st sh R M cb sb, k ls st sh R M cb sb → WG p l e Rm s mm args below meth c Qw B cA ex D nL mc ms (pc + 1) ls st sh R M cb sb) (h0 : bud (one1 v && one1 u) (k ls (v :: u :: v :: u :: t) sh R M cb sb)) : WG p l e Rm s mm args below meth c Qw B cA ex D nL mc ms pc ls st sh R M cb sb := by
  obtain ⟨hb1, h⟩ := bud_inv h0
  subst hst
  rw [Bool.and_eq_true] at hb1
  intro H locs cells slots lsA hH hL hS h1 h2
  exact lv_dup2_11 hx hb hdg (one1_cat B ex hb1.1) (one1_cat B ex hb1.2) (hk _ _ _ _ _ _ _ h H locs cells slots lsA hH hL (SQ.cons hS.hd (SQ.cons hS.tl.hd hS)) h1 h2)
theorem sdgt {a b : Int32} : a > b ↔ b < a := Iff.rfl
theorem sdne {a b : Int32} : a ≠ b ↔ ¬ a = b := Iff.rfl
theorem sdnn {a b : Int32} : (¬ a ≠ b) ↔ a = b := Decidable.not_not
theorem sdge {a b : Int32} : a ≥ b ↔ ¬ a < b := Int32.not_lt.symm
theorem sdgn {a b : Int32} : (¬ a ≥ b) ↔ a < b := Int32.not_le
theorem sdle {a b : Int32} : a ≤ b ↔ ¬ b < a := Int32.not_lt.symm
theorem sdln {a b : Int32} : (¬ a ≤ b) ↔ b < a := Int32.not_le
theorem sd_if_eq (hx : p.tables.exec = Jvm.exec) (hb : c.code = cc) {off : Int} {tgt : Nat} {j : NXT} (hdg : decode cc pc = .ok (.ifCond .eq off, 3)) (ht : (pc : Int) + off = (tgt : Int)) (hk : ∀ ls st sh R M cb sb, k ls st sh R M cb sb → WG p l e Rm s mm args below meth c Qw B cA ex D nL mc ms (pc + 3) ls st sh R M cb sb) (hJ : ∀ ls st sh R M cb sb, j ls st sh R M cb sb → WG p l e Rm s mm args below meth c Qw B cA ex D nL mc ms tgt ls st sh R M cb sb) (h0 : pI st fun x t => cmpI .eq x 0 (j ls t sh R M cb sb) (k ls t sh R M cb sb)) : WG p l e Rm s mm args below meth c Qw B cA ex D nL mc ms pc ls st sh R M cb sb := by
  obtain ⟨x, t, rfl, h⟩ := pI_inv h0
  intro H locs cells slots lsA hH hL hS h1 h2
  have hy : rngv 0 0 := ⟨by omega, by omega⟩
  have hxx : rngv 0 x := hS.hd
  have hA := fun h => hJ _ _ _ _ _ _ _ h H locs cells slots lsA hH hL hS.tl h1 h2
  have hB := fun h => hk _ _ _ _ _ _ _ h H locs cells slots lsA hH hL hS.tl h1 h2
  have q : (Int32.ofInt x = 0) ↔ x = 0 := by rw [← o_z]; exact eq32 hxx hy
  simp only [cmpI] at h
  exact lv_if_eq hx hb hdg ht (fun z => hA (by rw [if_pos (q.mp z)] at h; exact h)) (fun z => hB (by rw [if_neg (fun w => z (q.mpr w))] at h; exact h))
theorem sd_if_ne (hx : p.tables.exec = Jvm.exec) (hb : c.code = cc) {off : Int} {tgt : Nat} {j : NXT} (hdg : decode cc pc = .ok (.ifCond .ne off, 3)) (ht : (pc : Int) + off = (tgt : Int)) (hk : ∀ ls st sh R M cb sb, k ls st sh R M cb sb → WG p l e Rm s mm args below meth c Qw B cA ex D nL mc ms (pc + 3) ls st sh R M cb sb) (hJ : ∀ ls st sh R M cb sb, j ls st sh R M cb sb → WG p l e Rm s mm args below meth c Qw B cA ex D nL mc ms tgt ls st sh R M cb sb) (h0 : pI st fun x t => cmpI .ne x 0 (j ls t sh R M cb sb) (k ls t sh R M cb sb)) : WG p l e Rm s mm args below meth c Qw B cA ex D nL mc ms pc ls st sh R M cb sb := by
  obtain ⟨x, t, rfl, h⟩ := pI_inv h0
  intro H locs cells slots lsA hH hL hS h1 h2
  have hy : rngv 0 0 := ⟨by omega, by omega⟩
  have hxx : rngv 0 x := hS.hd
  have hA := fun h => hJ _ _ _ _ _ _ _ h H locs cells slots lsA hH hL hS.tl h1 h2
  have hB := fun h => hk _ _ _ _ _ _ _ h H locs cells slots lsA hH hL hS.tl h1 h2
  have q : (Int32.ofInt x = 0) ↔ x = 0 := by rw [← o_z]; exact eq32 hxx hy
  simp only [cmpI] at h
  exact lv_if_ne hx hb hdg ht (fun z => hA (by rw [if_neg (fun w => (sdne.mp z) (q.mpr w))] at h; exact h)) (fun z => hB (by rw [if_pos (q.mp z)] at h; exact h))
theorem sd_if_lt (hx : p.tables.exec = Jvm.exec) (hb : c.code = cc) {off : Int} {tgt : Nat} {j : NXT} (hdg : decode cc pc = .ok (.ifCond .lt off, 3)) (ht : (pc : Int) + off = (tgt : Int)) (hk : ∀ ls st sh R M cb sb, k ls st sh R M cb sb → WG p l e Rm s mm args below meth c Qw B cA ex D nL mc ms (pc + 3) ls st sh R M cb sb) (hJ : ∀ ls st sh R M cb sb, j ls st sh R M cb sb → WG p l e Rm s mm args below meth c Qw B cA ex D nL mc ms tgt ls st sh R M cb sb) (h0 : pI st fun x t => cmpI .lt x 0 (j ls t sh R M cb sb) (k ls t sh R M cb sb)) : WG p l e Rm s mm args below meth c Qw B cA ex D nL mc ms pc ls st sh R M cb sb := by
  obtain ⟨x, t, rfl, h⟩ := pI_inv h0
  intro H locs cells slots lsA hH hL hS h1 h2
  have hy : rngv 0 0 := ⟨by omega, by omega⟩
  have hxx : rngv 0 x := hS.hd
  have hA := fun h => hJ _ _ _ _ _ _ _ h H locs cells slots lsA hH hL hS.tl h1 h2
  have hB := fun h => hk _ _ _ _ _ _ _ h H locs cells slots lsA hH hL hS.tl h1 h2
  have q : (Int32.ofInt x < 0) ↔ x < 0 := by rw [← o_z]; exact lt32 hxx hy
  simp only [cmpI] at h
  exact lv_if_lt hx hb hdg ht (fun z => hA (by rw [if_pos (q.mp z)] at h; exact h)) (fun z => hB (by rw [if_neg (fun w => z (q.mpr w))] at h; exact h))
theorem sd_if_ge (hx : p.tables.exec = Jvm.exec) (hb : c.code = cc) {off : Int} {tgt : Nat} {j : NXT} (hdg : decode cc pc = .ok (.ifCond .ge off, 3)) (ht : (pc : Int) + off = (tgt : Int)) (hk : ∀ ls st sh R M cb sb, k ls st sh R M cb sb → WG p l e Rm s mm args below meth c Qw B cA ex D nL mc ms (pc + 3) ls st sh R M cb sb) (hJ : ∀ ls st sh R M cb sb, j ls st sh R M cb sb → WG p l e Rm s mm args below meth c Qw B cA ex D nL mc ms tgt ls st sh R M cb sb) (h0 : pI st fun x t => cmpI .ge x 0 (j ls t sh R M cb sb) (k ls t sh R M cb sb)) : WG p l e Rm s mm args below meth c Qw B cA ex D nL mc ms pc ls st sh R M cb sb := by
  obtain ⟨x, t, rfl, h⟩ := pI_inv h0
  intro H locs cells slots lsA hH hL hS h1 h2
  have hy : rngv 0 0 := ⟨by omega, by omega⟩
  have hxx : rngv 0 x := hS.hd
  have hA := fun h => hJ _ _ _ _ _ _ _ h H locs cells slots lsA hH hL hS.tl h1 h2
  have hB := fun h => hk _ _ _ _ _ _ _ h H locs cells slots lsA hH hL hS.tl h1 h2
  have q : (Int32.ofInt x < 0) ↔ x < 0 := by rw [← o_z]; exact lt32 hxx hy
  simp only [cmpI] at h
  exact lv_if_ge hx hb hdg ht (fun z => hA (by rw [if_neg (fun w => (sdge.mp z) (q.mpr w))] at h; exact h)) (fun z => hB (by rw [if_pos (q.mp (sdgn.mp z))] at h; exact h))
theorem sd_if_gt (hx : p.tables.exec = Jvm.exec) (hb : c.code = cc) {off : Int} {tgt : Nat} {j : NXT} (hdg : decode cc pc = .ok (.ifCond .gt off, 3)) (ht : (pc : Int) + off = (tgt : Int)) (hk : ∀ ls st sh R M cb sb, k ls st sh R M cb sb → WG p l e Rm s mm args below meth c Qw B cA ex D nL mc ms (pc + 3) ls st sh R M cb sb) (hJ : ∀ ls st sh R M cb sb, j ls st sh R M cb sb → WG p l e Rm s mm args below meth c Qw B cA ex D nL mc ms tgt ls st sh R M cb sb) (h0 : pI st fun x t => cmpI .gt x 0 (j ls t sh R M cb sb) (k ls t sh R M cb sb)) : WG p l e Rm s mm args below meth c Qw B cA ex D nL mc ms pc ls st sh R M cb sb := by
  obtain ⟨x, t, rfl, h⟩ := pI_inv h0
  intro H locs cells slots lsA hH hL hS h1 h2
  have hy : rngv 0 0 := ⟨by omega, by omega⟩
  have hxx : rngv 0 x := hS.hd
  have hA := fun h => hJ _ _ _ _ _ _ _ h H locs cells slots lsA hH hL hS.tl h1 h2
  have hB := fun h => hk _ _ _ _ _ _ _ h H locs cells slots lsA hH hL hS.tl h1 h2
  have q : (0 < Int32.ofInt x) ↔ 0 < x := by rw [← o_z]; exact lt32 hy hxx
  simp only [cmpI] at h
  exact lv_if_gt hx hb hdg ht (fun z => hA (by rw [if_pos (q.mp (sdgt.mp z))] at h; exact h)) (fun z => hB (by rw [if_neg (fun w => z (sdgt.mpr (q.mpr w)))] at h; exact h))
theorem sd_if_le (hx : p.tables.exec = Jvm.exec) (hb : c.code = cc) {off : Int} {tgt : Nat} {j : NXT} (hdg : decode cc pc = .ok (.ifCond .le off, 3)) (ht : (pc : Int) + off = (tgt : Int)) (hk : ∀ ls st sh R M cb sb, k ls st sh R M cb sb → WG p l e Rm s mm args below meth c Qw B cA ex D nL mc ms (pc + 3) ls st sh R M cb sb) (hJ : ∀ ls st sh R M cb sb, j ls st sh R M cb sb → WG p l e Rm s mm args below meth c Qw B cA ex D nL mc ms tgt ls st sh R M cb sb) (h0 : pI st fun x t => cmpI .le x 0 (j ls t sh R M cb sb) (k ls t sh R M cb sb)) : WG p l e Rm s mm args below meth c Qw B cA ex D nL mc ms pc ls st sh R M cb sb := by
  obtain ⟨x, t, rfl, h⟩ := pI_inv h0
  intro H locs cells slots lsA hH hL hS h1 h2
  have hy : rngv 0 0 := ⟨by omega, by omega⟩
  have hxx : rngv 0 x := hS.hd
  have hA := fun h => hJ _ _ _ _ _ _ _ h H locs cells slots lsA hH hL hS.tl h1 h2
  have hB := fun h => hk _ _ _ _ _ _ _ h H locs cells slots lsA hH hL hS.tl h1 h2
  have q : (0 < Int32.ofInt x) ↔ 0 < x := by rw [← o_z]; exact lt32 hy hxx
  simp only [cmpI] at h
  exact lv_if_le hx hb hdg ht (fun z => hA (by rw [if_neg (fun w => (sdle.mp z) (q.mpr w))] at h; exact h)) (fun z => hB (by rw [if_pos (q.mp (sdln.mp z))] at h; exact h))
theorem sd_icmp_eq (hx : p.tables.exec = Jvm.exec) (hb : c.code = cc) {off : Int} {tgt : Nat} {j : NXT} (hdg : decode cc pc = .ok (.if_icmp .eq off, 3)) (ht : (pc : Int) + off = (tgt : Int)) (hk : ∀ ls st sh R M cb sb, k ls st sh R M cb sb → WG p l e Rm s mm args below meth c Qw B cA ex D nL mc ms (pc + 3) ls st sh R M cb sb) (hJ : ∀ ls st sh R M cb sb, j ls st sh R M cb sb → WG p l e Rm s mm args below meth c Qw B cA ex D nL mc ms tgt ls st sh R M cb sb) (h0 : pII st fun x y t => cmpI .eq x y (j ls t sh R M cb sb) (k ls t sh R M cb sb)) : WG p l e Rm s mm args below meth c Qw B cA ex D nL mc ms pc ls st sh R M cb sb := by
  obtain ⟨x, y, t, rfl, h⟩ := pII_inv h0
  intro H locs cells slots lsA hH hL hS h1 h2
  have hy : rngv 0 y := hS.hd
  have hxx : rngv 0 x := hS.tl.hd
  have hA := fun h => hJ _ _ _ _ _ _ _ h H locs cells slots lsA hH hL hS.tl.tl h1 h2
  have hB := fun h => hk _ _ _ _ _ _ _ h H locs cells slots lsA hH hL hS.tl.tl h1 h2
  have q : (Int32.ofInt x = Int32.ofInt y) ↔ x = y := eq32 hxx hy
  simp only [cmpI] at h
  exact lv_icmp_eq hx hb hdg ht (fun z => hA (by rw [if_pos (q.mp z)] at h; exact h)) (fun z => hB (by rw [if_neg (fun w => z (q.mpr w))] at h; exact h))
theorem sd_icmp_ne (hx : p.tables.exec = Jvm.exec) (hb : c.code = cc) {off : Int} {tgt : Nat} {j : NXT} (hdg : decode cc pc = .ok (.if_icmp .ne off, 3)) (ht : (pc : Int) + off = (tgt : Int)) (hk : ∀ ls st sh R M cb sb, k ls st sh R M cb sb → WG p l e Rm s mm args below meth c Qw B cA ex D nL mc ms (pc + 3) ls st sh R M cb sb) (hJ : ∀ ls st sh R M cb sb, j ls st sh R M cb sb → WG p l e Rm s mm args below meth c Qw B cA ex D nL mc ms tgt ls st sh R M cb sb) (h0 : pII st fun x y t => cmpI .ne x y (j ls t sh R M cb sb) (k ls t sh R M cb sb)) : WG p l e Rm s mm args below meth c Qw B cA ex D nL mc ms pc ls st sh R M cb sb := by
  obtain ⟨x, y, t, rfl, h⟩ := pII_inv h0
  intro H locs cells slots lsA hH hL hS h1 h2
  have hy : rngv 0 y := hS.hd
  have hxx : rngv 0 x := hS.tl.hd
  have hA := fun h => hJ _ _ _ _ _ _ _ h H locs cells slots lsA hH hL hS.tl.tl h1 h2
  have hB := fun h => hk _ _ _ _ _ _ _ h H locs cells slots lsA hH hL hS.tl.tl h1 h2
  have q : (Int32.ofInt x = Int32.ofInt y) ↔ x = y := eq32 hxx hy
  simp only [cmpI] at h
  exact lv_icmp_ne hx hb hdg ht (fun z => hA (by rw [if_neg (fun w => (sdne.mp z) (q.mpr w))] at h; exact h)) (fun z => hB (by rw [if_pos (q.mp z)] at h; exact h))
theorem sd_icmp_lt (hx : p.tables.exec = Jvm.exec) (hb : c.code = cc) {off : Int} {tgt : Nat} {j : NXT} (hdg : decode cc pc = .ok (.if_icmp .lt off, 3)) (ht : (pc : Int) + off = (tgt : Int)) (hk : ∀ ls st sh R M cb sb, k ls st sh R M cb sb → WG p l e Rm s mm args below meth c Qw B cA ex D nL mc ms (pc + 3) ls st sh R M cb sb) (hJ : ∀ ls st sh R M cb sb, j ls st sh R M cb sb → WG p l e Rm s mm args below meth c Qw B cA ex D nL mc ms tgt ls st sh R M cb sb) (h0 : pII st fun x y t => cmpI .lt x y (j ls t sh R M cb sb) (k ls t sh R M cb sb)) : WG p l e Rm s mm args below meth c Qw B cA ex D nL mc ms pc ls st sh R M cb sb := by
  obtain ⟨x, y, t, rfl, h⟩ := pII_inv h0
  intro H locs cells slots lsA hH hL hS h1 h2
  have hy : rngv 0 y := hS.hd
  have hxx : rngv 0 x := hS.tl.hd
  have hA := fun h => hJ _ _ _ _ _ _ _ h H locs cells slots lsA hH hL hS.tl.tl h1 h2
  have hB := fun h => hk _ _ _ _ _ _ _ h H locs cells slots lsA hH hL hS.tl.tl h1 h2
  have q : (Int32.ofInt x < Int32.ofInt y) ↔ x < y := lt32 hxx hy
  simp only [cmpI] at h
  exact lv_icmp_lt hx hb hdg ht (fun z => hA (by rw [if_pos (q.mp z)] at h; exact h)) (fun z => hB (by rw [if_neg (fun w => z (q.mpr w))] at h; exact h))
theorem sd_icmp_ge (hx : p.tables.exec = Jvm.exec) (hb : c.code = cc) {off : Int} {tgt : Nat} {j : NXT} (hdg : decode cc pc = .ok (.if_icmp .ge off, 3)) (ht : (pc : Int) + off = (tgt : Int)) (hk : ∀ ls st sh R M cb sb, k ls st sh R M cb sb → WG p l e Rm s mm args below meth c Qw B cA ex D nL mc ms (pc + 3) ls st sh R M cb sb) (hJ : ∀ ls st sh R M cb sb, j ls st sh R M cb sb → WG p l e Rm s mm args below meth c Qw B cA ex D nL mc ms tgt ls st sh R M cb sb) (h0 : pII st fun x y t => cmpI .ge x y (j ls t sh R M cb sb) (k ls t sh R M cb sb)) : WG p l e Rm s mm args below meth c Qw B cA ex D nL mc ms pc ls st sh R M cb sb := by
  obtain ⟨x, y, t, rfl, h⟩ := pII_inv h0
  intro H locs cells slots lsA hH hL hS h1 h2
  have hy : rngv 0 y := hS.hd
  have hxx : rngv 0 x := hS.tl.hd
  have hA := fun h => hJ _ _ _ _ _ _ _ h H locs cells slots lsA hH hL hS.tl.tl h1 h2
  have hB := fun h => hk _ _ _ _ _ _ _ h H locs cells slots lsA hH hL hS.tl.tl h1 h2
  have q : (Int32.ofInt x < Int32.ofInt y) ↔ x < y := lt32 hxx hy
  simp only [cmpI] at h
  exact lv_icmp_ge hx hb hdg ht (fun z => hA (by rw [if_neg (fun w => (sdge.mp z) (q.mpr w))] at h; exact h)) (fun z => hB (by rw [if_pos (q.mp (sdgn.mp z))] at h; exact h))
theorem sd_icmp_gt (hx : p.tables.exec = Jvm.exec) (hb : c.code = cc) {off : Int} {tgt : Nat} {j : NXT} (hdg : decode cc pc = .ok (.if_icmp .gt off, 3)) (ht : (pc : Int) + off = (tgt : Int)) (hk : ∀ ls st sh R M cb sb, k ls st sh R M cb sb → WG p l e Rm s mm args below meth c Qw B cA ex D nL mc ms (pc + 3) ls st sh R M cb sb) (hJ : ∀ ls st sh R M cb sb, j ls st sh R M cb sb → WG p l e Rm s mm args below meth c Qw B cA ex D nL mc ms tgt ls st sh R M cb sb) (h0 : pII st fun x y t => cmpI .gt x y (j ls t sh R M cb sb) (k ls t sh R M cb sb)) : WG p l e Rm s mm args below meth c Qw B cA ex D nL mc ms pc ls st sh R M cb sb := by
  obtain ⟨x, y, t, rfl, h⟩ := pII_inv h0
  intro H locs cells slots lsA hH hL hS h1 h2
  have hy : rngv 0 y := hS.hd
  have hxx : rngv 0 x := hS.tl.hd
  have hA := fun h => hJ _ _ _ _ _ _ _ h H locs cells slots lsA hH hL hS.tl.tl h1 h2
  have hB := fun h => hk _ _ _ _ _ _ _ h H locs cells slots lsA hH hL hS.tl.tl h1 h2
  have q : (Int32.ofInt y < Int32.ofInt x) ↔ y < x := lt32 hy hxx
  simp only [cmpI] at h
  exact lv_icmp_gt hx hb hdg ht (fun z => hA (by rw [if_pos (q.mp (sdgt.mp z))] at h; exact h)) (fun z => hB (by rw [if_neg (fun w => z (sdgt.mpr (q.mpr w)))] at h; exact h))
theorem sd_icmp_le (hx : p.tables.exec = Jvm.exec) (hb : c.code = cc) {off : Int} {tgt : Nat} {j : NXT} (hdg : decode cc pc = .ok (.if_icmp .le off, 3)) (ht : (pc : Int) + off = (tgt : Int)) (hk : ∀ ls st sh R M cb sb, k ls st sh R M cb sb → WG p l e Rm s mm args below meth c Qw B cA ex D nL mc ms (pc + 3) ls st sh R M cb sb) (hJ : ∀ ls st sh R M cb sb, j ls st sh R M cb sb → WG p l e Rm s mm args below meth c Qw B cA ex D nL mc ms tgt ls st sh R M cb sb) (h0 : pII st fun x y t => cmpI .le x y (j ls t sh R M cb sb) (k ls t sh R M cb sb)) : WG p l e Rm s mm args below meth c Qw B cA ex D nL mc ms pc ls st sh R M cb sb := by
  obtain ⟨x, y, t, rfl, h⟩ := pII_inv h0
  intro H locs cells slots lsA hH hL hS h1 h2
  have hy : rngv 0 y := hS.hd
  have hxx : rngv 0 x := hS.tl.hd
  have hA := fun h => hJ _ _ _ _ _ _ _ h H locs cells slots lsA hH hL hS.tl.tl h1 h2
  have hB := fun h => hk _ _ _ _ _ _ _ h H locs cells slots lsA hH hL hS.tl.tl h1 h2
  have q : (Int32.ofInt y < Int32.ofInt x) ↔ y < x := lt32 hy hxx
  simp only [cmpI] at h
  exact lv_icmp_le hx hb hdg ht (fun z => hA (by rw [if_neg (fun w => (sdle.mp z) (q.mpr w))] at h; exact h)) (fun z => hB (by rw [if_pos (q.mp (sdln.mp z))] at h; exact h))
theorem sd_goto (hx : p.tables.exec = Jvm.exec) (hb : c.code = cc) {off : Int} {tgt : Nat} {j : NXT} (hdg : decode cc pc = .ok (.goto off, 3)) (ht : (pc : Int) + off = (tgt : Int)) (hJ : ∀ ls st sh R M cb sb, j ls st sh R M cb sb → WG p l e Rm s mm args below meth c Qw B cA ex D nL mc ms tgt ls st sh R M cb sb) (h : j ls st sh R M cb sb) : WG p l e Rm s mm args below meth c Qw B cA ex D nL mc ms pc ls st sh R M cb sb := by
  intro H locs cells slots lsA hH hL hS h1 h2
  exact lv_goto hx hb hdg ht (hJ _ _ _ _ _ _ _ h H locs cells slots lsA hH hL hS h1 h2)
end
end
section
/-! instructions that touch cells -/
theorem el_obj {B : Nat} {cA : Nat → ClassId} {k n : Nat} {Ra Ma : Int → Int} (h : k < 100) : el B cA k n Ra Ma = .inr (k, fvs B k Ra Ma) := by
  unfold el
  split <;> first | omega | rfl
theorem fvs_get {B k j : Nat} {Ra Ma : Int → Int} (h : j < nF k) : (fvs B k Ra Ma)[j]? = some (fv B (ftag k j) (Ra j) (Ma j)) := by
  unfold fvs
  rw [List.getElem?_map, List.getElem?_range h]
  rfl
theorem fvs_len {B k : Nat} {Ra Ma : Int → Int} : (fvs B k Ra Ma).length = nF k := by simp [fvs]
theorem fvs_set {B k j : Nat} {Ra Ma Ra' Ma' : Int → Int} {v : Value} (hv : v = fv B (ftag k j) (Ra' j) (Ma' j)) (hR : ∀ i : Nat, i ≠ j → Ra' i = Ra i) (hM : ∀ i : Nat, i ≠ j → Ma' i = Ma i) : (fvs B k Ra Ma).set j v = fvs B k Ra' Ma' := by
  apply List.ext_getElem?
  intro i
  by_cases hl : i < nF k
  · by_cases hi : i = j
    · subst hi
      rw [List.getElem?_set_self (by rw [fvs_len]; exact hl), fvs_get hl, hv]
    · rw [List.getElem?_set_ne (Ne.symm hi), fvs_get hl, fvs_get hl, hR i hi, hM i hi]
  · rw [List.getElem?_eq_none (by rw [List.length_set, fvs_len]; omega), List.getElem?_eq_none (by rw [fvs_len]; omega)]
theorem HR.upd {B : Nat} {cA : Nat → ClassId} {D : va_G} {s : State} {H H1 : Heap} {locs : List Loc} {sh : SHP} {R M R' M' : MEM} {n i : Nat} (hH : HR B cA D s H locs sh R M) (hn : n < sh.length) (he : va_at D vwCl (B + n, el B cA (sk sh n).1 (sk sh n).2 (R' n) (M' n)) H1) (z : H1.size = H.size) (oq : ∀ q : Nat, q ≠ B + n → H1[q]? = H[q]?) (hR : ∀ q : Nat, q ≠ n → R' q = R q) (hM : ∀ q : Nat, q ≠ n → M' q = M q) (hrn : RN sh R' M') : HR B cA D s H1 (locs ++ [⟨B + n, i⟩]) sh R' M' := by
  obtain ⟨h1, h2, h3, -⟩ := hH
  refine ⟨?_, h2.put z oq (Nat.le_add_right B n), by rw [z, h3], hrn⟩
  have := h1.set wo_D (wo_get (B := B) (cA := cA) (R := R) (M := M) hn) he oq
  rwa [wo_set hn rfl hR hM] at this
theorem RN.st {sh : SHP} {R M : MEM} {n j : Nat} {x : Int} (h : RN sh R M) (hx : ftag (sk sh n).1 j ≠ 2 → rngv (ftag (sk sh n).1 j) x) : RN sh R (stm M n j x) := by
  intro a i ha
  have h0 := h a i ha
  split at h0
  · exact h0
  · rename_i h2
    unfold stm
    split
    · rename_i h4
      have e1 : a = n := by omega
      have e2 : i = j := by omega
      subst e1
      subst e2
      exact hx h2
    · exact h0
theorem RN.str {sh : SHP} {R M : MEM} {n j : Nat} {x : Int} (h : RN sh R M) (hx : -1 ≤ x) : RN sh (stm R n j x) M := by
  intro a i ha
  have h0 := h a i ha
  split at h0
  · rename_i h2
    rw [h2] at h0 ⊢
    unfold stm
    split
    · exact hx
    · exact h0
  · exact h0
theorem st_ne {M : MEM} {a i v : Int} {q : Int} (h : q ≠ a) : stm M a i v q = M q := by
  funext j
  unfold stm
  rw [if_neg (fun z => h z.1)]
theorem st_at {M : MEM} {a i v : Int} (j : Int) : stm M a i v a j = if j = i then v else M a j := by
  unfold stm
  by_cases h : j = i <;> simp [h]
theorem bnar {x : Int} (h : x = 0 ∨ x = 1) : narrow .boolean (.int (Int32.ofInt x)) = .int (Int32.ofInt x) := by
  rcases h with rfl | rfl <;> rfl
theorem w8_nar (x : Int) : narrow .byte (.int (Int32.ofInt x)) = .int (Int32.ofInt (w8 x)) := by
  unfold w8
  rw [oi32]
  rfl
section
variable {p : Program} {l : Launch} {e : Env} {Rm : Room} {s : State} {mm : MethodId} {args : Array Value} {below : List Frame} {meth : Method} {c : Code} {Qw : State → Prop}
variable {B : Nat} {cA : Nat → ClassId} {ex : Nat → Nat} {D : va_G} {nL mc ms : Nat} {cc : ByteArray} {pc : Nat} {k : NXT} {ls st : List AV} {sh : SHP} {R M : MEM} {cb sb : Nat}
theorem sd_iaload0 (hx : p.tables.exec = Jvm.exec) (hb : c.code = cc) (hK : va_K D vwCl (TYS cA) s) (hdg : decode cc pc = .ok (.iaload, 1)) (hk : ∀ ls st sh R M cb sb, k ls st sh R M cb sb → WG p l e Rm s mm args below meth c Qw B cA ex D nL mc ms (pc + 1) ls st sh R M cb sb) (h0 : pI st fun j t => pR t fun a t => aok sh 100 a j (k ls (vi (M a j) :: t) sh R M cb sb)) : WG p l e Rm s mm args below meth c Qw B cA ex D nL mc ms pc ls st sh R M cb sb := by
  obtain ⟨j, t, rfl, h⟩ := pI_inv h0
  obtain ⟨a, t2, rfl, h⟩ := pR_inv h
  obtain ⟨hk0, hj0, hj1, h⟩ := aok_inv h
  obtain ⟨n, rfl, hn, hsk⟩ := shk_inv (sh := sh) (a := a) (by rw [hk0]; decide)
  rw [hsk] at hk0 hj1
  intro H locs cells slots lsA hH hL hS h1 h2
  obtain ⟨hP, hSx, hz, hrn⟩ := hH
  have hg := wo_get (B := B) (cA := cA) (R := R) (M := M) hn
  rw [hk0] at hg
  have hjr : rngv 0 j := hS.hd
  have hvp := in32 hjr hj0 hj1
  have hcl := clamp32 hjr hj0
  obtain ⟨jn, rfl⟩ := Int.eq_ofNat_of_zero_le hj0
  have hr0 := hrn n jn hn
  rw [hk0] at hr0
  have hh := hk _ _ _ _ _ _ _ h H locs cells slots lsA ⟨hP, hSx, hz, hrn⟩ hL (SQ.cons (hr0) hS.tl.tl) h1 h2
  rw [map_cv_cons] at hh
  refine va_iald (pc := pc) hx hb hK hP n 0 hg rfl hvp hdg ?_
  rw [hcl]
  exact hh
theorem sd_laload (hx : p.tables.exec = Jvm.exec) (hb : c.code = cc) (hK : va_K D vwCl (TYS cA) s) (hdg : decode cc pc = .ok (.laload, 1)) (hk : ∀ ls st sh R M cb sb, k ls st sh R M cb sb → WG p l e Rm s mm args below meth c Qw B cA ex D nL mc ms (pc + 1) ls st sh R M cb sb) (h0 : pI st fun j t => pR t fun a t => aok sh 101 a j (k ls (vl (M a j) :: t) sh R M cb sb)) : WG p l e Rm s mm args below meth c Qw B cA ex D nL mc ms pc ls st sh R M cb sb := by
  obtain ⟨j, t, rfl, h⟩ := pI_inv h0
  obtain ⟨a, t2, rfl, h⟩ := pR_inv h
  obtain ⟨hk0, hj0, hj1, h⟩ := aok_inv h
  obtain ⟨n, rfl, hn, hsk⟩ := shk_inv (sh := sh) (a := a) (by rw [hk0]; decide)
  rw [hsk] at hk0 hj1
  intro H locs cells slots lsA hH hL hS h1 h2
  obtain ⟨hP, hSx, hz, hrn⟩ := hH
  have hg := wo_get (B := B) (cA := cA) (R := R) (M := M) hn
  rw [hk0] at hg
  have hjr : rngv 0 j := hS.hd
  have hvp := in32 hjr hj0 hj1
  have hcl := clamp32 hjr hj0
  obtain ⟨jn, rfl⟩ := Int.eq_ofNat_of_zero_le hj0
  have hr0 := hrn n jn hn
  rw [hk0] at hr0
  have hh := hk _ _ _ _ _ _ _ h H locs cells slots lsA ⟨hP, hSx, hz, hrn⟩ hL (SQ.cons (hr0) hS.tl.tl) h1 h2
  rw [map_cv_cons] at hh
  refine va_lald (pc := pc) hx hb hK hP n 1 hg rfl hvp hdg ?_
  rw [hcl]
  exact hh
theorem sd_baloadB (hx : p.tables.exec = Jvm.exec) (hb : c.code = cc) (hK : va_K D vwCl (TYS cA) s) (hdg : decode cc pc = .ok (.baload, 1)) (hk : ∀ ls st sh R M cb sb, k ls st sh R M cb sb → WG p l e Rm s mm args below meth c Qw B cA ex D nL mc ms (pc + 1) ls st sh R M cb sb) (h0 : pI st fun j t => pR t fun a t => aok sh 102 a j (k ls (vi (M a j) :: t) sh R M cb sb)) : WG p l e Rm s mm args below meth c Qw B cA ex D nL mc ms pc ls st sh R M cb sb := by
  obtain ⟨j, t, rfl, h⟩ := pI_inv h0
  obtain ⟨a, t2, rfl, h⟩ := pR_inv h
  obtain ⟨hk0, hj0, hj1, h⟩ := aok_inv h
  obtain ⟨n, rfl, hn, hsk⟩ := shk_inv (sh := sh) (a := a) (by rw [hk0]; decide)
  rw [hsk] at hk0 hj1
  intro H locs cells slots lsA hH hL hS h1 h2
  obtain ⟨hP, hSx, hz, hrn⟩ := hH
  have hg := wo_get (B := B) (cA := cA) (R := R) (M := M) hn
  rw [hk0] at hg
  have hjr : rngv 0 j := hS.hd
  have hvp := in32 hjr hj0 hj1
  have hcl := clamp32 hjr hj0
  obtain ⟨jn, rfl⟩ := Int.eq_ofNat_of_zero_le hj0
  have hr0 := hrn n jn hn
  rw [hk0] at hr0
  have hh := hk _ _ _ _ _ _ _ h H locs cells slots lsA ⟨hP, hSx, hz, hrn⟩ hL (SQ.cons (hr0) hS.tl.tl) h1 h2
  rw [map_cv_cons] at hh
  refine va_bald (pc := pc) hx hb hK hP n 2 hg rfl hvp hdg ?_
  rw [hcl]
  exact hh
theorem sd_baloadZ (hx : p.tables.exec = Jvm.exec) (hb : c.code = cc) (hK : va_K D vwCl (TYS cA) s) (hdg : decode cc pc = .ok (.baload, 1)) (hk : ∀ ls st sh R M cb sb, k ls st sh R M cb sb → WG p l e Rm s mm args below meth c Qw B cA ex D nL mc ms (pc + 1) ls st sh R M cb sb) (h0 : pI st fun j t => pR t fun a t => aok sh 103 a j (k ls (vi (M a j) :: t) sh R M cb sb)) : WG p l e Rm s mm args below meth c Qw B cA ex D nL mc ms pc ls st sh R M cb sb := by
  obtain ⟨j, t, rfl, h⟩ := pI_inv h0
  obtain ⟨a, t2, rfl, h⟩ := pR_inv h
  obtain ⟨hk0, hj0, hj1, h⟩ := aok_inv h
  obtain ⟨n, rfl, hn, hsk⟩ := shk_inv (sh := sh) (a := a) (by rw [hk0]; decide)
  rw [hsk] at hk0 hj1
  intro H locs cells slots lsA hH hL hS h1 h2
  obtain ⟨hP, hSx, hz, hrn⟩ := hH
  have hg := wo_get (B := B) (cA := cA) (R := R) (M := M) hn
  rw [hk0] at hg
  have hjr : rngv 0 j := hS.hd
  have hvp := in32 hjr hj0 hj1
  have hcl := clamp32 hjr hj0
  obtain ⟨jn, rfl⟩ := Int.eq_ofNat_of_zero_le hj0
  have hr0 := hrn n jn hn
  rw [hk0] at hr0
  have hh := hk _ _ _ _ _ _ _ h H locs cells slots lsA ⟨hP, hSx, hz, hrn⟩ hL (SQ.cons (hr0) hS.tl.tl) h1 h2
  rw [map_cv_cons] at hh
  refine va_zald (pc := pc) hx hb hK hP n 3 hg rfl hvp hdg ?_
  rw [hcl]
  exact hh
theorem sd_aaload4 (hx : p.tables.exec = Jvm.exec) (hb : c.code = cc) (hK : va_K D vwCl (TYS cA) s) (hdg : decode cc pc = .ok (.aaload, 1)) (hk : ∀ ls st sh R M cb sb, k ls st sh R M cb sb → WG p l e Rm s mm args below meth c Qw B cA ex D nL mc ms (pc + 1) ls st sh R M cb sb) (h0 : pI st fun j t => pR t fun a t => aok sh 104 a j (k ls (vr (R a j) :: t) sh R M cb sb)) : WG p l e Rm s mm args below meth c Qw B cA ex D nL mc ms pc ls st sh R M cb sb := by
  obtain ⟨j, t, rfl, h⟩ := pI_inv h0
  obtain ⟨a, t2, rfl, h⟩ := pR_inv h
  obtain ⟨hk0, hj0, hj1, h⟩ := aok_inv h
  obtain ⟨n, rfl, hn, hsk⟩ := shk_inv (sh := sh) (a := a) (by rw [hk0]; decide)
  rw [hsk] at hk0 hj1
  intro H locs cells slots lsA hH hL hS h1 h2
  obtain ⟨hP, hSx, hz, hrn⟩ := hH
  have hg := wo_get (B := B) (cA := cA) (R := R) (M := M) hn
  rw [hk0] at hg
  have hjr : rngv 0 j := hS.hd
  have hvp := in32 hjr hj0 hj1
  have hcl := clamp32 hjr hj0
  obtain ⟨jn, rfl⟩ := Int.eq_ofNat_of_zero_le hj0
  have hr0 := hrn n jn hn
  rw [hk0] at hr0
  have hh := hk _ _ _ _ _ _ _ h H locs cells slots lsA ⟨hP, hSx, hz, hrn⟩ hL (SQ.cons hr0 hS.tl.tl) h1 h2
  rw [map_cv_cons, show cv B ex (vr (R n jn)) = rv B (R n jn) from rfl, rv_ro] at hh
  refine va_aldq (pc := pc) hx hb hK hP n 4 hg rfl hvp hdg ?_
  rw [hcl]
  exact hh
theorem sd_aaload5 (hx : p.tables.exec = Jvm.exec) (hb : c.code = cc) (hK : va_K D vwCl (TYS cA) s) (hdg : decode cc pc = .ok (.aaload, 1)) (hk : ∀ ls st sh R M cb sb, k ls st sh R M cb sb → WG p l e Rm s mm args below meth c Qw B cA ex D nL mc ms (pc + 1) ls st sh R M cb sb) (h0 : pI st fun j t => pR t fun a t => aok sh 105 a j (k ls (vr (R a j) :: t) sh R M cb sb)) : WG p l e Rm s mm args below meth c Qw B cA ex D nL mc ms pc ls st sh R M cb sb := by
  obtain ⟨j, t, rfl, h⟩ := pI_inv h0
  obtain ⟨a, t2, rfl, h⟩ := pR_inv h
  obtain ⟨hk0, hj0, hj1, h⟩ := aok_inv h
  obtain ⟨n, rfl, hn, hsk⟩ := shk_inv (sh := sh) (a := a) (by rw [hk0]; decide)
  rw [hsk] at hk0 hj1
  intro H locs cells slots lsA hH hL hS h1 h2
  obtain ⟨hP, hSx, hz, hrn⟩ := hH
  have hg := wo_get (B := B) (cA := cA) (R := R) (M := M) hn
  rw [hk0] at hg
  have hjr : rngv 0 j := hS.hd
  have hvp := in32 hjr hj0 hj1
  have hcl := clamp32 hjr hj0
  obtain ⟨jn, rfl⟩ := Int.eq_ofNat_of_zero_le hj0
  have hr0 := hrn n jn hn
  rw [hk0] at hr0
  have hh := hk _ _ _ _ _ _ _ h H locs cells slots lsA ⟨hP, hSx, hz, hrn⟩ hL (SQ.cons hr0 hS.tl.tl) h1 h2
  rw [map_cv_cons, show cv B ex (vr (R n jn)) = rv B (R n jn) from rfl, rv_ro] at hh
  have hlt : (Int32.ofInt (jn : Int)).toNatClampNeg < (sk sh n).2 := Nat.not_le.mp fun q => hvp (Or.inr q)
  refine W.aald (v := va_rf (ro B (R n jn))) (ty := .array .int) hx hb (hP n _ hg) ((hK.2 5 _ rfl).1 (sk sh n).2 (fun j => va_rf (ro B (R n j)))) rfl (fun q => by cases q) (by show ¬ (_ ∨ (arrV _ _ _).slots.size ≤ _); rw [arrV_size]; exact hvp) (by show (arrV _ _ _).slots[_]? = _; rw [arrV_read _ _ hlt, hcl]; rfl) rfl rfl hdg hh
theorem sd_iastore (hx : p.tables.exec = Jvm.exec) (hb : c.code = cc) (hK : va_K D vwCl (TYS cA) s) (hdg : decode cc pc = .ok (.iastore, 1)) (hk : ∀ ls st sh R M cb sb, k ls st sh R M cb sb → WG p l e Rm s mm args below meth c Qw B cA ex D nL mc ms (pc + 1) ls st sh R M cb sb) (h0 : pI st fun v t => pI t fun j t => pR t fun a t => aok sh 100 a j (k ls t sh R (stm M a j v) cb sb)) : WG p l e Rm s mm args below meth c Qw B cA ex D nL mc ms pc ls st sh R M cb sb := by
  obtain ⟨v, t, rfl, h⟩ := pI_inv h0
  obtain ⟨j, t, rfl, h⟩ := pI_inv h
  obtain ⟨a, t, rfl, h⟩ := pR_inv h
  obtain ⟨hk0, hj0, hj1, h⟩ := aok_inv h
  obtain ⟨n, rfl, hn, hsk⟩ := shk_inv (sh := sh) (a := a) (by rw [hk0]; decide)
  rw [hsk] at hk0 hj1
  intro H locs cells slots lsA hH hL hS h1 h2
  have hP := hH.1
  have hg := wo_get (B := B) (cA := cA) (R := R) (M := M) hn
  rw [hk0] at hg
  have hjr : rngv 0 j := hS.tl.hd
  have hvp := in32 hjr hj0 hj1
  have hcl := clamp32 hjr hj0
  obtain ⟨jn, rfl⟩ := Int.eq_ofNat_of_zero_le hj0
  rw [Int.toNat_natCast] at hcl
  refine W.iast hx hb (hP n _ hg) ((hK.2 0 _ rfl).1 (sk sh n).2 (fun j => .int (Int32.ofInt (M n j)))) (fun q => by cases q) (by show ¬ (_ ∨ (arrV _ _ _).slots.size ≤ _); rw [arrV_size]; exact hvp) rfl rfl hdg fun H1 e1 z oq => ?_
  refine hk _ _ _ _ _ _ _ h H1 _ cells slots lsA (hH.upd hn ?_ z oq (fun _ _ => rfl) (fun q hq => st_ne (by omega)) (hH.2.2.2.st (fun _ => ?_))) hL hS.tl.tl.tl h1 h2
  · rw [hk0]
    show H1[B + n]? = some (vp_cell _ _)
    rw [e1]
    rw [vp_cell_i, vp_cell_i, arrV_store, hcl]
    refine congrArg some (congrArg (arrV _ _) ?_)
    funext q
    rw [st_at]
    unfold updV
    by_cases hq : q = jn
    · subst hq
      rw [if_pos rfl, if_pos rfl]
      try first | rfl | exact rfl
    · rw [if_neg hq, if_neg (by omega)]
  · rw [hk0]
    exact hS.hd
theorem sd_lastore (hx : p.tables.exec = Jvm.exec) (hb : c.code = cc) (hK : va_K D vwCl (TYS cA) s) (hdg : decode cc pc = .ok (.lastore, 1)) (hk : ∀ ls st sh R M cb sb, k ls st sh R M cb sb → WG p l e Rm s mm args below meth c Qw B cA ex D nL mc ms (pc + 1) ls st sh R M cb sb) (h0 : pL st fun v t => pI t fun j t => pR t fun a t => aok sh 101 a j (k ls t sh R (stm M a j v) cb sb)) : WG p l e Rm s mm args below meth c Qw B cA ex D nL mc ms pc ls st sh R M cb sb := by
  obtain ⟨v, t, rfl, h⟩ := pL_inv h0
  obtain ⟨j, t, rfl, h⟩ := pI_inv h
  obtain ⟨a, t, rfl, h⟩ := pR_inv h
  obtain ⟨hk0, hj0, hj1, h⟩ := aok_inv h
  obtain ⟨n, rfl, hn, hsk⟩ := shk_inv (sh := sh) (a := a) (by rw [hk0]; decide)
  rw [hsk] at hk0 hj1
  intro H locs cells slots lsA hH hL hS h1 h2
  have hP := hH.1
  have hg := wo_get (B := B) (cA := cA) (R := R) (M := M) hn
  rw [hk0] at hg
  have hjr : rngv 0 j := hS.tl.hd
  have hvp := in32 hjr hj0 hj1
  have hcl := clamp32 hjr hj0
  obtain ⟨jn, rfl⟩ := Int.eq_ofNat_of_zero_le hj0
  rw [Int.toNat_natCast] at hcl
  refine W.last hx hb (hP n _ hg) ((hK.2 1 _ rfl).1 (sk sh n).2 (fun j => .long (Int64.ofInt (M n j)))) (fun q => by cases q) (by show ¬ (_ ∨ (arrV _ _ _).slots.size ≤ _); rw [arrV_size]; exact hvp) rfl rfl hdg fun H1 e1 z oq => ?_
  refine hk _ _ _ _ _ _ _ h H1 _ cells slots lsA (hH.upd hn ?_ z oq (fun _ _ => rfl) (fun q hq => st_ne (by omega)) (hH.2.2.2.st (fun _ => ?_))) hL hS.tl.tl.tl h1 h2
  · rw [hk0]
    show H1[B + n]? = some (vp_cell _ _)
    rw [e1]
    rw [vp_cell_l, vp_cell_l, arrV_store, hcl]
    refine congrArg some (congrArg (arrV _ _) ?_)
    funext q
    rw [st_at]
    unfold updV
    by_cases hq : q = jn
    · subst hq
      rw [if_pos rfl, if_pos rfl]
      try first | rfl | exact rfl
    · rw [if_neg hq, if_neg (by omega)]
  · rw [hk0]
    exact hS.hd
theorem sd_bastoreB (hx : p.tables.exec = Jvm.exec) (hb : c.code = cc) (hK : va_K D vwCl (TYS cA) s) (hdg : decode cc pc = .ok (.bastore, 1)) (hk : ∀ ls st sh R M cb sb, k ls st sh R M cb sb → WG p l e Rm s mm args below meth c Qw B cA ex D nL mc ms (pc + 1) ls st sh R M cb sb) (h0 : pI st fun v t => pI t fun j t => pR t fun a t => aok sh 102 a j (k ls t sh R (stm M a j (w8 v)) cb sb)) : WG p l e Rm s mm args below meth c Qw B cA ex D nL mc ms pc ls st sh R M cb sb := by
  obtain ⟨v, t, rfl, h⟩ := pI_inv h0
  obtain ⟨j, t, rfl, h⟩ := pI_inv h
  obtain ⟨a, t, rfl, h⟩ := pR_inv h
  obtain ⟨hk0, hj0, hj1, h⟩ := aok_inv h
  obtain ⟨n, rfl, hn, hsk⟩ := shk_inv (sh := sh) (a := a) (by rw [hk0]; decide)
  rw [hsk] at hk0 hj1
  intro H locs cells slots lsA hH hL hS h1 h2
  have hP := hH.1
  have hg := wo_get (B := B) (cA := cA) (R := R) (M := M) hn
  rw [hk0] at hg
  have hjr : rngv 0 j := hS.tl.hd
  have hvp := in32 hjr hj0 hj1
  have hcl := clamp32 hjr hj0
  obtain ⟨jn, rfl⟩ := Int.eq_ofNat_of_zero_le hj0
  rw [Int.toNat_natCast] at hcl
  refine W.bast hx hb (hP n _ hg) ((hK.2 2 _ rfl).1 (sk sh n).2 (fun j => .int (Int32.ofInt (M n j)))) (fun q => by cases q) (by show ¬ (_ ∨ (arrV _ _ _).slots.size ≤ _); rw [arrV_size]; exact hvp) rfl rfl hdg fun H1 e1 z oq => ?_
  refine hk _ _ _ _ _ _ _ h H1 _ cells slots lsA (hH.upd hn ?_ z oq (fun _ _ => rfl) (fun q hq => st_ne (by omega)) (hH.2.2.2.st (fun _ => ?_))) hL hS.tl.tl.tl h1 h2
  · rw [hk0]
    show H1[B + n]? = some (vp_cell _ _)
    rw [e1]
    rw [vp_cell_i, vp_cell_i, arrV_store, hcl]
    refine congrArg some (congrArg (arrV _ _) ?_)
    funext q
    rw [st_at]
    unfold updV
    by_cases hq : q = jn
    · subst hq
      rw [if_pos rfl, if_pos rfl]
      try first | rfl | exact w8_nar v
    · rw [if_neg hq, if_neg (by omega)]
  · rw [hk0]
    exact i32_rng _
theorem sd_bastoreZ (hx : p.tables.exec = Jvm.exec) (hb : c.code = cc) (hK : va_K D vwCl (TYS cA) s) (hdg : decode cc pc = .ok (.bastore, 1)) (hk : ∀ ls st sh R M cb sb, k ls st sh R M cb sb → WG p l e Rm s mm args below meth c Qw B cA ex D nL mc ms (pc + 1) ls st sh R M cb sb) (h0 : pI st fun v t => pI t fun j t => pR t fun a t => aok sh 103 a j (bq v (k ls t sh R (stm M a j v) cb sb))) : WG p l e Rm s mm args below meth c Qw B cA ex D nL mc ms pc ls st sh R M cb sb := by
  obtain ⟨v, t, rfl, h⟩ := pI_inv h0
  obtain ⟨j, t, rfl, h⟩ := pI_inv h
  obtain ⟨a, t, rfl, h⟩ := pR_inv h
  obtain ⟨hk0, hj0, hj1, h⟩ := aok_inv h
  obtain ⟨hv1, h⟩ := bq_inv h
  obtain ⟨n, rfl, hn, hsk⟩ := shk_inv (sh := sh) (a := a) (by rw [hk0]; decide)
  rw [hsk] at hk0 hj1
  intro H locs cells slots lsA hH hL hS h1 h2
  have hP := hH.1
  have hg := wo_get (B := B) (cA := cA) (R := R) (M := M) hn
  rw [hk0] at hg
  have hjr : rngv 0 j := hS.tl.hd
  have hvp := in32 hjr hj0 hj1
  have hcl := clamp32 hjr hj0
  obtain ⟨jn, rfl⟩ := Int.eq_ofNat_of_zero_le hj0
  rw [Int.toNat_natCast] at hcl
  refine W.zast hx hb (hP n _ hg) ((hK.2 3 _ rfl).1 (sk sh n).2 (fun j => .int (Int32.ofInt (M n j)))) (fun q => by cases q) (by show ¬ (_ ∨ (arrV _ _ _).slots.size ≤ _); rw [arrV_size]; exact hvp) rfl rfl hdg fun H1 e1 z oq => ?_
  refine hk _ _ _ _ _ _ _ h H1 _ cells slots lsA (hH.upd hn ?_ z oq (fun _ _ => rfl) (fun q hq => st_ne (by omega)) (hH.2.2.2.st (fun _ => ?_))) hL hS.tl.tl.tl h1 h2
  · rw [hk0]
    show H1[B + n]? = some (vp_cell _ _)
    rw [e1]
    rw [vp_cell_i, vp_cell_i, arrV_store, hcl]
    refine congrArg some (congrArg (arrV _ _) ?_)
    funext q
    rw [st_at]
    unfold updV
    by_cases hq : q = jn
    · subst hq
      rw [if_pos rfl, if_pos rfl]
      try first | rfl | exact bnar hv1
    · rw [if_neg hq, if_neg (by omega)]
  · rw [hk0]
    exact hS.hd
theorem sd_alen (hx : p.tables.exec = Jvm.exec) (hb : c.code = cc) (hK : va_K D vwCl (TYS cA) s) {a : Int} {t : List AV} (hst : st = (2, a) :: t) (hdg : decode cc pc = .ok (.arraylength, 1)) (hk : ∀ ls st sh R M cb sb, k ls st sh R M cb sb → WG p l e Rm s mm args below meth c Qw B cA ex D nL mc ms (pc + 1) ls st sh R M cb sb) (h0 : bud (Nat.ble 100 (shk sh a).1 && Nat.ble (shk sh a).1 105 && Nat.ble (shk sh a).2 100000) (k ls (vi (Int.ofNat (shk sh a).2) :: t) sh R M cb sb)) : WG p l e Rm s mm args below meth c Qw B cA ex D nL mc ms pc ls st sh R M cb sb := by
  obtain ⟨hb1, h⟩ := bud_inv h0
  subst hst
  rw [Bool.and_eq_true, Bool.and_eq_true] at hb1
  have b1 := Nat.le_of_ble_eq_true hb1.1.1
  have b2 := Nat.le_of_ble_eq_true hb1.1.2
  have b3 := Nat.le_of_ble_eq_true hb1.2
  obtain ⟨n, rfl, hn, hsk⟩ := shk_inv (sh := sh) (a := a) (by omega)
  rw [hsk] at b1 b2 b3 h
  have hlen : (sk sh n).2 < 2147483648 := by omega
  intro H locs cells slots lsA hH hL hS h1 h2
  have hg := wo_get (B := B) (cA := cA) (R := R) (M := M) hn
  have hh := hk _ _ _ _ _ _ _ h H locs cells slots lsA hH hL (SQ.cons (show rngv 0 (((sk sh n).2 : Nat) : Int) from ⟨by omega, by omega⟩) hS.tl) h1 h2
  generalize hkd : (sk sh n).1 = kd at hg b1 b2
  have hcase : kd = 100 ∨ kd = 101 ∨ kd = 102 ∨ kd = 103 ∨ kd = 104 ∨ kd = 105 := by omega
  rcases hcase with rfl | rfl | rfl | rfl | rfl | rfl
  · exact va_alen hx hb hK hH.1 n 0 hg (ty := .int) rfl rfl hdg hh
  · exact va_alen hx hb hK hH.1 n 1 hg (ty := .long) rfl rfl hdg hh
  · exact va_alen hx hb hK hH.1 n 2 hg (ty := .byte) rfl rfl hdg hh
  · exact va_alen hx hb hK hH.1 n 3 hg (ty := .boolean) rfl rfl hdg hh
  · exact va_alen hx hb hK hH.1 n 4 hg (ty := .object "GeeseSums$Sky") rfl rfl hdg hh
  · exact va_alen hx hb hK hH.1 n 5 hg (ty := .array .int) rfl rfl hdg hh
theorem sd_getR (hx : p.tables.exec = Jvm.exec) (hb : c.code = cc) (hK : va_K D vwCl (TYS cA) s) (hts : ∀ w ∈ TBg, w.before args s = true) {own C : String} {T : u_T} {N ci slot index : Nat} (hci : ci < 100) (hcl : vwCl[ci]? = some (C, T, N)) (hin : ∀ w ∈ u_ws C T N, w ∈ TBg) (hsl : slot < N) (hnF : nF ci = N) (hown : s.vm.findClass own = some mm.cls) (hlink : (Cond.fieldLink own index (T slot).1 (T slot).2.1 (T slot).2.2.1).before args s = true) (htg : ftag ci slot = 2) (hdg : decode cc pc = .ok (.getfield index, 3)) (hk : ∀ ls st sh R M cb sb, k ls st sh R M cb sb → WG p l e Rm s mm args below meth c Qw B cA ex D nL mc ms (pc + 3) ls st sh R M cb sb) (h0 : pR st fun a t => ook sh ci a (k ls (vr (R a (slot : Nat)) :: t) sh R M cb sb)) : WG p l e Rm s mm args below meth c Qw B cA ex D nL mc ms pc ls st sh R M cb sb := by
  obtain ⟨a, t, rfl, h⟩ := pR_inv h0
  obtain ⟨hk0, h⟩ := ook_inv h
  obtain ⟨n, rfl, hn, hsk⟩ := shk_inv (sh := sh) (a := a) (by rw [hk0]; omega)
  rw [hsk] at hk0
  intro H locs cells slots lsA hH hL hS h1 h2
  have hg := wo_get (B := B) (cA := cA) (R := R) (M := M) hn
  rw [hk0, el_obj hci] at hg
  have hr0 := hH.2.2.2 n slot hn
  rw [hk0, htg] at hr0
  have hh := hk _ _ _ _ _ _ _ h H locs cells slots lsA hH hL (SQ.cons hr0 hS.tl) h1 h2
  exact va_get hx hb hts hin hown hK hH.1 n hg hcl slot hsl hlink (fun _ z => z) (by rw [fvs_get (by rw [hnF]; exact hsl), htg]; rfl) hdg hh
theorem sd_getL (hx : p.tables.exec = Jvm.exec) (hb : c.code = cc) (hK : va_K D vwCl (TYS cA) s) (hts : ∀ w ∈ TBg, w.before args s = true) {own C : String} {T : u_T} {N ci slot index : Nat} (hci : ci < 100) (hcl : vwCl[ci]? = some (C, T, N)) (hin : ∀ w ∈ u_ws C T N, w ∈ TBg) (hsl : slot < N) (hnF : nF ci = N) (hown : s.vm.findClass own = some mm.cls) (hlink : (Cond.fieldLink own index (T slot).1 (T slot).2.1 (T slot).2.2.1).before args s = true) (htg : ftag ci slot = 1) (hdg : decode cc pc = .ok (.getfield index, 3)) (hk : ∀ ls st sh R M cb sb, k ls st sh R M cb sb → WG p l e Rm s mm args below meth c Qw B cA ex D nL mc ms (pc + 3) ls st sh R M cb sb) (h0 : pR st fun a t => ook sh ci a (k ls (vl (M a (slot : Nat)) :: t) sh R M cb sb)) : WG p l e Rm s mm args below meth c Qw B cA ex D nL mc ms pc ls st sh R M cb sb := by
  obtain ⟨a, t, rfl, h⟩ := pR_inv h0
  obtain ⟨hk0, h⟩ := ook_inv h
  obtain ⟨n, rfl, hn, hsk⟩ := shk_inv (sh := sh) (a := a) (by rw [hk0]; omega)
  rw [hsk] at hk0
  intro H locs cells slots lsA hH hL hS h1 h2
  have hg := wo_get (B := B) (cA := cA) (R := R) (M := M) hn
  rw [hk0, el_obj hci] at hg
  have hr0 := hH.2.2.2 n slot hn
  rw [hk0, htg] at hr0
  have hh := hk _ _ _ _ _ _ _ h H locs cells slots lsA hH hL (SQ.cons hr0 hS.tl) h1 h2
  exact va_get hx hb hts hin hown hK hH.1 n hg hcl slot hsl hlink (fun _ z => z) (by rw [fvs_get (by rw [hnF]; exact hsl), htg]; rfl) hdg hh
theorem sd_getI (hx : p.tables.exec = Jvm.exec) (hb : c.code = cc) (hK : va_K D vwCl (TYS cA) s) (hts : ∀ w ∈ TBg, w.before args s = true) {own C : String} {T : u_T} {N ci slot index : Nat} (hci : ci < 100) (hcl : vwCl[ci]? = some (C, T, N)) (hin : ∀ w ∈ u_ws C T N, w ∈ TBg) (hsl : slot < N) (hnF : nF ci = N) (hown : s.vm.findClass own = some mm.cls) (hlink : (Cond.fieldLink own index (T slot).1 (T slot).2.1 (T slot).2.2.1).before args s = true) (htg : ftag ci slot = 0) (hdg : decode cc pc = .ok (.getfield index, 3)) (hk : ∀ ls st sh R M cb sb, k ls st sh R M cb sb → WG p l e Rm s mm args below meth c Qw B cA ex D nL mc ms (pc + 3) ls st sh R M cb sb) (h0 : pR st fun a t => ook sh ci a (k ls (vi (M a (slot : Nat)) :: t) sh R M cb sb)) : WG p l e Rm s mm args below meth c Qw B cA ex D nL mc ms pc ls st sh R M cb sb := by
  obtain ⟨a, t, rfl, h⟩ := pR_inv h0
  obtain ⟨hk0, h⟩ := ook_inv h
  obtain ⟨n, rfl, hn, hsk⟩ := shk_inv (sh := sh) (a := a) (by rw [hk0]; omega)
  rw [hsk] at hk0
  intro H locs cells slots lsA hH hL hS h1 h2
  have hg := wo_get (B := B) (cA := cA) (R := R) (M := M) hn
  rw [hk0, el_obj hci] at hg
  have hr0 := hH.2.2.2 n slot hn
  rw [hk0, htg] at hr0
  have hh := hk _ _ _ _ _ _ _ h H locs cells slots lsA hH hL (SQ.cons hr0 hS.tl) h1 h2
  exact va_get hx hb hts hin hown hK hH.1 n hg hcl slot hsl hlink (fun _ z => z) (by rw [fvs_get (by rw [hnF]; exact hsl), htg]; rfl) hdg hh
/-- a store into a field: what it needs of the value, and what of the new numbers -/
theorem sd_put0 (hx : p.tables.exec = Jvm.exec) (hb : c.code = cc) (hK : va_K D vwCl (TYS cA) s) (hts : ∀ w ∈ TBg, w.before args s = true) {own C : String} {T : u_T} {N ci slot index : Nat} (hci : ci < 100) (hcl : vwCl[ci]? = some (C, T, N)) (hin : ∀ w ∈ u_ws C T N, w ∈ TBg) (hsl : slot < N) (hnF : nF ci = N) (hown : s.vm.findClass own = some mm.cls) (hlink : (Cond.fieldLink own index (T slot).1 (T slot).2.1 (T slot).2.2.1).before args s = true) (ty0 : Nat → FieldType) (hty : ∀ k, k < N → parseFieldDescriptor (T k).2.2.1 = some (ty0 k)) (hnm : ∀ a, a < N → ∀ b, b < N → a ≠ b → (T a).2.1 ≠ (T b).2.1) (hfin : (T slot).2.2.2 = false ∨ ((T slot).2.2.2 = true ∧ meth.name = "<init>" ∧ (T slot).1 = own)) (hdg : decode cc pc = .ok (.putfield index, 3)) {n : Nat} (hn : n < sh.length) (hk0 : (sk sh n).1 = ci) {v : Value} (hnar : narrow (ty0 slot) v = v) (hfit : fits (ty0 slot) v = true) {R' M' : MEM} (hv : v = fv B (ftag ci slot) (R' n slot) (M' n slot)) (hR : ∀ q : Nat, q ≠ n → R' q = R q) (hM : ∀ q : Nat, q ≠ n → M' q = M q) (hRn : ∀ i : Nat, i ≠ slot → R' n i = R n i) (hMn : ∀ i : Nat, i ≠ slot → M' n i = M n i) (hrn : RN sh R M → RN sh R' M') {H : Heap} {locs : List Loc} {cells slots : Nat} {lsA : Array Slot} {rest : List Value} (hH : HR B cA D s H locs sh R M)
    (kk : ∀ (H1 : Heap) (locs1 : List Loc), HR B cA D s H1 locs1 sh R' M' → W p l e Rm s mm args below meth c H1 locs1 cells slots Qw (F0 mm (pc + 3) lsA rest)) : W p l e Rm s mm args below meth c H locs cells slots Qw (F0 mm pc lsA (v :: .ref (B + n) :: rest)) := by
  have hg := wo_get (B := B) (cA := cA) (R := R) (M := M) hn
  rw [hk0, el_obj hci] at hg
  have hap := va_apart (own := own) hts hin ty0 hty hnm hK hcl
  obtain ⟨r, g1, cell, q1, q2, q3, q4⟩ := hH.1 n _ hg
  have hr : r = (C, T, N) := Option.some.inj (g1.symm.trans hcl)
  subst hr
  obtain ⟨hS, hfc, kC, hkC, hkind⟩ := hK.1 ci _ hcl
  obtain ⟨cf, kf, fi, f, hi, hfs⟩ := hS slot hsl
  have hst := (u_facts hfc hkC (u_lays hts hin hsl) hi).1
  have fin : ∀ H' : Heap, H'[B + n]? = some (cell.setSlot f.slot v) → H'.size = H.size → (∀ q : Nat, q ≠ B + n → H'[q]? = H[q]?) → W p l e Rm s mm args below meth c H' (locs ++ [⟨B + n, f.slot⟩]) cells slots Qw (F0 mm (pc + 3) lsA rest) := by
    intro H' e1 e2 e3
    refine kk H' _ (hH.upd hn ?_ e2 e3 hR hM (hrn hH.2.2.2))
    rw [hk0, el_obj hci]
    rw [hfs] at e1
    refine ⟨_, hcl, t_OB.to (V := updV (vp_V (fvs B ci (R n) (M n))) slot v) ⟨_, e1, q2, q3, t_set q4 hap hsl v⟩ (fun j _ => ?_)⟩
    rw [vp_updV_set (by rw [fvs_len, hnF]; exact hsl), fvs_set hv hRn hMn]
  rcases hfin with hf | ⟨hf, hmi, hdecl⟩
  · have hlay := hts _ (hin _ (u_in_lay hsl))
    unfold u_lay at hlay
    rw [if_neg (by rw [hf]; decide)] at hlay
    have h6 := u_store hfc hkC hkind hlay hi (hty slot hsl) hnar hfit
    exact W.putK hx hb (f := f) ⟨hown, hlink, ⟨_, _, _, hi⟩, hst⟩ (by rw [q2]; exact h6) q1 q3 (by rw [hfs]; exact k2_hasslot (q4 slot hsl)) rfl rfl hdg fin
  · have hlay := hts _ (hin _ (u_in_lay hsl))
    unfold u_lay at hlay
    rw [if_pos hf] at hlay
    have hcf : mm.cls = cf := by
      obtain ⟨_, _, c', _, _, _, -, -, hf', -, -, -, hown2, -⟩ := Cond.laysFinal_spec hlay
      have e1 : c' = cf := by have := hi.symm.trans hf'; simp at this; exact this.1.symm
      rw [hdecl] at hown2
      rw [← e1]; exact Option.some.inj (hown.symm.trans hown2)
    have h6 := u_fits hfc hkC hkind (Or.inr hlay) hi (hty slot hsl) hnar hfit
    exact W.putFinK hx hb hown hlink hi hst hcf hmi (by rw [q2]; exact h6) q1 q3 (by rw [hfs]; exact k2_hasslot (q4 slot hsl)) rfl rfl hdg fin
theorem sd_putI (hx : p.tables.exec = Jvm.exec) (hb : c.code = cc) (hK : va_K D vwCl (TYS cA) s) (hts : ∀ w ∈ TBg, w.before args s = true) {own C : String} {T : u_T} {N ci slot index : Nat} (hci : ci < 100) (hcl : vwCl[ci]? = some (C, T, N)) (hin : ∀ w ∈ u_ws C T N, w ∈ TBg) (hsl : slot < N) (hnF : nF ci = N) (hown : s.vm.findClass own = some mm.cls) (hlink : (Cond.fieldLink own index (T slot).1 (T slot).2.1 (T slot).2.2.1).before args s = true) (ty0 : Nat → FieldType) (hty : ∀ k, k < N → parseFieldDescriptor (T k).2.2.1 = some (ty0 k)) (hnm : ∀ a, a < N → ∀ b, b < N → a ≠ b → (T a).2.1 ≠ (T b).2.1) (hfin : (T slot).2.2.2 = false ∨ ((T slot).2.2.2 = true ∧ meth.name = "<init>" ∧ (T slot).1 = own)) (hty1 : ty0 slot = .int) (htg : ftag ci slot = 0) (hdg : decode cc pc = .ok (.putfield index, 3)) (hk : ∀ ls st sh R M cb sb, k ls st sh R M cb sb → WG p l e Rm s mm args below meth c Qw B cA ex D nL mc ms (pc + 3) ls st sh R M cb sb) (h0 : pI st fun v t => pR t fun a t => ook sh ci a (k ls t sh R (stm M a (slot : Nat) v) cb sb)) : WG p l e Rm s mm args below meth c Qw B cA ex D nL mc ms pc ls st sh R M cb sb := by
  obtain ⟨v, t, rfl, h⟩ := pI_inv h0
  obtain ⟨a, t, rfl, h⟩ := pR_inv h
  obtain ⟨hk0, h⟩ := ook_inv h
  obtain ⟨n, rfl, hn, hsk⟩ := shk_inv (sh := sh) (a := a) (by rw [hk0]; omega)
  rw [hsk] at hk0
  intro H locs cells slots lsA hH hL hS h1 h2
  refine sd_put0 (R' := R) (M' := (stm M n (slot : Nat) v)) hx hb hK hts hci hcl hin hsl hnF hown hlink ty0 hty hnm hfin hdg hn hk0 ?_ ?_ ?_ (fun _ _ => rfl) (fun q hq => st_ne (by omega)) (fun _ _ => rfl) (fun i hi => by rw [st_at, if_neg (by omega)]) (fun z => z.st (fun _ => by rw [hk0, htg]; exact hS.hd)) hH (fun H1 locs1 hH1 => hk _ _ _ _ _ _ _ h H1 locs1 cells slots lsA hH1 hL hS.tl.tl h1 h2)
  · rw [hty1]
    exact rfl
  · rw [hty1]
    exact rfl
  · rw [htg, st_at, if_pos rfl]
    rfl
theorem sd_putZ (hx : p.tables.exec = Jvm.exec) (hb : c.code = cc) (hK : va_K D vwCl (TYS cA) s) (hts : ∀ w ∈ TBg, w.before args s = true) {own C : String} {T : u_T} {N ci slot index : Nat} (hci : ci < 100) (hcl : vwCl[ci]? = some (C, T, N)) (hin : ∀ w ∈ u_ws C T N, w ∈ TBg) (hsl : slot < N) (hnF : nF ci = N) (hown : s.vm.findClass own = some mm.cls) (hlink : (Cond.fieldLink own index (T slot).1 (T slot).2.1 (T slot).2.2.1).before args s = true) (ty0 : Nat → FieldType) (hty : ∀ k, k < N → parseFieldDescriptor (T k).2.2.1 = some (ty0 k)) (hnm : ∀ a, a < N → ∀ b, b < N → a ≠ b → (T a).2.1 ≠ (T b).2.1) (hfin : (T slot).2.2.2 = false ∨ ((T slot).2.2.2 = true ∧ meth.name = "<init>" ∧ (T slot).1 = own)) (hty1 : ty0 slot = .boolean) (htg : ftag ci slot = 0) (hdg : decode cc pc = .ok (.putfield index, 3)) (hk : ∀ ls st sh R M cb sb, k ls st sh R M cb sb → WG p l e Rm s mm args below meth c Qw B cA ex D nL mc ms (pc + 3) ls st sh R M cb sb) (h0 : pI st fun v t => pR t fun a t => ook sh ci a (bq v (k ls t sh R (stm M a (slot : Nat) v) cb sb))) : WG p l e Rm s mm args below meth c Qw B cA ex D nL mc ms pc ls st sh R M cb sb := by
  obtain ⟨v, t, rfl, h⟩ := pI_inv h0
  obtain ⟨a, t, rfl, h⟩ := pR_inv h
  obtain ⟨hk0, h⟩ := ook_inv h
  obtain ⟨hv1, h⟩ := bq_inv h
  obtain ⟨n, rfl, hn, hsk⟩ := shk_inv (sh := sh) (a := a) (by rw [hk0]; omega)
  rw [hsk] at hk0
  intro H locs cells slots lsA hH hL hS h1 h2
  refine sd_put0 (R' := R) (M' := (stm M n (slot : Nat) v)) hx hb hK hts hci hcl hin hsl hnF hown hlink ty0 hty hnm hfin hdg hn hk0 ?_ ?_ ?_ (fun _ _ => rfl) (fun q hq => st_ne (by omega)) (fun _ _ => rfl) (fun i hi => by rw [st_at, if_neg (by omega)]) (fun z => z.st (fun _ => by rw [hk0, htg]; exact hS.hd)) hH (fun H1 locs1 hH1 => hk _ _ _ _ _ _ _ h H1 locs1 cells slots lsA hH1 hL hS.tl.tl h1 h2)
  · rw [hty1]
    exact bnar hv1
  · rw [hty1]
    exact by rcases hv1 with rfl | rfl <;> rfl
  · rw [htg, st_at, if_pos rfl]
    rfl
theorem sd_putL (hx : p.tables.exec = Jvm.exec) (hb : c.code = cc) (hK : va_K D vwCl (TYS cA) s) (hts : ∀ w ∈ TBg, w.before args s = true) {own C : String} {T : u_T} {N ci slot index : Nat} (hci : ci < 100) (hcl : vwCl[ci]? = some (C, T, N)) (hin : ∀ w ∈ u_ws C T N, w ∈ TBg) (hsl : slot < N) (hnF : nF ci = N) (hown : s.vm.findClass own = some mm.cls) (hlink : (Cond.fieldLink own index (T slot).1 (T slot).2.1 (T slot).2.2.1).before args s = true) (ty0 : Nat → FieldType) (hty : ∀ k, k < N → parseFieldDescriptor (T k).2.2.1 = some (ty0 k)) (hnm : ∀ a, a < N → ∀ b, b < N → a ≠ b → (T a).2.1 ≠ (T b).2.1) (hfin : (T slot).2.2.2 = false ∨ ((T slot).2.2.2 = true ∧ meth.name = "<init>" ∧ (T slot).1 = own)) (hty1 : ty0 slot = .long) (htg : ftag ci slot = 1) (hdg : decode cc pc = .ok (.putfield index, 3)) (hk : ∀ ls st sh R M cb sb, k ls st sh R M cb sb → WG p l e Rm s mm args below meth c Qw B cA ex D nL mc ms (pc + 3) ls st sh R M cb sb) (h0 : pL st fun v t => pR t fun a t => ook sh ci a (k ls t sh R (stm M a (slot : Nat) v) cb sb)) : WG p l e Rm s mm args below meth c Qw B cA ex D nL mc ms pc ls st sh R M cb sb := by
  obtain ⟨v, t, rfl, h⟩ := pL_inv h0
  obtain ⟨a, t, rfl, h⟩ := pR_inv h
  obtain ⟨hk0, h⟩ := ook_inv h
  obtain ⟨n, rfl, hn, hsk⟩ := shk_inv (sh := sh) (a := a) (by rw [hk0]; omega)
  rw [hsk] at hk0
  intro H locs cells slots lsA hH hL hS h1 h2
  refine sd_put0 (R' := R) (M' := (stm M n (slot : Nat) v)) hx hb hK hts hci hcl hin hsl hnF hown hlink ty0 hty hnm hfin hdg hn hk0 ?_ ?_ ?_ (fun _ _ => rfl) (fun q hq => st_ne (by omega)) (fun _ _ => rfl) (fun i hi => by rw [st_at, if_neg (by omega)]) (fun z => z.st (fun _ => by rw [hk0, htg]; exact hS.hd)) hH (fun H1 locs1 hH1 => hk _ _ _ _ _ _ _ h H1 locs1 cells slots lsA hH1 hL hS.tl.tl h1 h2)
  · rw [hty1]
    exact rfl
  · rw [hty1]
    exact rfl
  · rw [htg, st_at, if_pos rfl]
    rfl
theorem sd_putR (hx : p.tables.exec = Jvm.exec) (hb : c.code = cc) (hK : va_K D vwCl (TYS cA) s) (hts : ∀ w ∈ TBg, w.before args s = true) {own C : String} {T : u_T} {N ci slot index : Nat} (hci : ci < 100) (hcl : vwCl[ci]? = some (C, T, N)) (hin : ∀ w ∈ u_ws C T N, w ∈ TBg) (hsl : slot < N) (hnF : nF ci = N) (hown : s.vm.findClass own = some mm.cls) (hlink : (Cond.fieldLink own index (T slot).1 (T slot).2.1 (T slot).2.2.1).before args s = true) (ty0 : Nat → FieldType) (hty : ∀ k, k < N → parseFieldDescriptor (T k).2.2.1 = some (ty0 k)) (hnm : ∀ a, a < N → ∀ b, b < N → a ≠ b → (T a).2.1 ≠ (T b).2.1) (hfin : (T slot).2.2.2 = false ∨ ((T slot).2.2.2 = true ∧ meth.name = "<init>" ∧ (T slot).1 = own)) (hty1 : ((∃ nm, ty0 slot = .object nm) ∨ ∃ et, ty0 slot = .array et)) (htg : ftag ci slot = 2) (hdg : decode cc pc = .ok (.putfield index, 3)) (hk : ∀ ls st sh R M cb sb, k ls st sh R M cb sb → WG p l e Rm s mm args below meth c Qw B cA ex D nL mc ms (pc + 3) ls st sh R M cb sb) (h0 : pR st fun v t => pR t fun a t => ook sh ci a (k ls t sh (stm R a (slot : Nat) v) M cb sb)) : WG p l e Rm s mm args below meth c Qw B cA ex D nL mc ms pc ls st sh R M cb sb := by
  obtain ⟨v, t, rfl, h⟩ := pR_inv h0
  obtain ⟨a, t, rfl, h⟩ := pR_inv h
  obtain ⟨hk0, h⟩ := ook_inv h
  obtain ⟨n, rfl, hn, hsk⟩ := shk_inv (sh := sh) (a := a) (by rw [hk0]; omega)
  rw [hsk] at hk0
  intro H locs cells slots lsA hH hL hS h1 h2
  have hvv : cv B ex (2, v) = rv B v := rfl
  refine sd_put0 (R' := (stm R n (slot : Nat) v)) (M' := M) hx hb hK hts hci hcl hin hsl hnF hown hlink ty0 hty hnm hfin hdg hn hk0 ?_ ?_ ?_ (fun q hq => st_ne (by omega)) (fun _ _ => rfl) (fun i hi => by rw [st_at, if_neg (by omega)]) (fun _ _ => rfl) (fun z => z.str hS.hd) hH (fun H1 locs1 hH1 => hk _ _ _ _ _ _ _ h H1 locs1 cells slots lsA hH1 hL hS.tl.tl h1 h2)
  · rw [hvv]
    unfold rv
    rcases hty1 with ⟨nm, e1⟩ | ⟨et, e1⟩ <;> rw [e1] <;> split <;> rfl
  · rw [hvv]
    unfold rv
    rcases hty1 with ⟨nm, e1⟩ | ⟨et, e1⟩ <;> rw [e1] <;> split <;> rfl
  · rw [htg, st_at, if_pos rfl]
    rfl
end
end
section
/-! instructions that make cells; constants; switches; the script; calls -/
theorem HR.app {B : Nat} {cA : Nat → ClassId} {D : va_G} {s : State} {H H1 : Heap} {locs : List Loc} {sh ext : SHP} {R M R' M' : MEM} (hH : HR B cA D s H locs sh R M) (he : ∀ i : Nat, i < ext.length → va_at D vwCl (B + (sh.length + i), el B cA (ext.getD i (999, 0)).1 (ext.getD i (999, 0)).2 (R' ((sh.length + i : Nat) : Int)) (M' ((sh.length + i : Nat) : Int))) H1) (z : H1.size = H.size + ext.length) (o1 : ∀ q : Nat, q < H.size → H1[q]? = H[q]?)
    (hR : ∀ q : Nat, q < sh.length → R' q = R q) (hM : ∀ q : Nat, q < sh.length → M' q = M q) (hrn : ∀ i j : Nat, i < ext.length → rngv (ftag (ext.getD i (999, 0)).1 j) (match ftag (ext.getD i (999, 0)).1 j with | 2 => R' ((sh.length + i : Nat) : Int) j | _ => M' ((sh.length + i : Nat) : Int) j)) : HR B cA D s H1 locs (sh ++ ext) R' M' := by
  obtain ⟨h1, h2, h3, h4⟩ := hH
  have hsk : ∀ i : Nat, sk (sh ++ ext) (sh.length + i) = ext.getD i (999, 0) := fun i => by
    unfold sk
    rw [List.getD_eq_getElem?_getD, List.getD_eq_getElem?_getD, List.getElem?_append_right (by omega), Nat.add_sub_cancel_left]
  refine ⟨fun k q hk => ?_, ⟨Nat.le_trans h2.1 (by omega), fun x g1 g2 => (o1 x (Nat.lt_of_lt_of_le g1 h2.1)).trans (h2.2.1 x g1 g2), h2.2.2⟩, by rw [z, h3, List.length_append]; omega, fun a j ha => ?_⟩
  · obtain ⟨hl, rfl⟩ := wo_inv hk
    by_cases h : k < sh.length
    · have := h1 k _ (wo_get h)
      rw [sk_app_lt h, hR k h, hM k h]
      exact this.kept (o1 _ this.lt)
    · obtain ⟨i, rfl⟩ : ∃ i, k = sh.length + i := ⟨k - sh.length, by omega⟩
      rw [hsk i]
      exact he i (by rw [List.length_append] at hl; omega)
  · by_cases h : a < sh.length
    · have := h4 a j h
      rw [sk_app_lt h, hR a h, hM a h]
      exact this
    · obtain ⟨i, rfl⟩ : ∃ i, a = sh.length + i := ⟨a - sh.length, by omega⟩
      rw [hsk i]
      exact hrn i j (by rw [List.length_append] at ha; omega)
theorem zr_at {M : MEM} {a v : Int} : zr M a v a = fun _ => v := by
  funext j
  unfold zr
  rw [if_pos rfl]
theorem zr_ne {M : MEM} {a v q : Int} (h : q ≠ a) : zr M a v q = M q := by
  funext j
  unfold zr
  rw [if_neg h]
theorem rng00 : rngv 0 0 := ⟨by omega, by omega⟩
theorem rng10 : rngv 1 0 := ⟨by omega, by omega⟩
theorem HR.push {B : Nat} {cA : Nat → ClassId} {D : va_G} {s : State} {H H1 : Heap} {locs : List Loc} {sh : SHP} {R M : MEM} {k n : Nat} (hH : HR B cA D s H locs sh R M) (he : va_at D vwCl (B + sh.length, el B cA k n (fun _ => -1) (fun _ => 0)) H1) (z : H1.size = H.size + 1) (o1 : ∀ q : Nat, q < H.size → H1[q]? = H[q]?) : HR B cA D s H1 locs (newk k n sh R M).1 (newk k n sh R M).2.1 (newk k n sh R M).2.2 := by
  refine hH.app (fun i hi => ?_) z o1 (fun q hq => zr_ne (by omega)) (fun q hq => zr_ne (by omega)) (fun i j hi => ?_)
  · have e0 : i = 0 := by simp at hi; omega
    subst e0
    show va_at D vwCl (B + (sh.length + 0), el B cA k n (zr R (sh.length : Int) (-1) ((sh.length + 0 : Nat) : Int)) (zr M (sh.length : Int) 0 ((sh.length + 0 : Nat) : Int))) H1
    rw [Nat.add_zero, zr_at, zr_at]
    exact he
  · have e0 : i = 0 := by simp at hi; omega
    subst e0
    show rngv (ftag k j) (match ftag k j with | 2 => zr R (sh.length : Int) (-1) ((sh.length + 0 : Nat) : Int) j | _ => zr M (sh.length : Int) 0 ((sh.length + 0 : Nat) : Int) j)
    rw [Nat.add_zero, zr_at, zr_at]
    split
    · rename_i h2
      rw [h2]
      exact Int.le_refl _
    · generalize ftag k j = t
      match t with
      | 0 => exact rng00
      | 1 => exact rng10
      | 2 => exact (by decide : (-1 : Int) ≤ 0)
      | t + 3 => trivial
theorem AO_moved {A A' : Array Value} {ty : FieldType} {u U : State} (hvm : u.vm.Alike U.vm) (h : (Cond.arrayOver (.array ty)).before A u = true) : (Cond.arrayOver (.array ty)).before A' U = true := by
  unfold Cond.before Cond.holds at h ⊢
  simp only [Cond.value, beq_iff_eq] at h ⊢
  rw [hvm.findClass]
  cases hc : u.vm.findClass (FieldType.array ty).toString with
  | none => simp [hc] at h
  | some comp =>
    simp only [hc, Option.bind_some, Option.bind_eq_some_iff, Option.map_eq_some_iff] at h ⊢
    obtain ⟨c, hi, k, hk, hb⟩ := h
    obtain ⟨k', hk', he⟩ := hvm.2.2 _ _ hk
    have e1 : (U.vm.classes.findIdx? fun (x : Class) => match x.kind with | .array component _ => component == comp | _ => false) = some c := by
      refine (va_idx_bare U.vm comp).symm.trans ?_
      have e2 : U.vm.bare = u.vm.bare := by first | exact hvm.bare_eq | exact hvm.bare_eq.symm
      rw [e2]
      exact (va_idx_bare u.vm comp).trans hi
    refine ⟨c, e1, k', hk', ?_⟩
    rw [he]
    simp only [hvm.findClass]
    exact hb
theorem cb_le (n : Nat) (h : n ≤ 100000) (t : FieldType) (ht : componentBytes t ≤ 8) : n * componentBytes t ≤ 536870912 := Nat.le_trans (Nat.mul_le_mul h ht) (by decide)
theorem new2_R0 {N n : Nat} {sh : SHP} {R M : MEM} (i : Int) : (new2 N n sh R M).2.1 (sh.length : Int) i = if 0 ≤ i ∧ i < (N : Int) then (sh.length : Int) + 1 + i else -1 := by
  unfold new2
  exact if_pos rfl
theorem new2_Rk {N n : Nat} {sh : SHP} {R M : MEM} {q : Int} (h : (sh.length : Int) < q) : (new2 N n sh R M).2.1 q = fun _ => -1 := by
  funext i
  unfold new2
  show (if q = (sh.length : Int) then _ else _) = _
  rw [if_neg (by omega), if_pos h]
theorem new2_Ro {N n : Nat} {sh : SHP} {R M : MEM} {q : Int} (h : q < (sh.length : Int)) : (new2 N n sh R M).2.1 q = R q := by
  funext i
  unfold new2
  show (if q = (sh.length : Int) then _ else _) = _
  rw [if_neg (by omega), if_neg (by omega)]
theorem new2_M {N n : Nat} {sh : SHP} {R M : MEM} {q : Int} (h : (sh.length : Int) ≤ q) : (new2 N n sh R M).2.2 q = fun _ => 0 := by
  funext i
  unfold new2
  exact if_pos h
theorem new2_Mo {N n : Nat} {sh : SHP} {R M : MEM} {q : Int} (h : q < (sh.length : Int)) : (new2 N n sh R M).2.2 q = M q := by
  funext i
  unfold new2
  exact if_neg (by omega)
def lens : List Nat := [81, 11]
def byts : List (List Int32) := [(strB 1).map Int32.ofInt, (strB 2).map Int32.ofInt]
def tx1 : String := "start join split odd dusk pond fox bread wind way claim draw to in at or and not "
def tx2 : String := ";()<>=+-*/%"
/-- what is outside: the two texts, the JDK's statics, the classes of the arrays of references -/
def EX (B : Nat) (ex adV : Nat → Nat) (U : State) (H : Heap) : Prop := vk_S 2 lens byts (fun i => ex (i + 1)) adV (Bq B) U H ∧ vk_R "GeeseSums$Tape" 26 tx1 (ex 1) U ∧ vk_R "GeeseSums$Tape" 75 tx2 (ex 2) U ∧ va_Z "java/lang/String" "COMPACT_STRINGS" "Z" (.int 1) (Bq B) U H ∧ va_Zq "jdk/internal/util/Preconditions" "SIOOBE_FORMATTER" "Ljava/util/function/BiFunction;" (Bq B) U H ∧ va_AO "GeeseSums$Sky" U ∧ (Cond.arrayOver (.array .int)).before #[] U = true
theorem EX.warm {B : Nat} {ex adV : Nat → Nat} {s U : State} {H : Heap} (hW : s.WarmedH U.vm) (h : EX B ex adV s H) : EX B ex adV U H := ⟨h.1.moved hW.alike, h.2.1.warm hW, h.2.2.1.warm hW, h.2.2.2.1.moved hW.alike, h.2.2.2.2.1.moved hW.alike, h.2.2.2.2.2.1.moved hW.alike, AO_moved hW.alike h.2.2.2.2.2.2⟩
theorem EX.same {B : Nat} {ex adV : Nat → Nat} {u U : State} {H : Heap} (hv : U.vm = u.vm) (h : EX B ex adV u H) : EX B ex adV U H :=
  have hA : u.vm.Alike U.vm := by rw [hv]; exact Vm.Alike.refl _
  ⟨h.1.moved hA, vk_R.same hv h.2.1, vk_R.same hv h.2.2.1, h.2.2.2.1.moved hA, h.2.2.2.2.1.moved hA, h.2.2.2.2.2.1.moved hA, AO_moved hA h.2.2.2.2.2.2⟩
theorem EX.kept {B : Nat} {ex adV : Nat → Nat} {U : State} {H H1 : Heap} (h : EX B ex adV U H) (hq : ∀ a : Nat, a < H.size → ¬ Bq B a → H1[a]? = H[a]?) : EX B ex adV U H1 := ⟨h.1.kept hq, h.2.1, h.2.2.1, h.2.2.2.1.kept hq, h.2.2.2.2.1.kept hq, h.2.2.2.2.2.1, h.2.2.2.2.2.2⟩
def XS (B : Nat) (ex : Nat → Nat) (X : Int × (Int → Int)) (s : State) : Prop := X.1 < 0 ∨ ∃ (L : Nat) (xs : Nat → Int32), va_X (ex 0) L xs s s.heap ∧ X.1 = (L : Int) ∧ L < 2147483648 ∧ (∀ j : Nat, X.2 j = (xs j).toInt) ∧ ex 0 < s.heap.size ∧ ¬ Bq B (ex 0)
section
variable {p : Program} {l : Launch} {e : Env} {Rm : Room} {s : State} {mm : MethodId} {args : Array Value} {below : List Frame} {meth : Method} {c : Code} {Qw : State → Prop}
variable {B : Nat} {cA : Nat → ClassId} {ex adV : Nat → Nat} {D : va_G} {nL mc ms : Nat} {cc : ByteArray} {pc : Nat} {k : NXT} {ls st : List AV} {sh : SHP} {R M : MEM} {cb sb : Nat}
theorem sd_new (hx : p.tables.exec = Jvm.exec) (hb : c.code = cc) (hK : va_K D vwCl (TYS cA) s) (hts : ∀ w ∈ TBg, w.before args s = true) {own : String} (hown : s.vm.findClass own = some mm.cls) (hRc : mc ≤ Rm.cells) (hRs : ms ≤ Rm.slots) {C : String} {T : u_T} {N ci index : Nat} (hci : ci < 100) (hcl : vwCl[ci]? = some (C, T, N)) (hin : ∀ w ∈ u_ws C T N, w ∈ TBg) (hnF : nF ci = N) (ty0 : Nat → FieldType) (hty : ∀ k, k < N → parseFieldDescriptor (T k).2.2.1 = some (ty0 k)) (hdf : ∀ j, j < N → defaultValue (ty0 j) = fv B (ftag ci j) (-1) 0) (w1 : (Cond.classLink own index C).before args s = true) (w2 : (Cond.instantiable C N).before args s = true) (w3 : (Cond.initialized C).before args s = true) (hdg : decode cc pc = .ok (.new index, 3)) (hk : ∀ ls st sh R M cb sb, k ls st sh R M cb sb → WG p l e Rm s mm args below meth c Qw B cA ex D nL mc ms (pc + 3) ls st sh R M cb sb) (h0 : bud (Nat.ble 1 cb && Nat.ble N sb) (k ls (vr (sh.length : Int) :: st) (newk ci 0 sh R M).1 (newk ci 0 sh R M).2.1 (newk ci 0 sh R M).2.2 (cb - 1) (sb - N))) : WG p l e Rm s mm args below meth c Qw B cA ex D nL mc ms pc ls st sh R M cb sb := by
  obtain ⟨hb1, h⟩ := bud_inv h0
  rw [Bool.and_eq_true] at hb1
  have b1 := Nat.le_of_ble_eq_true hb1.1
  have b2 := Nat.le_of_ble_eq_true hb1.2
  intro H locs cells slots lsA hH hL hS h1 h2
  have hKn := hK.1 ci _ hcl
  refine W.newcK hx hb hown w1 w2 w3 rfl hdg (by omega) (by omega) hKn.2.1 hH.2.2.1 fun H1 kC hkC e1 z1 o1 => ?_
  have hh := hk _ _ _ _ _ _ _ h H1 locs (cells + 1) (slots + N) lsA (hH.push (k := ci) (n := 0) ?_ (by rw [z1, hH.2.2.1]) (fun q hq => o1 q (by rw [← hH.2.2.1]; exact hq))) hL (SQ.cons (show rngv 2 (sh.length : Int) from by show -1 ≤ _; omega) hS) (by omega) (by omega)
  · rw [map_cv_cons, show cv B ex (vr (sh.length : Int)) = rv B (sh.length : Int) from rfl] at hh
    unfold rv at hh
    rw [if_neg (by omega), Int.toNat_natCast] at hh
    exact hh
  · rw [el_obj hci]
    refine ⟨_, hcl, (u_born ty0 hts hin hKn hkC e1 hty).to (fun j hj => ?_)⟩
    rw [hdf j hj]
    unfold vp_V
    rw [List.getD_eq_getElem?_getD, fvs_get (by rw [hnF]; exact hj)]
    rfl
theorem sd_newarray100 (hx : p.tables.exec = Jvm.exec) (hb : c.code = cc) (hK : va_K D vwCl (TYS cA) s) (w1 : (Cond.arrayClass .int).before args s = true) (hRc : mc ≤ Rm.cells) (hRs : ms ≤ Rm.slots) (hdg : decode cc pc = .ok (.newarray .int, 2)) (hk : ∀ ls st sh R M cb sb, k ls st sh R M cb sb → WG p l e Rm s mm args below meth c Qw B cA ex D nL mc ms (pc + 2) ls st sh R M cb sb) (h0 : pI st fun n t => 0 ≤ n ∧ bud (Nat.ble n.toNat 100000 && Nat.ble 1 cb && Nat.ble n.toNat sb) (k ls (vr (sh.length : Int) :: t) (newk 100 n.toNat sh R M).1 (newk 100 n.toNat sh R M).2.1 (newk 100 n.toNat sh R M).2.2 (cb - 1) (sb - n.toNat))) : WG p l e Rm s mm args below meth c Qw B cA ex D nL mc ms pc ls st sh R M cb sb := by
  obtain ⟨n, t, rfl, hn0, h⟩ := pI_inv h0
  obtain ⟨hb1, h⟩ := bud_inv h
  rw [Bool.and_eq_true, Bool.and_eq_true] at hb1
  have b0 := Nat.le_of_ble_eq_true hb1.1.1
  have b1 := Nat.le_of_ble_eq_true hb1.1.2
  have b2 := Nat.le_of_ble_eq_true hb1.2
  intro H locs cells slots lsA hH hL hS h1 h2
  have hnr : rngv 0 n := hS.hd
  refine va_newaK (atype := .int) hx hb w1 rfl hdg rfl (lt0_32 hnr hn0) (clamp32 hnr hn0) (cb_le _ b0 .int (by decide)) (by omega) (by omega) hH.2.2.1 fun H1 cA' e1 z1 o1 hAr hNm => ?_
  have hcA : cA' = cA 0 := Option.some.inj (hNm.symm.trans (hK.2 0 _ rfl).2)
  subst hcA
  have hh := hk _ _ _ _ _ _ _ h H1 locs (cells + 1) (slots + n.toNat) lsA (hH.push (k := 100) (n := n.toNat) ?_ (by rw [z1, hH.2.2.1]) (fun q hq => o1 q (by rw [← hH.2.2.1]; exact hq))) hL (SQ.cons (show rngv 2 (sh.length : Int) from by show -1 ≤ _; omega) hS.tl) (by omega) (by omega)
  · rw [map_cv_cons, show cv B ex (vr (sh.length : Int)) = rv B (sh.length : Int) from rfl] at hh
    unfold rv at hh
    rw [if_neg (by omega), Int.toNat_natCast] at hh
    exact hh
  · show H1[B + sh.length]? = some (vp_cell _ _)
    rw [e1, vp_cell_i]
    rfl
theorem sd_newarray101 (hx : p.tables.exec = Jvm.exec) (hb : c.code = cc) (hK : va_K D vwCl (TYS cA) s) (w1 : (Cond.arrayClass .long).before args s = true) (hRc : mc ≤ Rm.cells) (hRs : ms ≤ Rm.slots) (hdg : decode cc pc = .ok (.newarray .long, 2)) (hk : ∀ ls st sh R M cb sb, k ls st sh R M cb sb → WG p l e Rm s mm args below meth c Qw B cA ex D nL mc ms (pc + 2) ls st sh R M cb sb) (h0 : pI st fun n t => 0 ≤ n ∧ bud (Nat.ble n.toNat 100000 && Nat.ble 1 cb && Nat.ble n.toNat sb) (k ls (vr (sh.length : Int) :: t) (newk 101 n.toNat sh R M).1 (newk 101 n.toNat sh R M).2.1 (newk 101 n.toNat sh R M).2.2 (cb - 1) (sb - n.toNat))) : WG p l e Rm s mm args below meth c Qw B cA ex D nL mc ms pc ls st sh R M cb sb := by
  obtain ⟨n, t, rfl, hn0, h⟩ := pI_inv h0
  obtain ⟨hb1, h⟩ := bud_inv h
  rw [Bool.and_eq_true, Bool.and_eq_true] at hb1
  have b0 := Nat.le_of_ble_eq_true hb1.1.1
  have b1 := Nat.le_of_ble_eq_true hb1.1.2
  have b2 := Nat.le_of_ble_eq_true hb1.2
  intro H locs cells slots lsA hH hL hS h1 h2
  have hnr : rngv 0 n := hS.hd
  refine va_newaK (atype := .long) hx hb w1 rfl hdg rfl (lt0_32 hnr hn0) (clamp32 hnr hn0) (cb_le _ b0 .long (by decide)) (by omega) (by omega) hH.2.2.1 fun H1 cA' e1 z1 o1 hAr hNm => ?_
  have hcA : cA' = cA 1 := Option.some.inj (hNm.symm.trans (hK.2 1 _ rfl).2)
  subst hcA
  have hh := hk _ _ _ _ _ _ _ h H1 locs (cells + 1) (slots + n.toNat) lsA (hH.push (k := 101) (n := n.toNat) ?_ (by rw [z1, hH.2.2.1]) (fun q hq => o1 q (by rw [← hH.2.2.1]; exact hq))) hL (SQ.cons (show rngv 2 (sh.length : Int) from by show -1 ≤ _; omega) hS.tl) (by omega) (by omega)
  · rw [map_cv_cons, show cv B ex (vr (sh.length : Int)) = rv B (sh.length : Int) from rfl] at hh
    unfold rv at hh
    rw [if_neg (by omega), Int.toNat_natCast] at hh
    exact hh
  · show H1[B + sh.length]? = some (vp_cell _ _)
    rw [e1, vp_cell_l]
    rfl
theorem sd_newarray102 (hx : p.tables.exec = Jvm.exec) (hb : c.code = cc) (hK : va_K D vwCl (TYS cA) s) (w1 : (Cond.arrayClass .byte).before args s = true) (hRc : mc ≤ Rm.cells) (hRs : ms ≤ Rm.slots) (hdg : decode cc pc = .ok (.newarray .byte, 2)) (hk : ∀ ls st sh R M cb sb, k ls st sh R M cb sb → WG p l e Rm s mm args below meth c Qw B cA ex D nL mc ms (pc + 2) ls st sh R M cb sb) (h0 : pI st fun n t => 0 ≤ n ∧ bud (Nat.ble n.toNat 100000 && Nat.ble 1 cb && Nat.ble n.toNat sb) (k ls (vr (sh.length : Int) :: t) (newk 102 n.toNat sh R M).1 (newk 102 n.toNat sh R M).2.1 (newk 102 n.toNat sh R M).2.2 (cb - 1) (sb - n.toNat))) : WG p l e Rm s mm args below meth c Qw B cA ex D nL mc ms pc ls st sh R M cb sb := by
  obtain ⟨n, t, rfl, hn0, h⟩ := pI_inv h0
  obtain ⟨hb1, h⟩ := bud_inv h
  rw [Bool.and_eq_true, Bool.and_eq_true] at hb1
  have b0 := Nat.le_of_ble_eq_true hb1.1.1
  have b1 := Nat.le_of_ble_eq_true hb1.1.2
  have b2 := Nat.le_of_ble_eq_true hb1.2
  intro H locs cells slots lsA hH hL hS h1 h2
  have hnr : rngv 0 n := hS.hd
  refine va_newaK (atype := .byte) hx hb w1 rfl hdg rfl (lt0_32 hnr hn0) (clamp32 hnr hn0) (cb_le _ b0 .byte (by decide)) (by omega) (by omega) hH.2.2.1 fun H1 cA' e1 z1 o1 hAr hNm => ?_
  have hcA : cA' = cA 2 := Option.some.inj (hNm.symm.trans (hK.2 2 _ rfl).2)
  subst hcA
  have hh := hk _ _ _ _ _ _ _ h H1 locs (cells + 1) (slots + n.toNat) lsA (hH.push (k := 102) (n := n.toNat) ?_ (by rw [z1, hH.2.2.1]) (fun q hq => o1 q (by rw [← hH.2.2.1]; exact hq))) hL (SQ.cons (show rngv 2 (sh.length : Int) from by show -1 ≤ _; omega) hS.tl) (by omega) (by omega)
  · rw [map_cv_cons, show cv B ex (vr (sh.length : Int)) = rv B (sh.length : Int) from rfl] at hh
    unfold rv at hh
    rw [if_neg (by omega), Int.toNat_natCast] at hh
    exact hh
  · show H1[B + sh.length]? = some (vp_cell _ _)
    rw [e1, vp_cell_i]
    rfl
theorem sd_newarray103 (hx : p.tables.exec = Jvm.exec) (hb : c.code = cc) (hK : va_K D vwCl (TYS cA) s) (w1 : (Cond.arrayClass .boolean).before args s = true) (hRc : mc ≤ Rm.cells) (hRs : ms ≤ Rm.slots) (hdg : decode cc pc = .ok (.newarray .boolean, 2)) (hk : ∀ ls st sh R M cb sb, k ls st sh R M cb sb → WG p l e Rm s mm args below meth c Qw B cA ex D nL mc ms (pc + 2) ls st sh R M cb sb) (h0 : pI st fun n t => 0 ≤ n ∧ bud (Nat.ble n.toNat 100000 && Nat.ble 1 cb && Nat.ble n.toNat sb) (k ls (vr (sh.length : Int) :: t) (newk 103 n.toNat sh R M).1 (newk 103 n.toNat sh R M).2.1 (newk 103 n.toNat sh R M).2.2 (cb - 1) (sb - n.toNat))) : WG p l e Rm s mm args below meth c Qw B cA ex D nL mc ms pc ls st sh R M cb sb := by
  obtain ⟨n, t, rfl, hn0, h⟩ := pI_inv h0
  obtain ⟨hb1, h⟩ := bud_inv h
  rw [Bool.and_eq_true, Bool.and_eq_true] at hb1
  have b0 := Nat.le_of_ble_eq_true hb1.1.1
  have b1 := Nat.le_of_ble_eq_true hb1.1.2
  have b2 := Nat.le_of_ble_eq_true hb1.2
  intro H locs cells slots lsA hH hL hS h1 h2
  have hnr : rngv 0 n := hS.hd
  refine va_newaK (atype := .boolean) hx hb w1 rfl hdg rfl (lt0_32 hnr hn0) (clamp32 hnr hn0) (cb_le _ b0 .boolean (by decide)) (by omega) (by omega) hH.2.2.1 fun H1 cA' e1 z1 o1 hAr hNm => ?_
  have hcA : cA' = cA 3 := Option.some.inj (hNm.symm.trans (hK.2 3 _ rfl).2)
  subst hcA
  have hh := hk _ _ _ _ _ _ _ h H1 locs (cells + 1) (slots + n.toNat) lsA (hH.push (k := 103) (n := n.toNat) ?_ (by rw [z1, hH.2.2.1]) (fun q hq => o1 q (by rw [← hH.2.2.1]; exact hq))) hL (SQ.cons (show rngv 2 (sh.length : Int) from by show -1 ≤ _; omega) hS.tl) (by omega) (by omega)
  · rw [map_cv_cons, show cv B ex (vr (sh.length : Int)) = rv B (sh.length : Int) from rfl] at hh
    unfold rv at hh
    rw [if_neg (by omega), Int.toNat_natCast] at hh
    exact hh
  · show H1[B + sh.length]? = some (vp_cell _ _)
    rw [e1, vp_cell_i]
    rfl
theorem sd_anewarray (hx : p.tables.exec = Jvm.exec) (hb : c.code = cc) (hK : va_K D vwCl (TYS cA) s) (hts : ∀ w ∈ TBg, w.before args s = true) {own : String} (hown : s.vm.findClass own = some mm.cls) (hRc : mc ≤ Rm.cells) (hRs : ms ≤ Rm.slots) (hAO : va_AO "GeeseSums$Sky" s) {index : Nat} (w1 : (Cond.classLink own index "GeeseSums$Sky").before args s = true) (hdg : decode cc pc = .ok (.anewarray index, 3)) (hk : ∀ ls st sh R M cb sb, k ls st sh R M cb sb → WG p l e Rm s mm args below meth c Qw B cA ex D nL mc ms (pc + 3) ls st sh R M cb sb) (h0 : pI st fun n t => 0 ≤ n ∧ bud (Nat.ble n.toNat 100000 && Nat.ble 1 cb && Nat.ble n.toNat sb) (k ls (vr (sh.length : Int) :: t) (newk 104 n.toNat sh R M).1 (newk 104 n.toNat sh R M).2.1 (newk 104 n.toNat sh R M).2.2 (cb - 1) (sb - n.toNat))) : WG p l e Rm s mm args below meth c Qw B cA ex D nL mc ms pc ls st sh R M cb sb := by
  obtain ⟨n, t, rfl, hn0, h⟩ := pI_inv h0
  obtain ⟨hb1, h⟩ := bud_inv h
  rw [Bool.and_eq_true, Bool.and_eq_true] at hb1
  have b0 := Nat.le_of_ble_eq_true hb1.1.1
  have b1 := Nat.le_of_ble_eq_true hb1.1.2
  have b2 := Nat.le_of_ble_eq_true hb1.2
  intro H locs cells slots lsA hH hL hS h1 h2
  have hnr : rngv 0 n := hS.hd
  have hcl := clamp32 hnr hn0
  refine W.anew hx hb hown w1 (va_AO.use hAO) rfl hdg rfl (lt0_32 hnr hn0) (by rw [hcl]; omega) (by omega) (by rw [hcl]; omega) fun cA' kA comp f1 f2 f3 f4 => ?_
  rw [hcl, hH.2.2.1]
  obtain ⟨kA', comp', k1, k2, k3, k4⟩ := (hK.2 4 _ rfl).2
  have hcA : cA' = cA 4 := Option.some.inj (f1.symm.trans k4)
  subst hcA
  generalize hH1 : H.push ({ cls := cA 4, slots := Array.replicate n.toNat .null, vm := .none } : Cell) = H1
  have z1 : H1.size = H.size + 1 := by rw [← hH1, Array.size_push]
  have e1 : H1[H.size]? = some (arrV (cA 4) n.toNat (fun _ => .null)) := by rw [← hH1, Array.getElem?_push_size, ← arrV_new]
  have o1 : ∀ q : Nat, q < H.size → H1[q]? = H[q]? := fun q hq => by rw [← hH1, Array.getElem?_push, if_neg (Nat.ne_of_lt hq)]
  have hh := hk _ _ _ _ _ _ _ h H1 locs (cells + 1) (slots + n.toNat) lsA (hH.push (k := 104) (n := n.toNat) ?_ z1 o1) hL (SQ.cons (show rngv 2 (sh.length : Int) from by show -1 ≤ _; omega) hS.tl) (by omega) (by omega)
  · rw [map_cv_cons, show cv B ex (vr (sh.length : Int)) = rv B (sh.length : Int) from rfl] at hh
    unfold rv at hh
    rw [if_neg (by omega), Int.toNat_natCast] at hh
    exact hh
  · show H1[B + sh.length]? = some (vp_cell _ _)
    rw [← hH.2.2.1, e1, vp_cell_q]
    rfl
theorem outerV (c : ClassId) (N h0 : Nat) : ∀ i : Nat, Jvm.Free.Multi.outerC c N h0 i = arrV c N (fun j => va_rf (if j < i then some (h0 + 1 + j) else none))
  | 0 => by
    show ({ cls := c, slots := Array.replicate N .null, vm := .none } : Cell) = _
    rw [arrV_new]
    refine congrArg (arrV c N) (funext fun j => ?_)
    simp [va_rf]
  | i + 1 => by
    show (Jvm.Free.Multi.outerC c N h0 i).setSlot i (.ref (h0 + 1 + i)) = _
    rw [outerV c N h0 i, arrV_store]
    refine congrArg (arrV c N) (funext fun j => ?_)
    by_cases e : j = i
    · subst e
      simp [updV, va_rf]
    · by_cases h : j < i
      · simp [updV, e, h, Nat.lt_succ_of_lt h]
      · simp [updV, e, h, show ¬ j < i + 1 by omega]
theorem sd_multi (hx : p.tables.exec = Jvm.exec) (hb : c.code = cc) (hK : va_K D vwCl (TYS cA) s) (hts : ∀ w ∈ TBg, w.before args s = true) {own : String} (hown : s.vm.findClass own = some mm.cls) (hRc : mc ≤ Rm.cells) (hRs : ms ≤ Rm.slots) (hAO : (Cond.arrayOver (.array .int)).before #[] s = true) {index : Nat} (w1 : (Cond.classLink own index "[[I").before args s = true) (w2 : (Cond.arrayClass .int).before args s = true) (hdg : decode cc pc = .ok (.multianewarray index 2, 4)) (hk : ∀ ls st sh R M cb sb, k ls st sh R M cb sb → WG p l e Rm s mm args below meth c Qw B cA ex D nL mc ms (pc + 4) ls st sh R M cb sb) (h0 : pI st fun n t => pI t fun N t => 0 ≤ n ∧ 0 ≤ N ∧ bud (Nat.ble n.toNat 100000 && Nat.ble N.toNat 100000 && Nat.ble (1 + N.toNat) cb && Nat.ble (N.toNat + N.toNat * n.toNat) sb) (k ls (vr (sh.length : Int) :: t) (new2 N.toNat n.toNat sh R M).1 (new2 N.toNat n.toNat sh R M).2.1 (new2 N.toNat n.toNat sh R M).2.2 (cb - (1 + N.toNat)) (sb - (N.toNat + N.toNat * n.toNat)))) : WG p l e Rm s mm args below meth c Qw B cA ex D nL mc ms pc ls st sh R M cb sb := by
  obtain ⟨n, t, rfl, h⟩ := pI_inv h0
  obtain ⟨N, t, rfl, hn0, hN0, h⟩ := pI_inv h
  obtain ⟨hb1, h⟩ := bud_inv h
  rw [Bool.and_eq_true, Bool.and_eq_true, Bool.and_eq_true] at hb1
  have b0 := Nat.le_of_ble_eq_true hb1.1.1.1
  have b1 := Nat.le_of_ble_eq_true hb1.1.1.2
  have b2 := Nat.le_of_ble_eq_true hb1.1.2
  have b3 := Nat.le_of_ble_eq_true hb1.2
  intro H locs cells slots lsA hH hL hS h1 h2
  have hnr : rngv 0 n := hS.hd
  have hNr : rngv 0 N := hS.tl.hd
  have hcn := clamp32 hnr hn0
  have hcN := clamp32 hNr hN0
  intro T hT Xs
  obtain ⟨vm₁, cA', comp, -, fA, fC, hO, -, X', step⟩ := Xs.multianewarray2F hx (ty := .int) hown (show (Cond.classLink own index ("[" ++ (FieldType.array .int).toString)).before args s = true from w1) (AO_moved (Vm.Alike.refl _) hAO) w2 (g := F0 mm pc lsA (((0, n) :: (0, N) :: t).map (cv B ex))) rfl (by rw [hb]; exact hdg) rfl (lt0_32 hNr hN0) (lt0_32 hnr hn0)
    (by rw [hcN]; omega) (by rw [hcn]; show _ * 4 ≤ _; omega) (by rw [hcn]; omega) rfl rfl (by rw [hcN]; omega) (by rw [hcN, hcn]; omega)
  rw [hcN, hcn] at X' step
  have hcA : cA' = cA 5 := Option.some.inj (fA.symm.trans (hK.2 5 _ rfl).2)
  have hcomp : comp = cA 0 := Option.some.inj (fC.symm.trans (hK.2 0 _ rfl).2)
  subst hcA
  subst hcomp
  generalize hF : Jvm.Free.Multi.fill (T.setVm vm₁) (cA 5) (cA 0) N.toNat n.toNat (defaultValue .int) N.toNat = F at X' step
  have hTh : (T.setVm vm₁).heap = H := hT
  obtain ⟨f1, f2, -, -⟩ := Jvm.Free.Multi.fill_facts (T.setVm vm₁) (cA 5) (cA 0) N.toNat n.toNat (defaultValue .int) N.toNat
  rw [hF, hTh] at f1 f2
  have hold : ∀ x : Nat, x < H.size → F.heap[x]? = H[x]? := fun x hx => by
    have := Jvm.Free.Multi.fill_old (T.setVm vm₁) (cA 5) (cA 0) N.toNat n.toNat (defaultValue .int) (a := x) (by rw [hTh]; exact hx) N.toNat
    rw [hF, hTh] at this
    exact this
  have hrow : ∀ j : Nat, j < N.toNat → F.heap[H.size + 1 + j]? = some (Jvm.Free.Multi.innerC (cA 0) n.toNat (defaultValue .int)) := fun j hj => by
    have := Jvm.Free.Multi.fill_inner (T.setVm vm₁) (cA 5) (cA 0) N.toNat n.toNat (defaultValue .int) N.toNat j hj
    rw [hF, hTh] at this
    exact this
  have hHR : HR B cA D s F.heap locs (new2 N.toNat n.toNat sh R M).1 (new2 N.toNat n.toNat sh R M).2.1 (new2 N.toNat n.toNat sh R M).2.2 := by
    refine hH.app (fun i hi => ?_) (by rw [f1]; simp; omega) hold (fun q hq => ?_) (fun q hq => ?_) (fun i j hi => ?_)
    · cases i with
      | zero =>
        show F.heap[B + (sh.length + 0)]? = some (vp_cell _ _)
        rw [Nat.add_zero, ← hH.2.2.1, f2, vp_cell_q, outerV]
        refine congrArg some (congrArg (arrV _ _) (funext fun j => ?_))
        refine congrArg va_rf ?_
        show _ = ro B ((new2 N.toNat n.toNat sh R M).2.1 (sh.length : Int) j)
        rw [new2_R0]
        unfold ro
        by_cases hj : j < N.toNat
        · have hc : (0 : Int) ≤ (j : Int) ∧ (j : Int) < (N.toNat : Int) := ⟨by omega, by omega⟩
          rw [if_pos hj, if_pos hc, if_neg (by omega)]
          congr 1
          rw [hH.2.2.1]
          omega
        · have hc : ¬ ((0 : Int) ≤ (j : Int) ∧ (j : Int) < (N.toNat : Int)) := by omega
          rw [if_neg hj, if_neg hc, if_pos (by decide)]
      | succ i =>
        have hi' : i < N.toNat := by simpa using hi
        have e1 : (((105, N.toNat) :: List.replicate N.toNat (100, n.toNat)).getD (i + 1) (999, 0)) = (100, n.toNat) := by
          rw [List.getD_eq_getElem?_getD, List.getElem?_cons_succ, List.getElem?_replicate, if_pos hi']
          rfl
        rw [e1]
        show F.heap[B + (sh.length + (i + 1))]? = some (vp_cell _ _)
        have e2 : B + (sh.length + (i + 1)) = H.size + 1 + i := by rw [hH.2.2.1]; omega
        rw [e2, hrow i hi', vp_cell_i]
        refine congrArg some ?_
        show ({ cls := cA 0, slots := Array.replicate n.toNat (defaultValue .int), vm := .none } : Cell) = _
        rw [arrV_new]
        refine congrArg (arrV _ _) (funext fun j => ?_)
        show _ = Value.int (Int32.ofInt ((new2 N.toNat n.toNat sh R M).2.2 ((sh.length + (i + 1) : Nat) : Int) j))
        rw [new2_M (by omega)]
        rfl
    · exact new2_Ro (by omega)
    · exact new2_Mo (by omega)
    · cases i with
      | zero =>
        show rngv 2 ((new2 N.toNat n.toNat sh R M).2.1 (sh.length : Int) j)
        rw [new2_R0]
        show -1 ≤ _
        split <;> omega
      | succ i =>
        have hi' : i < N.toNat := by simpa using hi
        have e1 : (((105, N.toNat) :: List.replicate N.toNat (100, n.toNat)).getD (i + 1) (999, 0)) = (100, n.toNat) := by
          rw [List.getD_eq_getElem?_getD, List.getElem?_cons_succ, List.getElem?_replicate, if_pos hi']
          rfl
        rw [e1]
        show rngv 0 ((new2 N.toNat n.toNat sh R M).2.2 ((sh.length + (i + 1) : Nat) : Int) j)
        rw [new2_M (by omega)]
        exact rng00
  have hh := hk _ _ _ _ _ _ _ h F.heap locs (cells + 1 + N.toNat) (slots + N.toNat + N.toNat * n.toNat) lsA hHR hL (SQ.cons (show rngv 2 (sh.length : Int) from by show -1 ≤ _; omega) hS.tl.tl) (by omega) (by omega)
  rw [map_cv_cons, show cv B ex (vr (sh.length : Int)) = rv B (sh.length : Int) from rfl] at hh
  unfold rv at hh
  rw [if_neg (by omega), Int.toNat_natCast] at hh
  obtain ⟨t9, a1, b9⟩ := hh F rfl X'
  refine ⟨t9, step t9 ?_, b9⟩
  have e9 : T.heap.size = B + sh.length := by rw [hT]; exact hH.2.2.1
  rw [e9]
  exact a1
theorem sd_ldc (hx : p.tables.exec = Jvm.exec) (hb : c.code = cc) (hts : ∀ w ∈ TBg, w.before args s = true) {own : String} (hown : s.vm.findClass own = some mm.cls) {index v : Nat} (hv : v < 2147483648) (w1 : (Cond.constant own index (Int32.ofNat v)).before args s = true) (hdg : decode cc pc = .ok (.ldc index, 2)) (hk : ∀ ls st sh R M cb sb, k ls st sh R M cb sb → WG p l e Rm s mm args below meth c Qw B cA ex D nL mc ms (pc + 2) ls st sh R M cb sb) (h : k ls (vi (Int.ofNat v) :: st) sh R M cb sb) : WG p l e Rm s mm args below meth c Qw B cA ex D nL mc ms pc ls st sh R M cb sb := by
  intro H locs cells slots lsA hH hL hS h1 h2
  exact lv_ldc hx hb hown w1 hdg (hk _ _ _ _ _ _ _ h H locs cells slots lsA hH hL (SQ.cons (show rngv 0 ((v : Nat) : Int) from ⟨by omega, by omega⟩) hS) h1 h2)
theorem sd_ldc_w (hx : p.tables.exec = Jvm.exec) (hb : c.code = cc) (hts : ∀ w ∈ TBg, w.before args s = true) {own : String} (hown : s.vm.findClass own = some mm.cls) {index v : Nat} (hv : v < 2147483648) (w1 : (Cond.constant own index (Int32.ofNat v)).before args s = true) (hdg : decode cc pc = .ok (.ldc_w index, 3)) (hk : ∀ ls st sh R M cb sb, k ls st sh R M cb sb → WG p l e Rm s mm args below meth c Qw B cA ex D nL mc ms (pc + 3) ls st sh R M cb sb) (h : k ls (vi (Int.ofNat v) :: st) sh R M cb sb) : WG p l e Rm s mm args below meth c Qw B cA ex D nL mc ms pc ls st sh R M cb sb := by
  intro H locs cells slots lsA hH hL hS h1 h2
  exact lv_ldcw hx hb hown w1 hdg (hk _ _ _ _ _ _ _ h H locs cells slots lsA hH hL (SQ.cons (show rngv 0 ((v : Nat) : Int) from ⟨by omega, by omega⟩) hS) h1 h2)
theorem sd_ldc2 (hx : p.tables.exec = Jvm.exec) (hb : c.code = cc) (hts : ∀ w ∈ TBg, w.before args s = true) {own : String} (hown : s.vm.findClass own = some mm.cls) {index v : Nat} (hv : v < 9223372036854775808) (w1 : (Cond.constantLong own index (Int64.ofNat v)).before args s = true) (hdg : decode cc pc = .ok (.ldc2_w index, 3)) (hk : ∀ ls st sh R M cb sb, k ls st sh R M cb sb → WG p l e Rm s mm args below meth c Qw B cA ex D nL mc ms (pc + 3) ls st sh R M cb sb) (h : k ls (vl (Int.ofNat v) :: st) sh R M cb sb) : WG p l e Rm s mm args below meth c Qw B cA ex D nL mc ms pc ls st sh R M cb sb := by
  intro H locs cells slots lsA hH hL hS h1 h2
  exact lv_ldc2 hx hb hown w1 hdg (hk _ _ _ _ _ _ _ h H locs cells slots lsA hH hL (SQ.cons (show rngv 1 ((v : Nat) : Int) from ⟨by omega, by omega⟩) hS) h1 h2)
theorem sd_ldcS (hx : p.tables.exec = Jvm.exec) (hb : c.code = cc) {own : String} (hown : s.vm.findClass own = some mm.cls) {index v : Nat} {tx : String} (w1 : vk_R own index tx (ex v) s) (hdg : decode cc pc = .ok (.ldc index, 2)) (hk : ∀ ls st sh R M cb sb, k ls st sh R M cb sb → WG p l e Rm s mm args below meth c Qw B cA ex D nL mc ms (pc + 2) ls st sh R M cb sb) (h : k ls (ve (Int.ofNat v) :: st) sh R M cb sb) : WG p l e Rm s mm args below meth c Qw B cA ex D nL mc ms pc ls st sh R M cb sb := by
  intro H locs cells slots lsA hH hL hS h1 h2
  exact va_ldcS hx hb hown w1 hdg (hk _ _ _ _ _ _ _ h H locs cells slots lsA hH hL (SQ.cons trivial hS) h1 h2)
theorem tsw_inv {x : Int} {J : Nat → Prop} {d : Nat} : ∀ (r : List Nat) (lo : Int), tsw lo x J d r → ((x < lo ∨ lo + (r.length : Int) ≤ x) ∧ J d) ∨ ∃ (j t : Nat), x = lo + (j : Int) ∧ r[j]? = some t ∧ J t
  | [], lo, h => Or.inl ⟨by simp; omega, h⟩
  | t :: r, lo, h => by
    unfold tsw at h
    by_cases hx : x = lo
    · rw [if_pos hx] at h
      exact Or.inr ⟨0, t, by omega, rfl, h⟩
    · rw [if_neg hx] at h
      rcases tsw_inv r (lo + 1) h with ⟨h1, h2⟩ | ⟨j, t', h1, h2, h3⟩
      · exact Or.inl ⟨by simp; omega, h2⟩
      · exact Or.inr ⟨j + 1, t', by omega, h2, h3⟩
theorem lsw_inv {x : Int} {J : Nat → Prop} {d : Nat} {dflt : Int} : ∀ (ps : List (Int × Int)) (r : List Nat), ps.length = r.length → lsw x J d ps r → ∃ (t : Nat) (off : Int), Op.lookupswitch.offset ps dflt x = off ∧ J t ∧ ((t = d ∧ off = dflt) ∨ ∃ (i : Nat) (q : Int × Int), ps[i]? = some q ∧ r[i]? = some t ∧ q.2 = off)
  | [], [], _, h => ⟨d, dflt, rfl, h, Or.inl ⟨rfl, rfl⟩⟩
  | (kk, o) :: ps, t :: r, hl, h => by
    unfold lsw at h
    by_cases hx : x = kk
    · rw [if_pos hx] at h
      refine ⟨t, o, by rw [Op.lookupswitch.offset_cons, if_pos hx.symm], h, Or.inr ⟨0, (kk, o), rfl, rfl, rfl⟩⟩
    · rw [if_neg hx] at h
      obtain ⟨t', off, g1, g2, g3⟩ := lsw_inv (dflt := dflt) ps r (by simpa using hl) h
      refine ⟨t', off, by rw [Op.lookupswitch.offset_cons, if_neg (fun z => hx z.symm)]; exact g1, g2, ?_⟩
      rcases g3 with g | ⟨i, q, q1, q2, q3⟩
      · exact Or.inl g
      · exact Or.inr ⟨i + 1, q, q1, q2, q3⟩
  | [], _ :: _, hl, _ => by simp at hl
  | _ :: _, [], hl, _ => by simp at hl
theorem sd_tsw (hx : p.tables.exec = Jvm.exec) (hb : c.code = cc) {dflt lo hi : Int} {offs : Array Int} {len : Nat} {tp : Nat → Nat} {d : Nat} {r : List Nat} {J : Nat → NXT} (hdg : decode cc pc = .ok (.tableswitch dflt lo hi offs, len)) (hlo : rngv 0 lo) (hhi : hi + 1 = lo + (r.length : Int)) (hd : (pc : Int) + dflt = (tp d : Int)) (hr : ∀ (j t : Nat), r[j]? = some t → ∃ off, offs[j]? = some off ∧ (pc : Int) + off = (tp t : Int)) (hJ : ∀ t ls st sh R M cb sb, J t ls st sh R M cb sb → WG p l e Rm s mm args below meth c Qw B cA ex D nL mc ms (tp t) ls st sh R M cb sb) (h0 : pI st fun x t => tsw lo x (fun j => J j ls t sh R M cb sb) d r) : WG p l e Rm s mm args below meth c Qw B cA ex D nL mc ms pc ls st sh R M cb sb := by
  obtain ⟨x, t, rfl, h⟩ := pI_inv h0
  intro H locs cells slots lsA hH hL hS h1 h2
  have hxr : rngv 0 x := hS.hd
  have ex : (Int32.ofInt x).toInt = x := ti32 hxr
  rcases tsw_inv _ _ h with ⟨g1, g2⟩ | ⟨j, t', g1, g2, g3⟩
  · exact lv_tableOut hx hb hdg (by rw [ex]; omega) hd (hJ _ _ _ _ _ _ _ _ g2 H locs cells slots lsA hH hL hS.tl h1 h2)
  · obtain ⟨off, e1, e2⟩ := hr j t' g2
    have hjl : j < r.length := (List.getElem?_eq_some_iff.mp g2).1
    exact lv_tableIn hx hb hdg (by rw [ex]; omega) (by rw [ex]; omega) (by rw [ex, show (x - lo).toNat = j by omega]; exact e1) e2 (hJ _ _ _ _ _ _ _ _ g3 H locs cells slots lsA hH hL hS.tl h1 h2)
theorem sd_lsw (hx : p.tables.exec = Jvm.exec) (hb : c.code = cc) {dflt : Int} {ps : Array (Int × Int)} {len : Nat} {tp : Nat → Nat} {d : Nat} {r : List Nat} {J : Nat → NXT} (hdg : decode cc pc = .ok (.lookupswitch dflt ps, len)) (hsort : (ps.toList.zip (ps.toList.drop 1)).all (fun (a, next) => a.1 < next.1) = true) (hlen : ps.toList.length = r.length) (hd : (pc : Int) + dflt = (tp d : Int)) (hr : ∀ (i t : Nat) (q : Int × Int), ps.toList[i]? = some q → r[i]? = some t → (pc : Int) + q.2 = (tp t : Int)) (hJ : ∀ t ls st sh R M cb sb, J t ls st sh R M cb sb → WG p l e Rm s mm args below meth c Qw B cA ex D nL mc ms (tp t) ls st sh R M cb sb) (h0 : pI st fun x t => lsw x (fun j => J j ls t sh R M cb sb) d ps.toList r) : WG p l e Rm s mm args below meth c Qw B cA ex D nL mc ms pc ls st sh R M cb sb := by
  obtain ⟨x, t, rfl, h⟩ := pI_inv h0
  intro H locs cells slots lsA hH hL hS h1 h2
  have hxr : rngv 0 x := hS.hd
  have ex : (Int32.ofInt x).toInt = x := ti32 hxr
  obtain ⟨t', off, g1, g2, g3⟩ := lsw_inv (dflt := dflt) _ _ hlen h
  refine lv_lookup (off := off) hx hb hdg hsort (by rw [ex]; exact g1) (tgt := tp t') ?_ (hJ _ _ _ _ _ _ _ _ g2 H locs cells slots lsA hH hL hS.tl h1 h2)
  rcases g3 with ⟨e1, e2⟩ | ⟨i, q, q1, q2, q3⟩
  · rw [e1, e2]; exact hd
  · rw [← q3]; exact hr i t' q q1 q2
theorem sd_ialoadX (hx : p.tables.exec = Jvm.exec) (hb : c.code = cc) {X : Int × (Int → Int)} (hXS : XS B ex X s) {j x : Int} {t : List AV} (hst : st = (0, j) :: (4, x) :: t) (hdg : decode cc pc = .ok (.iaload, 1)) (hk : ∀ ls st sh R M cb sb, k ls st sh R M cb sb → WG p l e Rm s mm args below meth c Qw B cA ex D nL mc ms (pc + 1) ls st sh R M cb sb) (h : x = 0 ∧ 0 ≤ j ∧ j < X.1 ∧ k ls (vi (X.2 j) :: t) sh R M cb sb) : WG p l e Rm s mm args below meth c Qw B cA ex D nL mc ms pc ls st sh R M cb sb := by
  obtain ⟨rfl, hj0, hj1, h⟩ := h
  subst hst
  intro H locs cells slots lsA hH hL hS h1 h2
  rcases hXS with hXS | ⟨L, xs, hX, e1, e2, e3, e4, e5⟩
  · omega
  have hjr : rngv 0 j := hS.hd
  rw [e1] at hj1
  have hvp := in32 hjr hj0 hj1
  have hcl := clamp32 hjr hj0
  obtain ⟨jn, rfl⟩ := Int.eq_ofNat_of_zero_le hj0
  rw [Int.toNat_natCast] at hcl
  have hh := hk _ _ _ _ _ _ _ h H locs cells slots lsA hH hL (SQ.cons (show rngv 0 (X.2 jn) from by rw [e3]; exact i32_rng _) hS.tl.tl) h1 h2
  rw [map_cv_cons, show cv B ex (vi (X.2 jn)) = .int (Int32.ofInt (X.2 jn)) from rfl, e3, oi32] at hh
  refine va_sld hx hb hX e4 e5 hH.2.1 hvp hdg ?_
  rw [hcl]
  exact hh
theorem sd_alenX (hx : p.tables.exec = Jvm.exec) (hb : c.code = cc) {X : Int × (Int → Int)} (hXS : XS B ex X s) {x : Int} {t : List AV} (hst : st = (4, x) :: t) (hdg : decode cc pc = .ok (.arraylength, 1)) (hk : ∀ ls st sh R M cb sb, k ls st sh R M cb sb → WG p l e Rm s mm args below meth c Qw B cA ex D nL mc ms (pc + 1) ls st sh R M cb sb) (h : x = 0 ∧ 0 ≤ X.1 ∧ k ls (vi X.1 :: t) sh R M cb sb) : WG p l e Rm s mm args below meth c Qw B cA ex D nL mc ms pc ls st sh R M cb sb := by
  obtain ⟨rfl, hj0, h⟩ := h
  subst hst
  intro H locs cells slots lsA hH hL hS h1 h2
  rcases hXS with hXS | ⟨L, xs, hX, e1, e2, e3, e4, e5⟩
  · omega
  rw [e1] at h
  have hh := hk _ _ _ _ _ _ _ h H locs cells slots lsA hH hL (SQ.cons (show rngv 0 (L : Int) from ⟨by omega, by omega⟩) hS.tl) h1 h2
  exact va_slen hx hb hX e4 e5 hH.2.1 hdg hh
theorem sd_objInit (hx : p.tables.exec = Jvm.exec) (hb : c.code = cc) (hts : ∀ w ∈ TBg, w.before args s = true) {own : String} (hown : s.vm.findClass own = some mm.cls) (hfr : 6 ≤ Rm.frames) (hlo : 360 ≤ Rm.locals) {idx : Nat} (w1 : (Cond.methodLink own idx Lib.objectInit).before args s = true) (w2 : (Cond.instanceMethod Lib.objectInit).before args s = true) (w3 : (Cond.code Lib.objectInit ⟨#[0xb1]⟩ 1 none).before args s = true) (hml : c.maxLocals = nL) (hdg : decode cc pc = .ok (.invokespecial idx, 3)) (hk : ∀ ls st sh R M cb sb, k ls st sh R M cb sb → WG p l e Rm s mm args below meth c Qw B cA ex D nL mc ms (pc + 3) ls st sh R M cb sb) (h0 : bud (Nat.ble (cats st) 8) (pR st fun a t => 0 ≤ a ∧ k ls t sh R M cb sb)) : WG p l e Rm s mm args below meth c Qw B cA ex D nL mc ms pc ls st sh R M cb sb := by
  obtain ⟨hb1, h⟩ := bud_inv h0
  have b1 := Nat.le_of_ble_eq_true hb1
  obtain ⟨a, t, rfl, ha, h⟩ := pR_inv h
  intro H locs cells slots lsA hH hL hS h1 h2
  have hc := cats_sum B ex t
  have hc2 : cats t ≤ 8 := by unfold cats at b1; omega
  rw [map_cv_cons, show cv B ex (2, a) = rv B a from rfl]
  unfold rv
  rw [if_neg (by omega)]
  exact W.objInit hx hb hown w1 w2 w3 rfl (hL.1.1.trans hml.symm) rfl hdg (by omega) (by show 2 * 0 + _ + 12 ≤ _; omega) (hk _ _ _ _ _ _ _ h H locs cells slots lsA hH hL hS.tl h1 h2)
theorem sd_mmax (hx : p.tables.exec = Jvm.exec) (hb : c.code = cc) (hts : ∀ w ∈ TBg, w.before args s = true) {own : String} (hown : s.vm.findClass own = some mm.cls) (hfr : 6 ≤ Rm.frames) (hlo : 360 ≤ Rm.locals) (hRc : mc ≤ Rm.cells) (hRs : ms ≤ Rm.slots) {idx : Nat} (w1 : (Cond.methodLink own idx Lib.Math.max.name).before args s = true) (w2 : (Cond.static Lib.Math.max.name).before args s = true) (w3 : (Cond.initialized "java/lang/Math").before args s = true) (w4 : (Cond.code Lib.Math.max.name Lib.Math.max.code 2 (some .int)).before args s = true) (hml : c.maxLocals = nL) (hdg : decode cc pc = .ok (.invokestatic idx, 3)) (hk : ∀ ls st sh R M cb sb, k ls st sh R M cb sb → WG p l e Rm s mm args below meth c Qw B cA ex D nL mc ms (pc + 3) ls st sh R M cb sb) (h0 : bud (Nat.ble (cats st) 10) (pII st fun x y t => k ls (vi (imax x y) :: t) sh R M cb sb)) : WG p l e Rm s mm args below meth c Qw B cA ex D nL mc ms pc ls st sh R M cb sb := by
  obtain ⟨hb1, h⟩ := bud_inv h0
  have b1 := Nat.le_of_ble_eq_true hb1
  obtain ⟨x, y, t, rfl, h⟩ := pII_inv h
  intro H locs cells slots lsA hH hL hS h1 h2
  have hc := cats_sum B ex t
  have hc2 : cats t ≤ 10 := by unfold cats at b1; unfold cats at b1; omega
  have hy : rngv 0 y := hS.hd
  have hxr : rngv 0 x := hS.tl.hd
  have hr : rngv 0 (imax x y) := by
    unfold imax
    split
    · first | exact hy | exact hxr
    · first | exact hy | exact hxr
  have hh := hk _ _ _ _ _ _ _ h H locs cells slots lsA hH hL (SQ.cons hr hS.tl.tl) h1 h2
  have e1 : Int32.ofInt (imax x y) = (if Int32.ofInt x < Int32.ofInt y then Int32.ofInt y else Int32.ofInt x) := by
    unfold imax
    by_cases q : x < y
    · rw [if_pos q, if_pos (by first | exact (lt32 hxr hy).mpr q | exact (lt32 hy hxr).mpr q)]
    · rw [if_neg q, if_neg (fun z => q (by first | exact (lt32 hxr hy).mp z | exact (lt32 hy hxr).mp z))]
  rw [map_cv_cons, show cv B ex (vi (imax x y)) = .int (Int32.ofInt (imax x y)) from rfl, e1] at hh
  exact va_mmax hx hb (by rw [hml, hL.1.1]) hown w1 w2 w3 w4 (by omega) (by omega) (by omega) (by omega) hdg hh
theorem sd_mmin (hx : p.tables.exec = Jvm.exec) (hb : c.code = cc) (hts : ∀ w ∈ TBg, w.before args s = true) {own : String} (hown : s.vm.findClass own = some mm.cls) (hfr : 6 ≤ Rm.frames) (hlo : 360 ≤ Rm.locals) (hRc : mc ≤ Rm.cells) (hRs : ms ≤ Rm.slots) {idx : Nat} (w1 : (Cond.methodLink own idx Lib.Math.min.name).before args s = true) (w2 : (Cond.static Lib.Math.min.name).before args s = true) (w3 : (Cond.initialized "java/lang/Math").before args s = true) (w4 : (Cond.code Lib.Math.min.name Lib.Math.min.code 2 (some .int)).before args s = true) (hml : c.maxLocals = nL) (hdg : decode cc pc = .ok (.invokestatic idx, 3)) (hk : ∀ ls st sh R M cb sb, k ls st sh R M cb sb → WG p l e Rm s mm args below meth c Qw B cA ex D nL mc ms (pc + 3) ls st sh R M cb sb) (h0 : bud (Nat.ble (cats st) 10) (pII st fun x y t => k ls (vi (imin x y) :: t) sh R M cb sb)) : WG p l e Rm s mm args below meth c Qw B cA ex D nL mc ms pc ls st sh R M cb sb := by
  obtain ⟨hb1, h⟩ := bud_inv h0
  have b1 := Nat.le_of_ble_eq_true hb1
  obtain ⟨x, y, t, rfl, h⟩ := pII_inv h
  intro H locs cells slots lsA hH hL hS h1 h2
  have hc := cats_sum B ex t
  have hc2 : cats t ≤ 10 := by unfold cats at b1; unfold cats at b1; omega
  have hy : rngv 0 y := hS.hd
  have hxr : rngv 0 x := hS.tl.hd
  have hr : rngv 0 (imin x y) := by
    unfold imin
    split
    · first | exact hy | exact hxr
    · first | exact hy | exact hxr
  have hh := hk _ _ _ _ _ _ _ h H locs cells slots lsA hH hL (SQ.cons hr hS.tl.tl) h1 h2
  have e1 : Int32.ofInt (imin x y) = (if Int32.ofInt y < Int32.ofInt x then Int32.ofInt y else Int32.ofInt x) := by
    unfold imin
    by_cases q : y < x
    · rw [if_pos q, if_pos (by first | exact (lt32 hxr hy).mpr q | exact (lt32 hy hxr).mpr q)]
    · rw [if_neg q, if_neg (fun z => q (by first | exact (lt32 hxr hy).mp z | exact (lt32 hy hxr).mp z))]
  rw [map_cv_cons, show cv B ex (vi (imin x y)) = .int (Int32.ofInt (imin x y)) from rfl, e1] at hh
  exact va_mmin hx hb (by rw [hml, hL.1.1]) hown w1 w2 w3 w4 (by omega) (by omega) (by omega) (by omega) hdg hh
end
end
section
/-! methods, calls, a row's link, a walk -/
def mY (m : Nat) : MethodName := (mt m).1
def mC (m : Nat) : ByteArray := (mt m).2.1
def mL (m : Nat) : Nat := (mt m).2.2.1
def mR (m : Nat) : Option FieldType := (mt m).2.2.2.1
def mO (m : Nat) : String := (mt m).2.2.2.2.1
def mK (m : Nat) : List INS := (mt m).2.2.2.2.2
def rvl (B : Nat) (ret : Option FieldType) (x : Int) : Option Value := match ret with
  | none => none
  | some .long => some (.long (Int64.ofInt x))
  | some (.object _) => some (rv B x)
  | some (.array _) => some (rv B x)
  | some _ => some (.int (Int32.ofInt x))
def rok (ret : Option FieldType) (x : Int) : Prop := match ret with
  | none => True
  | some .long => rngv 1 x
  | some (.object _) => rngv 2 x
  | some (.array _) => rngv 2 x
  | some .boolean => x = 0 ∨ x = 1
  | some _ => rngv 0 x
def retI (ret : Option FieldType) : Jvm.ClassFile.Instr := match ret with
  | none => .return_
  | some .long => .lreturn
  | some (.object _) => .areturn
  | some (.array _) => .areturn
  | some _ => .ireturn
def rtB (rt : Nat) (ret : Option FieldType) : Bool := match ret with
  | none => Nat.beq rt 9
  | some .long => Nat.beq rt 1
  | some (.object _) => Nat.beq rt 2
  | some (.array _) => Nat.beq rt 2
  | some .boolean => Nat.beq rt 5
  | some .int => Nat.beq rt 0
  | some _ => false
def PreM (B : Nat) (cA : Nat → ClassId) (D : va_G) (ex adV : Nat → Nat) (as : List AV) (sh : SHP) (R M : MEM) : Array Value → State → Prop := va_Pc (as.map (cv B ex)) (fun U => va_P D vwCl (wo B cA sh R M) U.heap ∧ U.heap.size = B + sh.length ∧ RN sh R M ∧ va_K D vwCl (TYS cA) U ∧ EX B ex adV U U.heap ∧ SQ as)
def PostM (B : Nat) (cA : Nat → ClassId) (D : va_G) (ret : Option FieldType) (Q : RES) : Array Value → State → Outcome → State → Prop := fun _ u oc t => (∃ (x : Int) (sh : SHP) (R M : MEM), oc = .returned (rvl B ret x) ∧ Q x sh R M ∧ rok ret x ∧ va_P D vwCl (wo B cA sh R M) t.heap ∧ t.heap.size = B + sh.length ∧ RN sh R M) ∧ va_F (Bq B) u t
def wsM (m : Nat) : List Cond := Cond.code (mY m) (mC m) (mL m) (mR m) :: TBg
def roomM (d mc ms : Nat) : Room := { frames := d + 6, cells := mc, slots := ms, locals := 60 * (d + 6) }
/-- METHOD m, with d calls still to come beneath it at most, making mc cells of ms slots at most: from these arguments and these numbers it comes to an end, and then Q -/
def Mw (d : Nat) : CLL := fun m as sh R M mc ms Q => ∀ (l : Launch) (B : Nat) (cA : Nat → ClassId) (ex adV : Nat → Nat) (D : va_G), Met l (mY m) (wsM m) (roomM d mc ms) (PreM B cA D ex adV as sh R M) (PostM B cA D (mR m) Q) mc ms (Bq B)
def Cd (d : Nat) : CLL := match d with
  | 0 => fun _ _ _ _ _ _ _ _ => False
  | d + 1 => Mw d
theorem nfw : nativeFrameWords "java/lang/System" "arraycopy" 5 = 7 := by decide +kernel
theorem PreM_blind {B : Nat} {cA : Nat → ClassId} {D : va_G} {ex adV : Nat → Nat} {as : List AV} {sh : SHP} {R M : MEM} : FrameBlind (PreM B cA D ex adV as sh R M) := fun a U g mk h => ⟨h.1, h.2.1, h.2.2.1, h.2.2.2.1, va_K.moved (u := U) (U := U.calling g mk a) (Vm.Alike.refl U.vm) h.2.2.2.2.1, EX.same (u := U) rfl h.2.2.2.2.2.1, h.2.2.2.2.2.2⟩
theorem TBg_good {w : Cond} (h : w ∈ TBg) : (w.onTables && w.keeps) = true ∨ ∃ ty, w = .arrayClass ty := good_of_word (List.mem_filter.mp h).2
def wdq (q : Nat) (w : Cond) : Bool := decide (lw_tbl[q]? = some w) && goodWord w
theorem wdq_mem {q : Nat} {w : Cond} (h : wdq q w = true) : w ∈ TBg := by
  unfold wdq at h
  rw [Bool.and_eq_true, decide_eq_true_eq] at h
  exact List.mem_filter.mpr ⟨List.mem_of_getElem? h.1, h.2⟩
theorem popn_inv : ∀ (n : Nat) (acc s : List AV) (f : List AV → List AV → Prop), popn n acc s f → ∃ (as t : List AV), s = as.reverse ++ t ∧ as.length = n ∧ f (as ++ acc) t
  | 0, acc, s, f, h => ⟨[], s, rfl, rfl, h⟩
  | n + 1, acc, v :: s, f, h => by
    obtain ⟨as, t, h1, h2, h3⟩ := popn_inv n (v :: acc) s f h
    exact ⟨as ++ [v], t, by rw [h1]; simp, by simp [h2], by simpa using h3⟩
  | _ + 1, _, [], _, h => h.elim
/-- the link of a call, by the places of its words -/
def callB (own : String) (index : Nat) (r : List Nat) : Bool := decide (pick r 1 < 277) && decide (mL (pick r 1) ≤ 40) && rtB (pick r 3) (mR (pick r 1)) && decide ((mY (pick r 1)).cls ≠ "java/lang/invoke/MethodHandle") && decide ((mY (pick r 1)).cls ≠ "java/lang/invoke/VarHandle") && decide ((parseMethodDescriptor (mY (pick r 1)).desc).map (fun d => d.parameters.length) = some (pick r 2)) && wdq (pick r 7) (.methodLink own index (mY (pick r 1))) && wdq (pick r 10) (.initialized (mY (pick r 1)).cls) && wdq (pick r 11) (.code (mY (pick r 1)) (mC (pick r 1)) (mL (pick r 1)) (mR (pick r 1)))
def cvB (r : List Nat) : Bool := (match vwCl[pick r 6]? with
  | some q => decide (q.1 = (mY (pick r 1)).cls)
  | none => false) && decide (pick r 6 < 100) && wdq (pick r 8) (.instanceMethod (mY (pick r 1))) && wdq (pick r 9) (.selects (mY (pick r 1)).cls (mY (pick r 1)) (mY (pick r 1)))
def ciB (r : List Nat) : Bool := decide (pick r 6 < 100) && wdq (pick r 8) (.instanceMethod (mY (pick r 1))) && decide ((mY (pick r 1)).name = "<init>") && decide (mR (pick r 1) = none)
section
variable {p : Program} {l : Launch} {e : Env} {Rm : Room} {s : State} {mm : MethodId} {args : Array Value} {below : List Frame} {meth : Method} {c : Code} {Qw : State → Prop}
variable {B : Nat} {cA : Nat → ClassId} {ex adV : Nat → Nat} {D : va_G} {nL mc ms : Nat} {cc : ByteArray} {pc : Nat} {k : NXT} {ls st : List AV} {sh : SHP} {R M : MEM} {cb sb : Nat}
set_option maxRecDepth 10000 in
theorem callB_of_row {d : Nat} {own : String} {index : Nat} {r : List Nat} (hts : ∀ w ∈ TBg, w.before args s = true) (hfr : d + 7 ≤ Rm.frames) (hlo : 60 * (d + 7) ≤ Rm.locals) (h : callB own index r = true) : CallB Rm s args own index (mY (pick r 1)) (mC (pick r 1)) (mL (pick r 1)) (mR (pick r 1)) (wsM (pick r 1)) (roomM d (pick r 4) (pick r 5)) (pick r 4) (pick r 5) (pick r 2) := by
  unfold callB at h
  simp only [Bool.and_eq_true, decide_eq_true_eq] at h
  obtain ⟨⟨⟨⟨⟨⟨⟨⟨h0, h1⟩, h2⟩, h3⟩, h4⟩, h5⟩, h6⟩, h7⟩, h8⟩ := h
  refine callB_of (ws' := TBg) (pick r 2) hts ?_ (by unfold wsM; rfl) (by unfold roomM; rfl) (by unfold roomM; rfl) (hts _ (wdq_mem h7)) (hts _ (wdq_mem h6)) ⟨h3, h4, h5⟩ ⟨by show d + 6 + 1 ≤ _; omega, by show 8 + (mL (pick r 1) + 11) + 60 * (d + 6) ≤ _; omega⟩
  intro w hw
  rcases List.mem_cons.mp hw with rfl | hw
  · exact ⟨wdq_mem h8, TBg_good (wdq_mem h8)⟩
  · exact ⟨hw, TBg_good hw⟩
theorem call_go {st0 : List Value} {mc' ms' : Nat} {ret : Option FieldType} {Q : RES} {a : Array Value} {rest : List Value} {H : Heap} {locs : List Loc} {cells slots : Nat} {lsA : Array Slot} (hr : va_Run p l e Rm s mm args below meth c H locs cells slots mc' ms' (F0 mm pc lsA st0) rest (PostM B cA D ret Q a) (Bq B)) (hBs : B ≤ s.heap.size) (hS : va_S (Bq B) s.heap H locs)
    (kk : ∀ (x : Int) (sh : SHP) (R M : MEM) (H1 : Heap) (locs1 : List Loc), Q x sh R M → rok ret x → HR B cA D s H1 locs1 sh R M → W p l e Rm s mm args below meth c H1 locs1 (cells + mc') (slots + ms') Qw (F0 mm (pc + 3) lsA ((rvl B ret x).toList ++ rest))) : W p l e Rm s mm args below meth c H locs cells slots Qw (F0 mm pc lsA st0) := by
  intro T hT X
  obtain ⟨v, st₀, t, T', L, h0, X', hL, e1, e2, ⟨⟨x, sh, R, M, hv, hq, hrk, hp, hz, hn⟩, hz2, hk2⟩, stp⟩ := hr T hT X
  cases hv
  rw [h0] at hz2 hk2
  obtain ⟨t2, a1, b1⟩ := kk x sh R M T'.heap (locs ++ L) hq hrk ⟨by rw [e1]; exact hp, ⟨Nat.le_trans hS.1 (by rw [e1]; exact hz2), fun q h1 h2 => by rw [e1, hk2 q (Nat.lt_of_lt_of_le h1 hS.1) h2]; exact hS.2.1 q h1 h2, fun q hq => by
      rcases List.mem_append.mp hq with h | h
      · exact hS.2.2 q h
      · exact hL q h⟩, by rw [e1]; exact hz, hn⟩ T' rfl X'
  exact ⟨t2, stp t2 a1, b1⟩
/-- what a call's answer is on the caller's stack -/
theorem rtk_go {rt : Nat} {ret : Option FieldType} {t : List AV} {kq : List AV → SHP → MEM → MEM → Prop} {x : Int} (hrt : rtB rt ret = true) (hr : rok ret x) (h : rtk rt t kq x sh R M) (hS : SQ t) : ∃ t', kq t' sh R M ∧ SQ t' ∧ t'.map (cv B ex) = (rvl B ret x).toList ++ t.map (cv B ex) := by
  unfold rtB at hrt
  split at hrt
  · cases Nat.eq_of_beq_eq_true hrt
    exact ⟨t, h, hS, rfl⟩
  · cases Nat.eq_of_beq_eq_true hrt
    exact ⟨(1, x) :: t, h, SQ.cons hr hS, rfl⟩
  · cases Nat.eq_of_beq_eq_true hrt
    exact ⟨(2, x) :: t, h, SQ.cons hr hS, rfl⟩
  · cases Nat.eq_of_beq_eq_true hrt
    exact ⟨(2, x) :: t, h, SQ.cons hr hS, rfl⟩
  · cases Nat.eq_of_beq_eq_true hrt
    exact ⟨(0, x) :: t, h hr, SQ.cons (by rcases hr with rfl | rfl <;> exact ⟨by omega, by omega⟩) hS, rfl⟩
  · cases Nat.eq_of_beq_eq_true hrt
    exact ⟨(0, x) :: t, h, SQ.cons hr hS, rfl⟩
  · cases hrt
theorem map_rev (B : Nat) (ex : Nat → Nat) (as t : List AV) : (as.reverse ++ t).map (cv B ex) = (as.map (cv B ex)).reverse ++ t.map (cv B ex) := by simp
theorem SQ.app {as t : List AV} (h : SQ (as.reverse ++ t)) : SQ as ∧ SQ t := ⟨fun v hv => h v (List.mem_append_left _ (List.mem_reverse.mpr hv)), fun v hv => h v (List.mem_append_right _ hv)⟩
theorem sd_callS (hx : p.tables.exec = Jvm.exec) (hb : c.code = cc) (hK : va_K D vwCl (TYS cA) s) (hts : ∀ w ∈ TBg, w.before args s = true) {own : String} (hown : s.vm.findClass own = some mm.cls) (hRc : mc ≤ Rm.cells) (hRs : ms ≤ Rm.slots) (hEX : EX B ex adV s s.heap) (hBs : B ≤ s.heap.size) {d : Nat} (hfr : d + 6 ≤ Rm.frames) (hlo : 60 * (d + 6) ≤ Rm.locals) (hml : c.maxLocals = nL) {index : Nat} {r : List Nat} (hcb : callB own index r = true) (w2 : (Cond.static (mY (pick r 1))).before args s = true) (hdg : decode cc pc = .ok (.invokestatic index, 3)) (hk : ∀ ls st sh R M cb sb, k ls st sh R M cb sb → WG p l e Rm s mm args below meth c Qw B cA ex D nL mc ms (pc + 3) ls st sh R M cb sb) (h0 : popn (pick r 2) [] st fun as t => bud (Nat.ble (pick r 4) cb && Nat.ble (pick r 5) sb && Nat.ble (cats t) 8) (Cd d (pick r 1) as sh R M (pick r 4) (pick r 5) (rtk (pick r 3) t fun t sh R M => k ls t sh R M (cb - pick r 4) (sb - pick r 5)))) : WG p l e Rm s mm args below meth c Qw B cA ex D nL mc ms pc ls st sh R M cb sb := by
  obtain ⟨as, t, rfl, hlen, h⟩ := popn_inv _ _ _ _ h0
  obtain ⟨hb1, h3⟩ := bud_inv h
  rw [Bool.and_eq_true, Bool.and_eq_true] at hb1
  have b0 := Nat.le_of_ble_eq_true hb1.1.1
  have b1 := Nat.le_of_ble_eq_true hb1.1.2
  have b2 := Nat.le_of_ble_eq_true hb1.2
  rw [List.append_nil] at h3
  unfold Cd at h3
  cases d with
  | zero => exact h3.elim
  | succ d =>
  have hcB := callB_of_row (d := d) hts (by omega) (by omega) hcb
  have hrt : rtB (pick r 3) (mR (pick r 1)) = true := by
    unfold callB at hcb
    simp only [Bool.and_eq_true] at hcb
    exact hcb.1.1.1.1.1.1.2
  intro H locs cells slots lsA hH hL hS h1 h2
  obtain ⟨hSa, hSt⟩ := hS.app
  have hcs := cats_sum B ex t
  have hM := h3 l B cA ex adV D
  rw [map_rev]
  refine call_go (va_runS (As := as.map (cv B ex)) (rest := t.map (cv B ex)) ⟨hx, hb, hml, hown, hts⟩ hM ⟨hcB, w2⟩ ⟨PreM_blind, fun U hU hW => ⟨rfl, by rw [hU]; exact hH.1, by rw [hU]; exact hH.2.2.1, hH.2.2.2, va_K.moved hW.alike hK, by rw [hU]; exact (hEX.warm hW).kept hH.2.1.2.1, hSa⟩⟩ rfl (by rw [List.length_map]; exact hlen) hL.1.1 rfl (lv_room (Nat.le_trans hcs b2)) hdg ⟨by omega, by omega⟩) hBs hH.2.1 (fun x sh' R' M' H1 locs1 hq hrk hH1 => ?_)
  obtain ⟨t', g1, g2, g3⟩ := rtk_go (B := B) (ex := ex) hrt hrk hq hSt
  have hh := hk _ _ _ _ _ _ _ g1 H1 locs1 (cells + pick r 4) (slots + pick r 5) lsA hH1 hL g2 (by omega) (by omega)
  rw [g3] at hh
  exact hh
theorem sd_callV (hx : p.tables.exec = Jvm.exec) (hb : c.code = cc) (hK : va_K D vwCl (TYS cA) s) (hts : ∀ w ∈ TBg, w.before args s = true) {own : String} (hown : s.vm.findClass own = some mm.cls) (hRc : mc ≤ Rm.cells) (hRs : ms ≤ Rm.slots) (hEX : EX B ex adV s s.heap) (hBs : B ≤ s.heap.size) {d : Nat} (hfr : d + 6 ≤ Rm.frames) (hlo : 60 * (d + 6) ≤ Rm.locals) (hml : c.maxLocals = nL) {index : Nat} {r : List Nat} (hcb : callB own index r = true) (hcv : cvB r = true) (hdg : decode cc pc = .ok (.invokevirtual index, 3)) (hk : ∀ ls st sh R M cb sb, k ls st sh R M cb sb → WG p l e Rm s mm args below meth c Qw B cA ex D nL mc ms (pc + 3) ls st sh R M cb sb) (h0 : popn (pick r 2) [] st fun as t => pR t fun a t => ook sh (pick r 6) a (bud (Nat.ble (pick r 4) cb && Nat.ble (pick r 5) sb && Nat.ble (cats t) 8) (Cd d (pick r 1) ((2, a) :: as) sh R M (pick r 4) (pick r 5) (rtk (pick r 3) t fun t sh R M => k ls t sh R M (cb - pick r 4) (sb - pick r 5))))) : WG p l e Rm s mm args below meth c Qw B cA ex D nL mc ms pc ls st sh R M cb sb := by
  obtain ⟨as, t, rfl, hlen, h⟩ := popn_inv _ _ _ _ h0
  obtain ⟨a, t, rfl, h⟩ := pR_inv h
  obtain ⟨hk0, h⟩ := ook_inv h
  obtain ⟨hb1, h3⟩ := bud_inv h
  rw [Bool.and_eq_true, Bool.and_eq_true] at hb1
  have b0 := Nat.le_of_ble_eq_true hb1.1.1
  have b1 := Nat.le_of_ble_eq_true hb1.1.2
  have b2 := Nat.le_of_ble_eq_true hb1.2
  rw [List.append_nil] at h3
  unfold Cd at h3
  cases d with
  | zero => exact h3.elim
  | succ d =>
  have hcB := callB_of_row (d := d) hts (by omega) (by omega) hcb
  have hrt : rtB (pick r 3) (mR (pick r 1)) = true := by
    unfold callB at hcb
    simp only [Bool.and_eq_true] at hcb
    exact hcb.1.1.1.1.1.1.2
  unfold cvB at hcv
  simp only [Bool.and_eq_true, decide_eq_true_eq] at hcv
  obtain ⟨⟨⟨hv1, hv2⟩, hv3⟩, hv4⟩ := hcv
  cases hcl : vwCl[pick r 6]? with
  | none => rw [hcl] at hv1; cases hv1
  | some q =>
  rw [hcl] at hv1
  simp only [decide_eq_true_eq] at hv1
  obtain ⟨n, rfl, hn, hsk⟩ := shk_inv (sh := sh) (a := a) (by rw [hk0]; omega)
  rw [hsk] at hk0
  intro H locs cells slots lsA hH hL hS h1 h2
  have hg := wo_get (B := B) (cA := cA) (R := R) (M := M) hn
  rw [hk0, el_obj hv2] at hg
  obtain ⟨hSa, hSt0⟩ := hS.app
  have hSt := hSt0.tl
  have hcs := cats_sum B ex t
  have hM := h3 l B cA ex adV D
  rw [map_rev, map_cv_cons]
  have e0 : cv B ex (2, (n : Int)) = .ref (B + n) := by
    show rv B (n : Int) = _
    unfold rv
    rw [if_neg (by omega), Int.toNat_natCast]
  rw [e0]
  have hPre : ∀ U : State, U.heap = H → s.WarmedH U.vm → PreM B cA D ex adV ((2, (n : Int)) :: as) sh R M (Value.ref (B + n) :: as.map (cv B ex)).toArray U := fun U hU hW => ⟨by rw [map_cv_cons, e0], by rw [hU]; exact hH.1, by rw [hU]; exact hH.2.2.1, hH.2.2.2, va_K.moved hW.alike hK, by rw [hU]; exact (hEX.warm hW).kept hH.2.1.2.1, SQ.cons hSt0.hd hSa⟩
  have hrc := va_recv hK hH.1 hcl hg
  rw [hv1] at hrc
  refine call_go (va_runV (C := (mY (pick r 1)).cls) (As := as.map (cv B ex)) (rest := t.map (cv B ex)) ⟨hx, hb, hml, hown, hts⟩ hM ⟨hcB, hts _ (wdq_mem hv3), hts _ (wdq_mem hv4)⟩ ⟨PreM_blind, hrc, hPre⟩ rfl (by rw [List.length_map]; exact hlen) hL.1.1 rfl (lv_room (Nat.le_trans hcs b2)) hdg ⟨by omega, by omega⟩) hBs hH.2.1 (fun x sh' R' M' H1 locs1 hq hrk hH1 => ?_)
  obtain ⟨t', g1, g2, g3⟩ := rtk_go (B := B) (ex := ex) hrt hrk hq hSt
  have hh := hk _ _ _ _ _ _ _ g1 H1 locs1 (cells + pick r 4) (slots + pick r 5) lsA hH1 hL g2 (by omega) (by omega)
  rw [g3] at hh
  exact hh
theorem sd_callI (hx : p.tables.exec = Jvm.exec) (hb : c.code = cc) (hK : va_K D vwCl (TYS cA) s) (hts : ∀ w ∈ TBg, w.before args s = true) {own : String} (hown : s.vm.findClass own = some mm.cls) (hRc : mc ≤ Rm.cells) (hRs : ms ≤ Rm.slots) (hEX : EX B ex adV s s.heap) (hBs : B ≤ s.heap.size) {d : Nat} (hfr : d + 6 ≤ Rm.frames) (hlo : 60 * (d + 6) ≤ Rm.locals) (hml : c.maxLocals = nL) {index : Nat} {r : List Nat} (hcb : callB own index r = true) (hcv : ciB r = true) (hdg : decode cc pc = .ok (.invokespecial index, 3)) (hk : ∀ ls st sh R M cb sb, k ls st sh R M cb sb → WG p l e Rm s mm args below meth c Qw B cA ex D nL mc ms (pc + 3) ls st sh R M cb sb) (h0 : popn (pick r 2) [] st fun as t => pR t fun a t => ook sh (pick r 6) a (bud (Nat.ble (pick r 4) cb && Nat.ble (pick r 5) sb && Nat.ble (cats t) 8) (Cd d (pick r 1) ((2, a) :: as) sh R M (pick r 4) (pick r 5) (rtk (pick r 3) t fun t sh R M => k ls t sh R M (cb - pick r 4) (sb - pick r 5))))) : WG p l e Rm s mm args below meth c Qw B cA ex D nL mc ms pc ls st sh R M cb sb := by
  obtain ⟨as, t, rfl, hlen, h⟩ := popn_inv _ _ _ _ h0
  obtain ⟨a, t, rfl, h⟩ := pR_inv h
  obtain ⟨hk0, h⟩ := ook_inv h
  obtain ⟨hb1, h3⟩ := bud_inv h
  rw [Bool.and_eq_true, Bool.and_eq_true] at hb1
  have b0 := Nat.le_of_ble_eq_true hb1.1.1
  have b1 := Nat.le_of_ble_eq_true hb1.1.2
  have b2 := Nat.le_of_ble_eq_true hb1.2
  rw [List.append_nil] at h3
  unfold Cd at h3
  cases d with
  | zero => exact h3.elim
  | succ d =>
  have hcB := callB_of_row (d := d) hts (by omega) (by omega) hcb
  have hrt : rtB (pick r 3) (mR (pick r 1)) = true := by
    unfold callB at hcb
    simp only [Bool.and_eq_true] at hcb
    exact hcb.1.1.1.1.1.1.2
  unfold ciB at hcv
  simp only [Bool.and_eq_true, decide_eq_true_eq] at hcv
  obtain ⟨⟨⟨hv2, hv3⟩, hv4⟩, hv5⟩ := hcv
  obtain ⟨n, rfl, hn, hsk⟩ := shk_inv (sh := sh) (a := a) (by rw [hk0]; omega)
  rw [hsk] at hk0
  intro H locs cells slots lsA hH hL hS h1 h2
  have hg := wo_get (B := B) (cA := cA) (R := R) (M := M) hn
  rw [hk0, el_obj hv2] at hg
  obtain ⟨hSa, hSt0⟩ := hS.app
  have hSt := hSt0.tl
  have hcs := cats_sum B ex t
  have hM := h3 l B cA ex adV D
  rw [map_rev, map_cv_cons]
  have e0 : cv B ex (2, (n : Int)) = .ref (B + n) := by
    show rv B (n : Int) = _
    unfold rv
    rw [if_neg (by omega), Int.toNat_natCast]
  rw [e0]
  have hPre : ∀ U : State, U.heap = H → s.WarmedH U.vm → PreM B cA D ex adV ((2, (n : Int)) :: as) sh R M (Value.ref (B + n) :: as.map (cv B ex)).toArray U := fun U hU hW => ⟨by rw [map_cv_cons, e0], by rw [hU]; exact hH.1, by rw [hU]; exact hH.2.2.1, hH.2.2.2, va_K.moved hW.alike hK, by rw [hU]; exact (hEX.warm hW).kept hH.2.1.2.1, SQ.cons hSt0.hd hSa⟩
  rw [hv5] at hcB
  refine call_go (va_runI (As := as.map (cv B ex)) (rest := t.map (cv B ex)) ⟨hx, hb, hml, hown, hts⟩ hM ⟨hcB, hv4, hts _ (wdq_mem hv3)⟩ ⟨PreM_blind, hPre⟩ rfl (by rw [List.length_map]; exact hlen) hL.1.1 rfl (lv_room (Nat.le_trans hcs b2)) hdg ⟨by omega, by omega⟩) hBs hH.2.1 (fun x sh' R' M' H1 locs1 hq hrk hH1 => ?_)
  obtain ⟨t', g1, g2, g3⟩ := rtk_go (B := B) (ex := ex) hrt hrk hq hSt
  have hh := hk _ _ _ _ _ _ _ g1 H1 locs1 (cells + pick r 4) (slots + pick r 5) lsA hH1 hL g2 (by omega) (by omega)
  rw [g3] at hh
  exact hh
theorem sd_copy (hx : p.tables.exec = Jvm.exec) (hb : c.code = cc) (hK : va_K D vwCl (TYS cA) s) (hts : ∀ w ∈ TBg, w.before args s = true) {own : String} (hown : s.vm.findClass own = some mm.cls) (hfr : 6 ≤ Rm.frames) (hlo : 360 ≤ Rm.locals) {index : Nat} (hlink : (Cond.methodLink own index arraycopyName).before args s = true) (hnat : (Cond.native arraycopyName).before args s = true) (hstat : (Cond.static arraycopyName).before args s = true) (hini : (Cond.initialized "java/lang/System").before args s = true) (hml : c.maxLocals = nL) (hdg : decode cc pc = .ok (.invokestatic index, 3)) (hk : ∀ ls st sh R M cb sb, k ls st sh R M cb sb → WG p l e Rm s mm args below meth c Qw B cA ex D nL mc ms (pc + 3) ls st sh R M cb sb) (h00 : bud (Nat.ble (cats st) 13) (pI st fun n s => pI s fun dp s => pR s fun b s => pI s fun sp s => pR s fun a s => aok sh 100 a sp (aok sh 100 b dp (0 ≤ n ∧ sp + n ≤ Int.ofNat (shk sh a).2 ∧ dp + n ≤ Int.ofNat (shk sh b).2 ∧ k ls s sh R (cpm M a sp b dp n) cb sb)))) : WG p l e Rm s mm args below meth c Qw B cA ex D nL mc ms pc ls st sh R M cb sb := by
  obtain ⟨hb1, h0⟩ := bud_inv h00
  have b1 := Nat.le_of_ble_eq_true hb1
  obtain ⟨n, t1, rfl, y1⟩ := pI_inv h0
  obtain ⟨dp, t2, rfl, y2⟩ := pI_inv y1
  obtain ⟨b, t3, rfl, y3⟩ := pR_inv y2
  obtain ⟨sp, t4, rfl, y4⟩ := pI_inv y3
  obtain ⟨a, t, rfl, y5⟩ := pR_inv y4
  obtain ⟨ka, sp0, sp1, y6⟩ := aok_inv y5
  obtain ⟨kb, dp0, dp1, y7⟩ := aok_inv y6
  obtain ⟨n0, n1, n2, h⟩ := y7
  obtain ⟨na, rfl, hna, hska⟩ := shk_inv (sh := sh) (a := a) (by rw [ka]; decide)
  obtain ⟨nb, rfl, hnb, hskb⟩ := shk_inv (sh := sh) (a := b) (by rw [kb]; decide)
  rw [hska] at ka sp1 n1
  rw [hskb] at kb dp1 n2
  intro H locs cells slots lsA hH hL hS h1 h2
  have hP := hH.1
  have hga := wo_get (B := B) (cA := cA) (R := R) (M := M) hna
  have hgb := wo_get (B := B) (cA := cA) (R := R) (M := M) hnb
  rw [ka] at hga
  rw [kb] at hgb
  have hnr : rngv 0 n := hS.hd
  have hdr : rngv 0 dp := hS.tl.hd
  have hsr : rngv 0 sp := hS.tl.tl.tl.hd
  have cn := clamp32 hnr n0
  have cdp := clamp32 hdr dp0
  have csp := clamp32 hsr sp0
  obtain ⟨nn, rfl⟩ := Int.eq_ofNat_of_zero_le n0
  obtain ⟨dn, rfl⟩ := Int.eq_ofNat_of_zero_le dp0
  obtain ⟨sn, rfl⟩ := Int.eq_ofNat_of_zero_le sp0
  rw [Int.toNat_natCast] at cn cdp csp
  have i1 : sn + nn ≤ (sk sh na).2 := by have : ((sn : Int) + (nn : Int)) ≤ ((sk sh na).2 : Int) := n1; omega
  have i2 : dn + nn ≤ (sk sh nb).2 := by have : ((dn : Int) + (nn : Int)) ≤ ((sk sh nb).2 : Int) := n2; omega
  have en : (Int32.ofInt (nn : Int)).toInt = (nn : Int) := ti32 hnr
  have ed : (Int32.ofInt (dn : Int)).toInt = (dn : Int) := ti32 hdr
  have es : (Int32.ofInt (sn : Int)).toInt = (sn : Int) := ti32 hsr
  have hcs := cats_sum B ex t
  have hc2 : cats t ≤ 13 := by
    unfold cats at b1; unfold cats at b1; unfold cats at b1; unfold cats at b1; unfold cats at b1; omega
  have e0 : ∀ q : Nat, cv B ex (2, (q : Int)) = .ref (B + q) := fun q => by
    show rv B (q : Int) = _
    unfold rv
    rw [if_neg (by omega), Int.toNat_natCast]
  simp only [map_cv_cons, e0]
  intro T hT X
  have hc0 : H[B + na]? = some (vp_cell (cA 0) ((sk sh na).2, .inl (fun j => Int32.ofInt (M na j)))) := hP na _ hga
  have hc1 : H[B + nb]? = some (vp_cell (cA 0) ((sk sh nb).2, .inl (fun j => Int32.ofInt (M nb j)))) := hP nb _ hgb
  obtain ⟨-, k0, hk0, cm0, hkk0⟩ := (hK.2 0 _ rfl).1 (sk sh na).2 (fun j => .int (Int32.ofInt (M na j)))
  obtain ⟨-, k1, hk1, cm1, hkk1⟩ := (hK.2 0 _ rfl).1 (sk sh nb).2 (fun j => .int (Int32.ofInt (M nb j)))
  obtain ⟨vm', X', step⟩ := X.arraycopy hx hown hlink hnat hstat hini (src := B + na) (dst := B + nb) (cs := vp_cell (cA 0) ((sk sh na).2, .inl (fun j => Int32.ofInt (M na j)))) (cd := vp_cell (cA 0) ((sk sh nb).2, .inl (fun j => Int32.ofInt (M nb j)))) (srcPos := Int32.ofInt sn) (destPos := Int32.ofInt dn) (n := Int32.ofInt nn) (by rw [hT]; exact hc0) (by rw [hT]; exact hc1)
    (fun _ h => by cases h) (fun _ h => by cases h) (fun h => by cases h) (fun h => by cases h) hk0 hk1 hkk0 hkk1 (by simp [refKind]) (lt0_32 hsr sp0) (lt0_32 hdr dp0) (lt0_32 hnr n0)
    (by rw [es, en]; show ¬ _ > ((arrV (cA 0) (sk sh na).2 (fun j => .int (Int32.ofInt (M na j)))).slots.size : Int); rw [arrV_size]; omega)
    (by rw [ed, en]; show ¬ _ > ((arrV (cA 0) (sk sh nb).2 (fun j => .int (Int32.ofInt (M nb j)))).slots.size : Int); rw [arrV_size]; omega)
    (fun vm₁ _ i hi => by
      rw [cn] at hi
      have e : (vp_cell (cA 0) ((sk sh na).2, .inl (fun j => Int32.ofInt (M na j)))).slots.getD ((Int32.ofInt (sn : Int)).toNatClampNeg + i) .null = .int (Int32.ofInt (M na ((Int32.ofInt (sn : Int)).toNatClampNeg + i : Nat))) := by
        show (arrV (cA 0) (sk sh na).2 (fun j => .int (Int32.ofInt (M na j)))).slots.getD _ _ = _
        rw [Array.getD_eq_getD_getElem?, arrV_read _ _ (by rw [csp]; omega)]
        rfl
      refine ⟨?_, ?_⟩
      · rw [e]
        rfl
      · rw [e]
        exact trivial)
    (g := F0 mm pc lsA (.int (Int32.ofInt nn) :: .int (Int32.ofInt dn) :: .ref (B + nb) :: .int (Int32.ofInt sn) :: .ref (B + na) :: t.map (cv B ex))) rfl (by rw [hml]; exact hL.1.1) (rest := t.map (cv B ex)) rfl (by rw [hb]; exact hdg) (by omega) (by rw [nfw]; show 2 * 0 + _ + (7 + 11) ≤ _; omega)
  have e1 : copied (vp_cell (cA 0) ((sk sh na).2, .inl (fun j => Int32.ofInt (M na j)))) (vp_cell (cA 0) ((sk sh nb).2, .inl (fun j => Int32.ofInt (M nb j)))) (Int32.ofInt sn) (Int32.ofInt dn) (Int32.ofInt nn) = vp_cell (cA 0) ((sk sh nb).2, .inl (va_cpy (fun j => Int32.ofInt (M na j)) (fun j => Int32.ofInt (M nb j)) (Int32.ofInt (sn : Int)).toNatClampNeg (Int32.ofInt (dn : Int)).toNatClampNeg (Int32.ofInt (nn : Int)).toNatClampNeg)) := va_copied (fun z => .int z) (cA 0) (cA 0) (fun j => Int32.ofInt (M na j)) (fun j => Int32.ofInt (M nb j)) (by rw [csp, cn]; exact i1)
  rw [e1, csp, cdp, cn] at X' step
  have e2 : va_cpy (fun j : Nat => Int32.ofInt (M na j)) (fun j : Nat => Int32.ofInt (M nb j)) sn dn nn = fun j : Nat => Int32.ofInt (cpm M na sn nb dn nn nb j) := by
    funext j
    unfold va_cpy cpm
    by_cases hj : dn ≤ j ∧ j < dn + nn
    · rw [if_pos hj, if_pos ⟨rfl, by omega, by omega⟩]
      show Int32.ofInt (M na ((sn + (j - dn) : Nat) : Int)) = _
      have e5 : ((sn + (j - dn) : Nat) : Int) = (sn : Int) + ((j : Int) - (dn : Int)) := by omega
      rw [e5]
    · rw [if_neg hj, if_neg (fun z => hj ⟨by omega, by omega⟩)]
  rw [e2] at X' step
  have hl : B + nb < H.size := (Array.getElem?_eq_some_iff.mp hc1).1
  generalize hcell : vp_cell (cA 0) ((sk sh nb).2, .inl (fun j : Nat => Int32.ofInt (cpm M na sn nb dn nn nb j))) = cell9 at X' step
  have hheap : ((T.setVm vm').setCell (B + nb) cell9).heap = H.setIfInBounds (B + nb) cell9 := by rw [← hT]; rfl
  have oq : ∀ q : Nat, q ≠ B + nb → (H.setIfInBounds (B + nb) cell9)[q]? = H[q]? := fun q hq => by simp [Array.getElem?_setIfInBounds, Ne.symm hq]
  have cne : ∀ q : Nat, q ≠ nb → cpm M na sn nb dn nn q = M q := fun q hq => by
    funext j
    unfold cpm
    rw [if_neg (fun z => hq (by have := z.1; omega))]
  have hrn : RN sh R (cpm M na sn nb dn nn) := by
    intro a9 j9 ha9
    have g0 := hH.2.2.2 a9 j9 ha9
    by_cases ea : a9 = nb
    · subst ea
      rw [kb] at g0 ⊢
      show rngv 0 (cpm M na sn a9 dn nn a9 j9)
      unfold cpm
      split
      · have g1 := hH.2.2.2 na (sn + (j9 - dn)) hna
        rw [ka] at g1
        have e5 : ((sn : Int) + ((j9 : Int) - (dn : Int))) = ((sn + (j9 - dn) : Nat) : Int) := by omega
        rw [e5]
        exact g1
      · exact g0
    · rw [cne a9 ea]
      exact g0
  have hHR : ∀ L : List Loc, (∀ q ∈ L, q.base = B + nb) → HR B cA D s (H.setIfInBounds (B + nb) cell9) (locs ++ L) sh R (cpm M na sn nb dn nn) := by
    intro L hLL
    refine ⟨?_, ⟨by simp; exact hH.2.1.1, fun q g1 g2 => by
      rw [oq q (fun e => g2 (by rw [e]; exact Nat.le_add_right _ _))]
      exact hH.2.1.2.1 q g1 g2, fun q hq => by
      rcases List.mem_append.mp hq with h | h
      · exact hH.2.1.2.2 q h
      · rw [hLL q h]
        exact Nat.le_add_right B nb⟩, by simp; exact hH.2.2.1, hrn⟩
    have := hP.set wo_D hgb (e := .inl (cA 0, (sk sh nb).2, .inl (fun j : Nat => Int32.ofInt (cpm M na sn nb dn nn nb j)))) (H1 := H.setIfInBounds (B + nb) cell9) (show (H.setIfInBounds (B + nb) cell9)[B + nb]? = some (vp_cell _ _) by rw [hcell]; simp [Array.getElem?_setIfInBounds, hl]) oq
    rwa [wo_set (R' := R) (M' := cpm M na sn nb dn nn) hnb (by rw [kb]; rfl) (fun _ _ => rfl) cne] at this
  obtain ⟨t9, a1, b9⟩ := hk _ _ _ _ _ _ _ h _ _ cells slots lsA (hHR _ (fun q hq => by obtain ⟨z, -, hz⟩ := List.mem_map.mp hq; rw [← hz])) hL hS.tl.tl.tl.tl.tl h1 h2 _ hheap X'
  exact ⟨t9, step t9 a1, b9⟩
end
end
section
/-! texts: the JDK's own methods over the two constants -/
theorem dJ0_isLatin1_aae02_0 : decode cJ0_isLatin1_aae02 0 = .ok (.getstatic 38, 3) := by decide +kernel
theorem dJ0_isLatin1_aae02_3 : decode cJ0_isLatin1_aae02 3 = .ok (.ifCond .eq 14, 3) := by decide +kernel
theorem dJ0_isLatin1_aae02_6 : decode cJ0_isLatin1_aae02 6 = .ok (.aload_n 0, 1) := by decide +kernel
theorem dJ0_isLatin1_aae02_7 : decode cJ0_isLatin1_aae02 7 = .ok (.getfield 15, 3) := by decide +kernel
theorem dJ0_isLatin1_aae02_10 : decode cJ0_isLatin1_aae02 10 = .ok (.ifCond .ne 7, 3) := by decide +kernel
theorem dJ0_isLatin1_aae02_13 : decode cJ0_isLatin1_aae02 13 = .ok (.iconst 1, 1) := by decide +kernel
theorem dJ0_isLatin1_aae02_14 : decode cJ0_isLatin1_aae02 14 = .ok (.goto 4, 3) := by decide +kernel
theorem dJ0_isLatin1_aae02_17 : decode cJ0_isLatin1_aae02 17 = .ok (.iconst 0, 1) := by decide +kernel
theorem dJ0_isLatin1_aae02_18 : decode cJ0_isLatin1_aae02 18 = .ok (.ireturn, 1) := by decide +kernel
theorem dJ0_coder_7d493_0 : decode cJ0_coder_7d493 0 = .ok (.getstatic 38, 3) := by decide +kernel
theorem dJ0_coder_7d493_3 : decode cJ0_coder_7d493 3 = .ok (.ifCond .eq 10, 3) := by decide +kernel
theorem dJ0_coder_7d493_6 : decode cJ0_coder_7d493 6 = .ok (.aload_n 0, 1) := by decide +kernel
theorem dJ0_coder_7d493_7 : decode cJ0_coder_7d493 7 = .ok (.getfield 15, 3) := by decide +kernel
theorem dJ0_coder_7d493_10 : decode cJ0_coder_7d493 10 = .ok (.goto 4, 3) := by decide +kernel
theorem dJ0_coder_7d493_13 : decode cJ0_coder_7d493 13 = .ok (.iconst 1, 1) := by decide +kernel
theorem dJ0_coder_7d493_14 : decode cJ0_coder_7d493 14 = .ok (.ireturn, 1) := by decide +kernel
theorem dJ0_length_8abf5_0 : decode cJ0_length_8abf5 0 = .ok (.aload_n 0, 1) := by decide +kernel
theorem dJ0_length_8abf5_1 : decode cJ0_length_8abf5 1 = .ok (.getfield 9, 3) := by decide +kernel
theorem dJ0_length_8abf5_4 : decode cJ0_length_8abf5 4 = .ok (.arraylength, 1) := by decide +kernel
theorem dJ0_length_8abf5_5 : decode cJ0_length_8abf5 5 = .ok (.aload_n 0, 1) := by decide +kernel
theorem dJ0_length_8abf5_6 : decode cJ0_length_8abf5 6 = .ok (.invokevirtual 335, 3) := by decide +kernel
theorem dJ0_length_8abf5_9 : decode cJ0_length_8abf5 9 = .ok (.ishr, 1) := by decide +kernel
theorem dJ0_length_8abf5_10 : decode cJ0_length_8abf5 10 = .ok (.ireturn, 1) := by decide +kernel
theorem dJ3_checkIndex_8e157_0 : decode cJ3_checkIndex_8e157 0 = .ok (.iload_n 0, 1) := by decide +kernel
theorem dJ3_checkIndex_8e157_1 : decode cJ3_checkIndex_8e157 1 = .ok (.ifCond .lt 8, 3) := by decide +kernel
theorem dJ3_checkIndex_8e157_4 : decode cJ3_checkIndex_8e157 4 = .ok (.iload_n 0, 1) := by decide +kernel
theorem dJ3_checkIndex_8e157_5 : decode cJ3_checkIndex_8e157 5 = .ok (.iload_n 1, 1) := by decide +kernel
theorem dJ3_checkIndex_8e157_6 : decode cJ3_checkIndex_8e157 6 = .ok (.if_icmp .lt 10, 3) := by decide +kernel
theorem dJ3_checkIndex_8e157_9 : decode cJ3_checkIndex_8e157 9 = .ok (.aload_n 2, 1) := by decide +kernel
theorem dJ3_checkIndex_8e157_10 : decode cJ3_checkIndex_8e157 10 = .ok (.iload_n 0, 1) := by decide +kernel
theorem dJ3_checkIndex_8e157_11 : decode cJ3_checkIndex_8e157 11 = .ok (.iload_n 1, 1) := by decide +kernel
theorem dJ3_checkIndex_8e157_12 : decode cJ3_checkIndex_8e157 12 = .ok (.invokestatic 95, 3) := by decide +kernel
theorem dJ3_checkIndex_8e157_15 : decode cJ3_checkIndex_8e157 15 = .ok (.athrow, 1) := by decide +kernel
theorem dJ3_checkIndex_8e157_16 : decode cJ3_checkIndex_8e157 16 = .ok (.iload_n 0, 1) := by decide +kernel
theorem dJ3_checkIndex_8e157_17 : decode cJ3_checkIndex_8e157 17 = .ok (.ireturn, 1) := by decide +kernel
theorem dJ0_checkIndex_df160_0 : decode cJ0_checkIndex_df160 0 = .ok (.iload_n 0, 1) := by decide +kernel
theorem dJ0_checkIndex_df160_1 : decode cJ0_checkIndex_df160 1 = .ok (.iload_n 1, 1) := by decide +kernel
theorem dJ0_checkIndex_df160_2 : decode cJ0_checkIndex_df160 2 = .ok (.getstatic 1053, 3) := by decide +kernel
theorem dJ0_checkIndex_df160_5 : decode cJ0_checkIndex_df160 5 = .ok (.invokestatic 1059, 3) := by decide +kernel
theorem dJ0_checkIndex_df160_8 : decode cJ0_checkIndex_df160 8 = .ok (.pop, 1) := by decide +kernel
theorem dJ0_checkIndex_df160_9 : decode cJ0_checkIndex_df160 9 = .ok (.return_, 1) := by decide +kernel
theorem dJ1_charAt_3b067_0 : decode cJ1_charAt_3b067 0 = .ok (.iload_n 1, 1) := by decide +kernel
theorem dJ1_charAt_3b067_1 : decode cJ1_charAt_3b067 1 = .ok (.aload_n 0, 1) := by decide +kernel
theorem dJ1_charAt_3b067_2 : decode cJ1_charAt_3b067 2 = .ok (.arraylength, 1) := by decide +kernel
theorem dJ1_charAt_3b067_3 : decode cJ1_charAt_3b067 3 = .ok (.invokestatic 9, 3) := by decide +kernel
theorem dJ1_charAt_3b067_6 : decode cJ1_charAt_3b067 6 = .ok (.aload_n 0, 1) := by decide +kernel
theorem dJ1_charAt_3b067_7 : decode cJ1_charAt_3b067 7 = .ok (.iload_n 1, 1) := by decide +kernel
theorem dJ1_charAt_3b067_8 : decode cJ1_charAt_3b067 8 = .ok (.baload, 1) := by decide +kernel
theorem dJ1_charAt_3b067_9 : decode cJ1_charAt_3b067 9 = .ok (.sipush 255, 3) := by decide +kernel
theorem dJ1_charAt_3b067_12 : decode cJ1_charAt_3b067 12 = .ok (.iand, 1) := by decide +kernel
theorem dJ1_charAt_3b067_13 : decode cJ1_charAt_3b067 13 = .ok (.i2c, 1) := by decide +kernel
theorem dJ1_charAt_3b067_14 : decode cJ1_charAt_3b067 14 = .ok (.ireturn, 1) := by decide +kernel
theorem dJ0_charAt_5068e_0 : decode cJ0_charAt_5068e 0 = .ok (.aload_n 0, 1) := by decide +kernel
theorem dJ0_charAt_5068e_1 : decode cJ0_charAt_5068e 1 = .ok (.invokevirtual 492, 3) := by decide +kernel
theorem dJ0_charAt_5068e_4 : decode cJ0_charAt_5068e 4 = .ok (.ifCond .eq 12, 3) := by decide +kernel
theorem dJ0_charAt_5068e_7 : decode cJ0_charAt_5068e 7 = .ok (.aload_n 0, 1) := by decide +kernel
theorem dJ0_charAt_5068e_8 : decode cJ0_charAt_5068e 8 = .ok (.getfield 9, 3) := by decide +kernel
theorem dJ0_charAt_5068e_11 : decode cJ0_charAt_5068e 11 = .ok (.iload_n 1, 1) := by decide +kernel
theorem dJ0_charAt_5068e_12 : decode cJ0_charAt_5068e 12 = .ok (.invokestatic 495, 3) := by decide +kernel
theorem dJ0_charAt_5068e_15 : decode cJ0_charAt_5068e 15 = .ok (.ireturn, 1) := by decide +kernel
theorem dJ0_charAt_5068e_16 : decode cJ0_charAt_5068e 16 = .ok (.aload_n 0, 1) := by decide +kernel
theorem dJ0_charAt_5068e_17 : decode cJ0_charAt_5068e 17 = .ok (.getfield 9, 3) := by decide +kernel
theorem dJ0_charAt_5068e_20 : decode cJ0_charAt_5068e 20 = .ok (.iload_n 1, 1) := by decide +kernel
theorem dJ0_charAt_5068e_21 : decode cJ0_charAt_5068e 21 = .ok (.invokestatic 498, 3) := by decide +kernel
theorem dJ0_charAt_5068e_24 : decode cJ0_charAt_5068e 24 = .ok (.ireturn, 1) := by decide +kernel
theorem dJ1_canEncode_9a6ad_0 : decode cJ1_canEncode_9a6ad 0 = .ok (.iload_n 0, 1) := by decide +kernel
theorem dJ1_canEncode_9a6ad_1 : decode cJ1_canEncode_9a6ad 1 = .ok (.ifCond .lt 14, 3) := by decide +kernel
theorem dJ1_canEncode_9a6ad_4 : decode cJ1_canEncode_9a6ad 4 = .ok (.iload_n 0, 1) := by decide +kernel
theorem dJ1_canEncode_9a6ad_5 : decode cJ1_canEncode_9a6ad 5 = .ok (.sipush 255, 3) := by decide +kernel
theorem dJ1_canEncode_9a6ad_8 : decode cJ1_canEncode_9a6ad 8 = .ok (.if_icmp .gt 7, 3) := by decide +kernel
theorem dJ1_canEncode_9a6ad_11 : decode cJ1_canEncode_9a6ad 11 = .ok (.iconst 1, 1) := by decide +kernel
theorem dJ1_canEncode_9a6ad_12 : decode cJ1_canEncode_9a6ad 12 = .ok (.goto 4, 3) := by decide +kernel
theorem dJ1_canEncode_9a6ad_15 : decode cJ1_canEncode_9a6ad 15 = .ok (.iconst 0, 1) := by decide +kernel
theorem dJ1_canEncode_9a6ad_16 : decode cJ1_canEncode_9a6ad 16 = .ok (.ireturn, 1) := by decide +kernel
theorem dJ1_indexOfChar_4cfef_0 : decode cJ1_indexOfChar_4cfef 0 = .ok (.iload_n 1, 1) := by decide +kernel
theorem dJ1_indexOfChar_4cfef_1 : decode cJ1_indexOfChar_4cfef 1 = .ok (.i2b, 1) := by decide +kernel
theorem dJ1_indexOfChar_4cfef_2 : decode cJ1_indexOfChar_4cfef 2 = .ok (.istore 4, 2) := by decide +kernel
theorem dJ1_indexOfChar_4cfef_4 : decode cJ1_indexOfChar_4cfef 4 = .ok (.iload_n 2, 1) := by decide +kernel
theorem dJ1_indexOfChar_4cfef_5 : decode cJ1_indexOfChar_4cfef 5 = .ok (.istore 5, 2) := by decide +kernel
theorem dJ1_indexOfChar_4cfef_7 : decode cJ1_indexOfChar_4cfef 7 = .ok (.iload 5, 2) := by decide +kernel
theorem dJ1_indexOfChar_4cfef_9 : decode cJ1_indexOfChar_4cfef 9 = .ok (.iload_n 3, 1) := by decide +kernel
theorem dJ1_indexOfChar_4cfef_10 : decode cJ1_indexOfChar_4cfef 10 = .ok (.if_icmp .ge 21, 3) := by decide +kernel
theorem dJ1_indexOfChar_4cfef_13 : decode cJ1_indexOfChar_4cfef 13 = .ok (.aload_n 0, 1) := by decide +kernel
theorem dJ1_indexOfChar_4cfef_14 : decode cJ1_indexOfChar_4cfef 14 = .ok (.iload 5, 2) := by decide +kernel
theorem dJ1_indexOfChar_4cfef_16 : decode cJ1_indexOfChar_4cfef 16 = .ok (.baload, 1) := by decide +kernel
theorem dJ1_indexOfChar_4cfef_17 : decode cJ1_indexOfChar_4cfef 17 = .ok (.iload 4, 2) := by decide +kernel
theorem dJ1_indexOfChar_4cfef_19 : decode cJ1_indexOfChar_4cfef 19 = .ok (.if_icmp .ne 6, 3) := by decide +kernel
theorem dJ1_indexOfChar_4cfef_22 : decode cJ1_indexOfChar_4cfef 22 = .ok (.iload 5, 2) := by decide +kernel
theorem dJ1_indexOfChar_4cfef_24 : decode cJ1_indexOfChar_4cfef 24 = .ok (.ireturn, 1) := by decide +kernel
theorem dJ1_indexOfChar_4cfef_25 : decode cJ1_indexOfChar_4cfef 25 = .ok (.iinc 5 1, 3) := by decide +kernel
theorem dJ1_indexOfChar_4cfef_28 : decode cJ1_indexOfChar_4cfef 28 = .ok (.goto (-21), 3) := by decide +kernel
theorem dJ1_indexOfChar_4cfef_31 : decode cJ1_indexOfChar_4cfef 31 = .ok (.iconst (-1), 1) := by decide +kernel
theorem dJ1_indexOfChar_4cfef_32 : decode cJ1_indexOfChar_4cfef 32 = .ok (.ireturn, 1) := by decide +kernel
theorem dJ1_indexOf_4cfef_0 : decode cJ1_indexOf_4cfef 0 = .ok (.iload_n 1, 1) := by decide +kernel
theorem dJ1_indexOf_4cfef_1 : decode cJ1_indexOf_4cfef 1 = .ok (.invokestatic 88, 3) := by decide +kernel
theorem dJ1_indexOf_4cfef_4 : decode cJ1_indexOf_4cfef 4 = .ok (.ifCond .ne 5, 3) := by decide +kernel
theorem dJ1_indexOf_4cfef_7 : decode cJ1_indexOf_4cfef 7 = .ok (.iconst (-1), 1) := by decide +kernel
theorem dJ1_indexOf_4cfef_8 : decode cJ1_indexOf_4cfef 8 = .ok (.ireturn, 1) := by decide +kernel
theorem dJ1_indexOf_4cfef_9 : decode cJ1_indexOf_4cfef 9 = .ok (.iload_n 2, 1) := by decide +kernel
theorem dJ1_indexOf_4cfef_10 : decode cJ1_indexOf_4cfef 10 = .ok (.iconst 0, 1) := by decide +kernel
theorem dJ1_indexOf_4cfef_11 : decode cJ1_indexOf_4cfef 11 = .ok (.invokestatic 92, 3) := by decide +kernel
theorem dJ1_indexOf_4cfef_14 : decode cJ1_indexOf_4cfef 14 = .ok (.istore_n 2, 1) := by decide +kernel
theorem dJ1_indexOf_4cfef_15 : decode cJ1_indexOf_4cfef 15 = .ok (.iload_n 3, 1) := by decide +kernel
theorem dJ1_indexOf_4cfef_16 : decode cJ1_indexOf_4cfef 16 = .ok (.aload_n 0, 1) := by decide +kernel
theorem dJ1_indexOf_4cfef_17 : decode cJ1_indexOf_4cfef 17 = .ok (.arraylength, 1) := by decide +kernel
theorem dJ1_indexOf_4cfef_18 : decode cJ1_indexOf_4cfef 18 = .ok (.invokestatic 38, 3) := by decide +kernel
theorem dJ1_indexOf_4cfef_21 : decode cJ1_indexOf_4cfef 21 = .ok (.istore_n 3, 1) := by decide +kernel
theorem dJ1_indexOf_4cfef_22 : decode cJ1_indexOf_4cfef 22 = .ok (.iload_n 2, 1) := by decide +kernel
theorem dJ1_indexOf_4cfef_23 : decode cJ1_indexOf_4cfef 23 = .ok (.iload_n 3, 1) := by decide +kernel
theorem dJ1_indexOf_4cfef_24 : decode cJ1_indexOf_4cfef 24 = .ok (.if_icmp .lt 5, 3) := by decide +kernel
theorem dJ1_indexOf_4cfef_27 : decode cJ1_indexOf_4cfef 27 = .ok (.iconst (-1), 1) := by decide +kernel
theorem dJ1_indexOf_4cfef_28 : decode cJ1_indexOf_4cfef 28 = .ok (.ireturn, 1) := by decide +kernel
theorem dJ1_indexOf_4cfef_29 : decode cJ1_indexOf_4cfef 29 = .ok (.aload_n 0, 1) := by decide +kernel
theorem dJ1_indexOf_4cfef_30 : decode cJ1_indexOf_4cfef 30 = .ok (.iload_n 1, 1) := by decide +kernel
theorem dJ1_indexOf_4cfef_31 : decode cJ1_indexOf_4cfef 31 = .ok (.iload_n 2, 1) := by decide +kernel
theorem dJ1_indexOf_4cfef_32 : decode cJ1_indexOf_4cfef 32 = .ok (.iload_n 3, 1) := by decide +kernel
theorem dJ1_indexOf_4cfef_33 : decode cJ1_indexOf_4cfef 33 = .ok (.invokestatic 95, 3) := by decide +kernel
theorem dJ1_indexOf_4cfef_36 : decode cJ1_indexOf_4cfef 36 = .ok (.ireturn, 1) := by decide +kernel
theorem dJ0_indexOf_7cf53_0 : decode cJ0_indexOf_7cf53 0 = .ok (.aload_n 0, 1) := by decide +kernel
theorem dJ0_indexOf_7cf53_1 : decode cJ0_indexOf_7cf53 1 = .ok (.invokevirtual 492, 3) := by decide +kernel
theorem dJ0_indexOf_7cf53_4 : decode cJ0_indexOf_7cf53 4 = .ok (.ifCond .eq 19, 3) := by decide +kernel
theorem dJ0_indexOf_7cf53_7 : decode cJ0_indexOf_7cf53 7 = .ok (.aload_n 0, 1) := by decide +kernel
theorem dJ0_indexOf_7cf53_8 : decode cJ0_indexOf_7cf53 8 = .ok (.getfield 9, 3) := by decide +kernel
theorem dJ0_indexOf_7cf53_11 : decode cJ0_indexOf_7cf53 11 = .ok (.iload_n 1, 1) := by decide +kernel
theorem dJ0_indexOf_7cf53_12 : decode cJ0_indexOf_7cf53 12 = .ok (.iload_n 2, 1) := by decide +kernel
theorem dJ0_indexOf_7cf53_13 : decode cJ0_indexOf_7cf53 13 = .ok (.aload_n 0, 1) := by decide +kernel
theorem dJ0_indexOf_7cf53_14 : decode cJ0_indexOf_7cf53 14 = .ok (.invokevirtual 505, 3) := by decide +kernel
theorem dJ0_indexOf_7cf53_17 : decode cJ0_indexOf_7cf53 17 = .ok (.invokestatic 637, 3) := by decide +kernel
theorem dJ0_indexOf_7cf53_20 : decode cJ0_indexOf_7cf53 20 = .ok (.goto 16, 3) := by decide +kernel
theorem dJ0_indexOf_7cf53_23 : decode cJ0_indexOf_7cf53 23 = .ok (.aload_n 0, 1) := by decide +kernel
theorem dJ0_indexOf_7cf53_24 : decode cJ0_indexOf_7cf53 24 = .ok (.getfield 9, 3) := by decide +kernel
theorem dJ0_indexOf_7cf53_27 : decode cJ0_indexOf_7cf53 27 = .ok (.iload_n 1, 1) := by decide +kernel
theorem dJ0_indexOf_7cf53_28 : decode cJ0_indexOf_7cf53 28 = .ok (.iload_n 2, 1) := by decide +kernel
theorem dJ0_indexOf_7cf53_29 : decode cJ0_indexOf_7cf53 29 = .ok (.aload_n 0, 1) := by decide +kernel
theorem dJ0_indexOf_7cf53_30 : decode cJ0_indexOf_7cf53 30 = .ok (.invokevirtual 505, 3) := by decide +kernel
theorem dJ0_indexOf_7cf53_33 : decode cJ0_indexOf_7cf53 33 = .ok (.invokestatic 640, 3) := by decide +kernel
theorem dJ0_indexOf_7cf53_36 : decode cJ0_indexOf_7cf53 36 = .ok (.ireturn, 1) := by decide +kernel
theorem dJ0_indexOf_0f7a4_0 : decode cJ0_indexOf_0f7a4 0 = .ok (.aload_n 0, 1) := by decide +kernel
theorem dJ0_indexOf_0f7a4_1 : decode cJ0_indexOf_0f7a4 1 = .ok (.iload_n 1, 1) := by decide +kernel
theorem dJ0_indexOf_0f7a4_2 : decode cJ0_indexOf_0f7a4 2 = .ok (.iconst 0, 1) := by decide +kernel
theorem dJ0_indexOf_0f7a4_3 : decode cJ0_indexOf_0f7a4 3 = .ok (.invokevirtual 633, 3) := by decide +kernel
theorem dJ0_indexOf_0f7a4_6 : decode cJ0_indexOf_0f7a4 6 = .ok (.ireturn, 1) := by decide +kernel
def JPre (B : Nat) (ex adV : Nat → Nat) (av : List Value) : Array Value → State → Prop := va_Pc av (fun U => EX B ex adV U U.heap ∧ B ≤ U.heap.size)
def JPost (v : Option Value) : Array Value → State → Outcome → State → Prop := fun _ u oc t => oc = .returned v ∧ t.heap = u.heap
def roomJ (f : Nat) : Room := { frames := f, cells := 0, slots := 0, locals := 60 * f }
def JM (f : Nat) (y : MethodName) (cC : ByteArray) (n : Nat) (ret : Option FieldType) (avf : (Nat → Nat) → (Nat → Nat) → List Value) (v : Option Value) : Prop := ∀ (l : Launch) (B : Nat) (ex adV : Nat → Nat), Met l y (Cond.code y cC n ret :: TBg) (roomJ f) (JPre B ex adV (avf ex adV)) (JPost v) 0 0 (fun _ => False)
def JF (y : MethodName) (cC : ByteArray) (n : Nat) (ret : Option FieldType) (B : Nat) (ex adV : Nat → Nat) (p : Program) (s : State) (m : MethodId) (args : Array Value) (meth : Method) (c : Code) : Prop := p.tables.exec = Jvm.exec ∧ c.code = cC ∧ c.maxLocals = n ∧ meth.sig.returnType = ret ∧ meth.locks = false ∧ s.vm.findClass y.cls = some m.cls ∧ (∀ w ∈ TBg, w.before args s = true) ∧ EX B ex adV s s.heap ∧ B ≤ s.heap.size
theorem JM_of {f : Nat} {y : MethodName} {cC : ByteArray} {n : Nat} {ret : Option FieldType} {avf : (Nat → Nat) → (Nat → Nat) → List Value} {v : Option Value} (hpl : plainName y.cls = true) (hn : ∀ ex adV, (lg_sl (avf ex adV)).length ≤ n)
    (body : ∀ (p : Program) (l : Launch) (e : Env) (s : State) (m : MethodId) (args : Array Value) (below : List Frame) (meth : Method) (c : Code) (B : Nat) (ex adV : Nat → Nat), JF y cC n ret B ex adV p s m args meth c → ∀ ls : Array Slot, lv_has ls n (lv_args 0 (avf ex adV)) → W p l e (roomJ f) s m args below meth c s.heap [] 0 0 (MQ below (JPost v) args s 0 0 (fun _ => False)) (F0 m 0 ls [])) : JM f y cC n ret avf v := by
  intro l B ex adV
  refine Met.ofW (cc := cC) (maxL := n) (ret := ret) (ws' := TBg) hpl rfl ?_
  intro p e s m args below meth c s₁ Bd hml hv
  obtain ⟨rfl, hEX, hBs⟩ := hv
  have hts := atoms_spec (ws := Cond.code y cC n ret :: TBg) Bd.pre
  rw [lg_entry_eq]
  exact body p l e s m _ below meth c B ex adV ⟨Bd.exec, Bd.bytes, hml, Bd.returns, Bd.notSynchronized, findClass_of_methodNamed Bd.named, fun w hw => hts w (List.mem_cons_of_mem _ hw), hEX, hBs⟩ _ (lv_entry (avf ex adV) (hn ex adV))
section
variable {p : Program} {l : Launch} {e : Env} {Rm : Room} {s : State} {mm : MethodId} {args : Array Value} {below : List Frame} {meth : Method} {c : Code} {Qw : State → Prop} {H : Heap} {locs : List Loc} {cells slots : Nat}
variable {B : Nat} {ex adV : Nat → Nat} {cc : ByteArray} {nL pc : Nat} {lsA : Array Slot}
theorem jret {ret : FieldType} {x : Int32} (hx : p.tables.exec = Jvm.exec) (hb : c.code = cc) (hr : meth.sig.returnType = some ret) (hlk : meth.locks = false) (hn : narrow ret (.int x) = .int x) (hdg : decode cc pc = .ok (.ireturn, 1)) : W p l e Rm s mm args below meth c s.heap [] 0 0 (MQ below (JPost (some (.int x))) args s 0 0 (fun _ => False)) (F0 mm pc lsA [.int x]) :=
  W.zret hx hb hr hn (fun t ht _ => ⟨rfl, ht⟩) (fun q hq => by cases hq) hdg hlk
theorem jretv (hx : p.tables.exec = Jvm.exec) (hb : c.code = cc) (hr : meth.sig.returnType = none) (hlk : meth.locks = false) (hdg : decode cc pc = .ok (.return_, 1)) : W p l e Rm s mm args below meth c s.heap [] 0 0 (MQ below (JPost none) args s 0 0 (fun _ => False)) (F0 mm pc lsA []) :=
  W.vret hx hb hr (fun t ht _ => ⟨rfl, ht⟩) (fun q hq => by cases hq) hdg hlk
theorem jgo {v : Option Value} {a : Array Value} {st0 rest : List Value} (hr : va_Run p l e Rm s mm args below meth c H locs cells slots 0 0 (F0 mm pc lsA st0) rest (JPost v a) (fun _ => False)) (kk : W p l e Rm s mm args below meth c H locs cells slots Qw (F0 mm (pc + 3) lsA (v.toList ++ rest))) : W p l e Rm s mm args below meth c H locs cells slots Qw (F0 mm pc lsA st0) := by
  intro T hT X
  obtain ⟨v', st₀, t, T', L, h0, X', hL, e1, e2, ⟨hv, hh⟩, stp⟩ := hr T hT X
  cases hv
  cases L with
  | cons q L => exact (hL q List.mem_cons_self).elim
  | nil =>
    rw [List.append_nil] at X'
    obtain ⟨t2, a1, b1⟩ := kk T' (by rw [e1, hh, h0]) X'
    exact ⟨t2, stp t2 a1, b1⟩
theorem JPre_blind {av : List Value} : FrameBlind (JPre B ex adV av) := fun a U g mk h => ⟨h.1, EX.same (u := U) rfl h.2.1, h.2.2⟩
theorem jB {f n na : Nat} {own : String} {index : Nat} {y : MethodName} {cC : ByteArray} {ret : Option FieldType} (hts : ∀ w ∈ TBg, w.before args s = true) (hn : n ≤ 40) (hfr : f + 1 ≤ Rm.frames) (hlo : 60 * (f + 1) ≤ Rm.locals) (h1 : Cond.methodLink own index y ∈ TBg) (h2 : Cond.initialized y.cls ∈ TBg) (h3 : Cond.code y cC n ret ∈ TBg) (h4 : y.cls ≠ "java/lang/invoke/MethodHandle" ∧ y.cls ≠ "java/lang/invoke/VarHandle" ∧ (parseMethodDescriptor y.desc).map (fun d => d.parameters.length) = some na) : CallB Rm s args own index y cC n ret (Cond.code y cC n ret :: TBg) (roomJ f) 0 0 na := by
  refine callB_of (ws' := TBg) na hts ?_ rfl rfl rfl (hts _ h2) (hts _ h1) h4 ⟨hfr, by show 8 + (n + 11) + 60 * f ≤ _; omega⟩
  intro w hw
  rcases List.mem_cons.mp hw with rfl | hw
  · exact ⟨h3, TBg_good h3⟩
  · exact ⟨hw, TBg_good hw⟩
/-- a call of a method of a text -/
theorem jcallV {f n na i : Nat} {own : String} {index : Nat} {y : MethodName} {cC : ByteArray} {ret : Option FieldType} {avf : (Nat → Nat) → (Nat → Nat) → List Value} {v : Option Value} {As rest : List Value} (hJ : JM f y cC n ret avf v) (hi : i < 2) (hav : avf ex adV = .ref (ex (i + 1)) :: As) (hlen : As.length = na) (hx : p.tables.exec = Jvm.exec) (hb : c.code = cc) (hml : c.maxLocals = nL) (hown : s.vm.findClass own = some mm.cls) (hts : ∀ w ∈ TBg, w.before args s = true) (hEX : EX B ex adV s s.heap) (hBs : B ≤ s.heap.size) (hS : va_S (Bq B) s.heap H locs) (hBH : B ≤ H.size) (hsz : lsA.size = nL) (hn : n ≤ 40) (hfr : f + 1 ≤ Rm.frames) (hlo : 60 * (f + 1) ≤ Rm.locals) (hcs : cells ≤ Rm.cells) (hss : slots ≤ Rm.slots)
    (h1 : Cond.methodLink own index y ∈ TBg) (h2 : Cond.initialized y.cls ∈ TBg) (h3 : Cond.code y cC n ret ∈ TBg) (h4 : y.cls ≠ "java/lang/invoke/MethodHandle" ∧ y.cls ≠ "java/lang/invoke/VarHandle" ∧ (parseMethodDescriptor y.desc).map (fun d => d.parameters.length) = some na) (h5 : y.cls = "java/lang/String") (h6 : Cond.instanceMethod y ∈ TBg) (h7 : Cond.selects y.cls y y ∈ TBg) (hW : (rest.map fun v => v.category).sum ≤ 8) (hdg : decode cc pc = .ok (.invokevirtual index, 3))
    (kk : W p l e Rm s mm args below meth c H locs cells slots Qw (F0 mm (pc + 3) lsA (v.toList ++ rest))) : W p l e Rm s mm args below meth c H locs cells slots Qw (F0 mm pc lsA (As.reverse ++ .ref (ex (i + 1)) :: rest)) := by
  have hB := jB (Rm := Rm) hts hn hfr hlo h1 h2 h3 h4
  have hrc := vk_recv (i := i) hEX.1 hi hS
  rw [← h5] at hrc
  refine jgo (va_runV (C := y.cls) (As := As) (rest := rest) ⟨hx, hb, hml, hown, hts⟩ (hJ l B ex adV) ⟨hB, hts _ h6, hts _ h7⟩ ⟨JPre_blind, hrc, fun U hU hW => ⟨by rw [hav], by rw [hU]; exact (hEX.warm hW).kept hS.2.1, by rw [hU]; exact hBH⟩⟩ rfl hlen hsz rfl (lv_room hW) hdg ⟨hcs, hss⟩) kk
theorem jcallS {f n na : Nat} {own : String} {index : Nat} {y : MethodName} {cC : ByteArray} {ret : Option FieldType} {avf : (Nat → Nat) → (Nat → Nat) → List Value} {v : Option Value} {As rest : List Value} (hJ : JM f y cC n ret avf v) (hav : avf ex adV = As) (hlen : As.length = na) (hx : p.tables.exec = Jvm.exec) (hb : c.code = cc) (hml : c.maxLocals = nL) (hown : s.vm.findClass own = some mm.cls) (hts : ∀ w ∈ TBg, w.before args s = true) (hEX : EX B ex adV s s.heap) (hBs : B ≤ s.heap.size) (hS : va_S (Bq B) s.heap H locs) (hBH : B ≤ H.size) (hsz : lsA.size = nL) (hn : n ≤ 40) (hfr : f + 1 ≤ Rm.frames) (hlo : 60 * (f + 1) ≤ Rm.locals) (hcs : cells ≤ Rm.cells) (hss : slots ≤ Rm.slots)
    (h1 : Cond.methodLink own index y ∈ TBg) (h2 : Cond.initialized y.cls ∈ TBg) (h3 : Cond.code y cC n ret ∈ TBg) (h4 : y.cls ≠ "java/lang/invoke/MethodHandle" ∧ y.cls ≠ "java/lang/invoke/VarHandle" ∧ (parseMethodDescriptor y.desc).map (fun d => d.parameters.length) = some na) (h6 : Cond.static y ∈ TBg) (hW : (rest.map fun v => v.category).sum ≤ 8) (hdg : decode cc pc = .ok (.invokestatic index, 3))
    (kk : W p l e Rm s mm args below meth c H locs cells slots Qw (F0 mm (pc + 3) lsA (v.toList ++ rest))) : W p l e Rm s mm args below meth c H locs cells slots Qw (F0 mm pc lsA (As.reverse ++ rest)) := by
  have hB := jB (Rm := Rm) hts hn hfr hlo h1 h2 h3 h4
  refine jgo (va_runS (As := As) (rest := rest) ⟨hx, hb, hml, hown, hts⟩ (hJ l B ex adV) ⟨hB, hts _ h6⟩ ⟨JPre_blind, fun U hU hW => ⟨by rw [hav], by rw [hU]; exact (hEX.warm hW).kept hS.2.1, by rw [hU]; exact hBH⟩⟩ rfl hlen hsz rfl (lv_room hW) hdg ⟨hcs, hss⟩) kk
end
set_option maxRecDepth 10000 in
theorem j_isLatin1 {i : Nat} (hi : i < 2) : JM 0 yJ0_isLatin1_aae02 cJ0_isLatin1_aae02 1 (some .boolean) (fun ex adV => [.ref (ex (i + 1))]) (some (.int 1)) := by
  refine JM_of (by decide +kernel) (fun _ _ => by simp [lg_sl, Value.category]) ?_
  intro p l e s m args below meth c B ex adV hF ls hl
  obtain ⟨hx, hb, hml, hr, hlk, hown, hts, hEX, hBs⟩ := hF
  have hown : s.vm.findClass "java/lang/String" = some m.cls := hown
  have hS : va_S (Bq B) s.heap s.heap [] := va_S.rf
  obtain ⟨-, h2, h3, h4⟩ := hEX.1.1 i hi
  refine va_gets hx hb hEX.2.2.2.1 hS hown (hts _ (wdq_mem (q := 275) (w := .fieldLink "java/lang/String" 38 "java/lang/String" "COMPACT_STRINGS" "Z") (by decide +kernel))) (fun _ z => z) dJ0_isLatin1_aae02_0 ?_
  refine lv_if_eq (tgt := 17) hx hb dJ0_isLatin1_aae02_3 (by decide) (fun z => absurd z (by decide)) (fun _ => ?_)
  refine lv_aload_n hx hb dJ0_isLatin1_aae02_6 rfl (lv_at hl 0 rfl) ?_
  refine vk_getf hx hb h2 hS hown (hts _ (wdq_mem (q := 2057) (w := .fieldLink "java/lang/String" 15 "java/lang/String" "coder" "B") (by decide +kernel))) (fun _ z => z) dJ0_isLatin1_aae02_7 ?_
  refine lv_if_ne (tgt := 17) hx hb dJ0_isLatin1_aae02_10 (by decide) (fun z => absurd rfl z) (fun _ => ?_)
  refine lv_iconst (v := 1) hx hb dJ0_isLatin1_aae02_13 (by decide) ?_
  refine lv_goto (tgt := 18) hx hb dJ0_isLatin1_aae02_14 (by decide) ?_
  exact jret hx hb hr hlk rfl dJ0_isLatin1_aae02_18
set_option maxRecDepth 10000 in
theorem j_coder {i : Nat} (hi : i < 2) : JM 0 yJ0_coder_7d493 cJ0_coder_7d493 1 (some .byte) (fun ex adV => [.ref (ex (i + 1))]) (some (.int 0)) := by
  refine JM_of (by decide +kernel) (fun _ _ => by simp [lg_sl, Value.category]) ?_
  intro p l e s m args below meth c B ex adV hF ls hl
  obtain ⟨hx, hb, hml, hr, hlk, hown, hts, hEX, hBs⟩ := hF
  have hown : s.vm.findClass "java/lang/String" = some m.cls := hown
  have hS : va_S (Bq B) s.heap s.heap [] := va_S.rf
  obtain ⟨-, h2, h3, h4⟩ := hEX.1.1 i hi
  refine va_gets hx hb hEX.2.2.2.1 hS hown (hts _ (wdq_mem (q := 275) (w := .fieldLink "java/lang/String" 38 "java/lang/String" "COMPACT_STRINGS" "Z") (by decide +kernel))) (fun _ z => z) dJ0_coder_7d493_0 ?_
  refine lv_if_eq (tgt := 13) hx hb dJ0_coder_7d493_3 (by decide) (fun z => absurd z (by decide)) (fun _ => ?_)
  refine lv_aload_n hx hb dJ0_coder_7d493_6 rfl (lv_at hl 0 rfl) ?_
  refine vk_getf hx hb h2 hS hown (hts _ (wdq_mem (q := 2057) (w := .fieldLink "java/lang/String" 15 "java/lang/String" "coder" "B") (by decide +kernel))) (fun _ z => z) dJ0_coder_7d493_7 ?_
  refine lv_goto (tgt := 14) hx hb dJ0_coder_7d493_10 (by decide) ?_
  exact jret hx hb hr hlk rfl dJ0_coder_7d493_14
theorem shr0 (i : Nat) (hi : i < 2) : (Int32.ofNat (lens.getD i 0)) >>> ((0 : Int32) &&& 31) = Int32.ofNat (lens.getD i 0) := by
  match i, hi with
  | 0, _ => decide
  | 1, _ => decide
set_option maxRecDepth 10000 in
theorem j_length {i : Nat} (hi : i < 2) : JM 1 yJ0_length_8abf5 cJ0_length_8abf5 1 (some .int) (fun ex adV => [.ref (ex (i + 1))]) (some (.int (Int32.ofNat (lens.getD i 0)))) := by
  refine JM_of (by decide +kernel) (fun _ _ => by simp [lg_sl, Value.category]) ?_
  intro p l e s m args below meth c B ex adV hF ls hl
  obtain ⟨hx, hb, hml, hr, hlk, hown, hts, hEX, hBs⟩ := hF
  have hown : s.vm.findClass "java/lang/String" = some m.cls := hown
  have hS : va_S (Bq B) s.heap s.heap [] := va_S.rf
  obtain ⟨-, h2, h3, h4⟩ := hEX.1.1 i hi
  refine lv_aload_n hx hb dJ0_length_8abf5_0 rfl (lv_at hl 0 rfl) ?_
  refine vk_getf hx hb h3 hS hown (hts _ (wdq_mem (q := 2056) (w := .fieldLink "java/lang/String" 9 "java/lang/String" "value" "[B") (by decide +kernel))) (fun _ z => z) dJ0_length_8abf5_1 ?_
  refine va_tlen hx hb h4 hS rfl dJ0_length_8abf5_4 ?_
  refine lv_aload_n hx hb dJ0_length_8abf5_5 rfl (lv_at hl 0 rfl) ?_
  refine jcallV (na := 0) (As := []) (j_coder hi) hi rfl rfl hx hb hml hown hts hEX hBs hS hBs hl.1 (by decide) (by decide) (by decide) (Nat.zero_le _) (Nat.zero_le _) (wdq_mem (q := 271) (by decide +kernel)) (wdq_mem (q := 124) (by decide +kernel)) (wdq_mem (q := 274) (by decide +kernel)) (by decide +kernel) rfl (wdq_mem (q := 272) (by decide +kernel)) (wdq_mem (q := 273) (by decide +kernel)) (by simp [Value.category]) dJ0_length_8abf5_6 ?_
  refine lv_ishr hx hb dJ0_length_8abf5_9 ?_
  rw [shr0 i hi]
  exact jret hx hb hr hlk rfl dJ0_length_8abf5_10
set_option maxRecDepth 10000 in
theorem j_pcheck {k n : Nat} {w : Option Nat} (hk : k < n) (hn : n < 1000) : JM 0 yJ3_checkIndex_8e157 cJ3_checkIndex_8e157 3 (some .int) (fun ex adV => [.int (Int32.ofNat k), .int (Int32.ofNat n), va_rf w]) (some (.int (Int32.ofNat k))) := by
  refine JM_of (by decide +kernel) (fun _ _ => by cases w <;> simp [lg_sl, Value.category, va_rf]) ?_
  intro p l e s m args below meth c B ex adV hF ls hl
  obtain ⟨hx, hb, hml, hr, hlk, hown, hts, hEX, hBs⟩ := hF
  have hown : s.vm.findClass "jdk/internal/util/Preconditions" = some m.cls := hown
  have hS : va_S (Bq B) s.heap s.heap [] := va_S.rf

  have hl : lv_has ls 3 [(0, .int (Int32.ofNat k)), (1, .int (Int32.ofNat n))] := lv_has_of hl (fun q hq => by
    simp only [List.mem_cons, List.not_mem_nil, or_false] at hq
    rcases hq with rfl | rfl
    · exact List.mem_cons_self
    · exact List.mem_cons_of_mem _ List.mem_cons_self)
  refine lv_iload_n hx hb dJ3_checkIndex_8e157_0 rfl (lv_at hl 0 rfl) ?_
  refine lv_if_lt (tgt := 9) hx hb dJ3_checkIndex_8e157_1 (by decide) (fun z => absurd z (nI_pos (by omega))) (fun _ => ?_)
  refine lv_iload_n hx hb dJ3_checkIndex_8e157_4 rfl (lv_at hl 0 rfl) ?_
  refine lv_iload_n hx hb dJ3_checkIndex_8e157_5 rfl (lv_at hl 1 rfl) ?_
  refine lv_icmp_lt (tgt := 16) hx hb dJ3_checkIndex_8e157_6 (by decide) (fun _ => ?_) (fun z => absurd (nI_lt hk (by omega)) z)
  refine lv_iload_n hx hb dJ3_checkIndex_8e157_16 rfl (lv_at hl 0 rfl) ?_
  exact jret hx hb hr hlk rfl dJ3_checkIndex_8e157_17
set_option maxRecDepth 10000 in
theorem j_check {k n : Nat} (hk : k < n) (hn : n < 1000) : JM 1 yJ0_checkIndex_df160 cJ0_checkIndex_df160 2 none (fun ex adV => [.int (Int32.ofNat k), .int (Int32.ofNat n)]) none := by
  refine JM_of (by decide +kernel) (fun _ _ => by simp [lg_sl, Value.category]) ?_
  intro p l e s m args below meth c B ex adV hF ls hl
  obtain ⟨hx, hb, hml, hr, hlk, hown, hts, hEX, hBs⟩ := hF
  have hown : s.vm.findClass "java/lang/String" = some m.cls := hown
  have hS : va_S (Bq B) s.heap s.heap [] := va_S.rf

  refine lv_iload_n hx hb dJ0_checkIndex_df160_0 rfl (lv_at hl 0 rfl) ?_
  refine lv_iload_n hx hb dJ0_checkIndex_df160_1 rfl (lv_at hl 1 rfl) ?_
  have key : ∀ w : Option Nat, va_Z "jdk/internal/util/Preconditions" "SIOOBE_FORMATTER" "Ljava/util/function/BiFunction;" (va_rf w) (Bq B) s s.heap → W p l e (roomJ 1) s m args below meth c s.heap [] 0 0 (MQ below (JPost none) args s 0 0 (fun _ => False)) (F0 m 2 ls [.int (Int32.ofNat n), .int (Int32.ofNat k)]) := fun w hw => by
    refine va_gets hx hb hw hS hown (hts _ (wdq_mem (q := 291) (w := .fieldLink "java/lang/String" 1053 "jdk/internal/util/Preconditions" "SIOOBE_FORMATTER" "Ljava/util/function/BiFunction;") (by decide +kernel))) (fun _ z => z) dJ0_checkIndex_df160_2 ?_
    refine jcallS (na := 3) (As := [.int (Int32.ofNat k), .int (Int32.ofNat n), va_rf w]) (rest := []) (j_pcheck (w := w) hk hn) rfl rfl hx hb hml hown hts hEX hBs hS hBs hl.1 (by decide) (by decide) (by decide) (Nat.zero_le _) (Nat.zero_le _) (wdq_mem (q := 293) (by decide +kernel)) (wdq_mem (q := 126) (by decide +kernel)) (wdq_mem (q := 295) (by decide +kernel)) (by decide +kernel) (wdq_mem (q := 294) (by decide +kernel)) (by simp) dJ0_checkIndex_df160_5 ?_
    refine lv_pop hx hb dJ0_checkIndex_df160_8 rfl ?_
    exact jretv hx hb hr hlk dJ0_checkIndex_df160_9
  rcases hEX.2.2.2.2.1 with h | ⟨t, h⟩
  · exact key none h
  · exact key (some t) h
/-- the k-th sign of a text -/
def chB (i k : Nat) : Int32 := (byts.getD i []).getD k 0
theorem chB_255 : ∀ i, i < 2 → ∀ k, k < lens.getD i 0 → ((chB i k &&& 255).toUInt32 % 65536).toInt32 = chB i k ∧ narrow .char (.int (chB i k)) = .int (chB i k) ∧ chB i k = Int32.ofInt ((strB (i + 1)).getD k 0) ∧ -2147483648 ≤ (strB (i + 1)).getD k 0 ∧ (strB (i + 1)).getD k 0 < 128 ∧ 0 ≤ (strB (i + 1)).getD k 0 := by decide +kernel
theorem lens_lt : ∀ i, i < 2 → lens.getD i 0 < 1000 ∧ (strB (i + 1)).length = lens.getD i 0 ∧ 0 < lens.getD i 0 := by decide +kernel
set_option maxRecDepth 10000 in
theorem j_lcharAt {i k : Nat} (hi : i < 2) (hk : k < lens.getD i 0) : JM 2 yJ1_charAt_3b067 cJ1_charAt_3b067 2 (some .char) (fun ex adV => [.ref (adV i), .int (Int32.ofNat k)]) (some (.int (chB i k))) := by
  refine JM_of (by decide +kernel) (fun _ _ => by simp [lg_sl, Value.category]) ?_
  intro p l e s m args below meth c B ex adV hF ls hl
  obtain ⟨hx, hb, hml, hr, hlk, hown, hts, hEX, hBs⟩ := hF
  have hown : s.vm.findClass "java/lang/StringLatin1" = some m.cls := hown
  have hS : va_S (Bq B) s.heap s.heap [] := va_S.rf
  obtain ⟨-, h2, h3, h4⟩ := hEX.1.1 i hi
  obtain ⟨g1, g2, -⟩ := chB_255 i hi k hk
  have g3 := (lens_lt i hi).1
  refine lv_iload_n hx hb dJ1_charAt_3b067_0 rfl (lv_at hl 1 rfl) ?_
  refine lv_aload_n hx hb dJ1_charAt_3b067_1 rfl (lv_at hl 0 rfl) ?_
  refine va_tlen hx hb h4 hS rfl dJ1_charAt_3b067_2 ?_
  refine jcallS (na := 2) (As := [.int (Int32.ofNat k), .int (Int32.ofNat (lens.getD i 0))]) (rest := []) (j_check hk g3) rfl rfl hx hb hml hown hts hEX hBs hS hBs hl.1 (by decide) (by decide) (by decide) (Nat.zero_le _) (Nat.zero_le _) (wdq_mem (q := 288) (by decide +kernel)) (wdq_mem (q := 124) (by decide +kernel)) (wdq_mem (q := 290) (by decide +kernel)) (by decide +kernel) (wdq_mem (q := 289) (by decide +kernel)) (by simp) dJ1_charAt_3b067_3 ?_
  refine lv_aload_n hx hb dJ1_charAt_3b067_6 rfl (lv_at hl 0 rfl) ?_
  refine lv_iload_n hx hb dJ1_charAt_3b067_7 rfl (lv_at hl 1 rfl) ?_
  refine va_tb hx hb h4 hS (vp_in_nI hk (by omega)) (v := .int (chB i k)) (by rw [show (Int32.ofNat k).toNatClampNeg = k from nI_clamp (by omega)]; rfl) dJ1_charAt_3b067_8 ?_
  refine lv_sipush (v := 255) hx hb dJ1_charAt_3b067_9 (by decide) ?_
  refine lv_iand hx hb dJ1_charAt_3b067_12 ?_
  refine lv_i2c hx hb dJ1_charAt_3b067_13 g1 ?_
  exact jret hx hb hr hlk g2 dJ1_charAt_3b067_14
set_option maxRecDepth 10000 in
theorem j_charAt {i k : Nat} (hi : i < 2) (hk : k < lens.getD i 0) : JM 3 yJ0_charAt_5068e cJ0_charAt_5068e 2 (some .char) (fun ex adV => [.ref (ex (i + 1)), .int (Int32.ofNat k)]) (some (.int (chB i k))) := by
  refine JM_of (by decide +kernel) (fun _ _ => by simp [lg_sl, Value.category]) ?_
  intro p l e s m args below meth c B ex adV hF ls hl
  obtain ⟨hx, hb, hml, hr, hlk, hown, hts, hEX, hBs⟩ := hF
  have hown : s.vm.findClass "java/lang/String" = some m.cls := hown
  have hS : va_S (Bq B) s.heap s.heap [] := va_S.rf
  obtain ⟨-, h2, h3, h4⟩ := hEX.1.1 i hi
  obtain ⟨g1, g2, -⟩ := chB_255 i hi k hk
  refine lv_aload_n hx hb dJ0_charAt_5068e_0 rfl (lv_at hl 0 rfl) ?_
  refine jcallV (na := 0) (As := []) (rest := []) (j_isLatin1 hi) hi rfl rfl hx hb hml hown hts hEX hBs hS hBs hl.1 (by decide) (by decide) (by decide) (Nat.zero_le _) (Nat.zero_le _) (wdq_mem (q := 281) (by decide +kernel)) (wdq_mem (q := 124) (by decide +kernel)) (wdq_mem (q := 284) (by decide +kernel)) (by decide +kernel) rfl (wdq_mem (q := 282) (by decide +kernel)) (wdq_mem (q := 283) (by decide +kernel)) (by simp) dJ0_charAt_5068e_1 ?_
  refine lv_if_eq (tgt := 16) hx hb dJ0_charAt_5068e_4 (by decide) (fun z => absurd z (by decide)) (fun _ => ?_)
  refine lv_aload_n hx hb dJ0_charAt_5068e_7 rfl (lv_at hl 0 rfl) ?_
  refine vk_getf hx hb h3 hS hown (hts _ (wdq_mem (q := 2056) (w := .fieldLink "java/lang/String" 9 "java/lang/String" "value" "[B") (by decide +kernel))) (fun _ z => z) dJ0_charAt_5068e_8 ?_
  refine lv_iload_n hx hb dJ0_charAt_5068e_11 rfl (lv_at hl 1 rfl) ?_
  refine jcallS (na := 2) (As := [.ref (adV i), .int (Int32.ofNat k)]) (rest := []) (j_lcharAt hi hk) rfl rfl hx hb hml hown hts hEX hBs hS hBs hl.1 (by decide) (by decide) (by decide) (Nat.zero_le _) (Nat.zero_le _) (wdq_mem (q := 285) (by decide +kernel)) (wdq_mem (q := 125) (by decide +kernel)) (wdq_mem (q := 287) (by decide +kernel)) (by decide +kernel) (wdq_mem (q := 286) (by decide +kernel)) (by simp) dJ0_charAt_5068e_12 ?_
  exact jret hx hb hr hlk g2 dJ0_charAt_5068e_15
set_option maxRecDepth 10000 in
theorem j_canEncode {x : Int32} : JM 0 yJ1_canEncode_9a6ad cJ1_canEncode_9a6ad 1 (some .boolean) (fun ex adV => [.int x]) (some (.int (if x < 0 then 0 else if 255 < x then 0 else 1))) := by
  refine JM_of (by decide +kernel) (fun _ _ => by simp [lg_sl, Value.category]) ?_
  intro p l e s m args below meth c B ex adV hF ls hl
  obtain ⟨hx, hb, hml, hr, hlk, hown, hts, hEX, hBs⟩ := hF
  have hown : s.vm.findClass "java/lang/StringLatin1" = some m.cls := hown
  have hS : va_S (Bq B) s.heap s.heap [] := va_S.rf

  refine lv_iload_n hx hb dJ1_canEncode_9a6ad_0 rfl (lv_at hl 0 rfl) ?_
  refine lv_if_lt (tgt := 15) hx hb dJ1_canEncode_9a6ad_1 (by decide) (fun z => ?_) (fun z => ?_)
  · refine lv_iconst (v := 0) hx hb dJ1_canEncode_9a6ad_15 (by decide) ?_
    rw [if_pos z]
    exact jret hx hb hr hlk rfl dJ1_canEncode_9a6ad_16
  · refine lv_iload_n hx hb dJ1_canEncode_9a6ad_4 rfl (lv_at hl 0 rfl) ?_
    refine lv_sipush (v := 255) hx hb dJ1_canEncode_9a6ad_5 (by decide) ?_
    refine lv_icmp_gt (tgt := 15) hx hb dJ1_canEncode_9a6ad_8 (by decide) (fun z2 => ?_) (fun z2 => ?_)
    · refine lv_iconst (v := 0) hx hb dJ1_canEncode_9a6ad_15 (by decide) ?_
      rw [if_neg z, if_pos z2]
      exact jret hx hb hr hlk rfl dJ1_canEncode_9a6ad_16
    · refine lv_iconst (v := 1) hx hb dJ1_canEncode_9a6ad_11 (by decide) ?_
      refine lv_goto (tgt := 16) hx hb dJ1_canEncode_9a6ad_12 (by decide) ?_
      rw [if_neg z, if_neg z2]
      exact jret hx hb hr hlk rfl dJ1_canEncode_9a6ad_16
/-- where a sign of one byte is first, from place k on; -1 if nowhere -/
def ixB (i : Nat) (x : Int32) : Nat → Nat → Int32
  | 0, _ => -1
  | n + 1, k => if chB i k = x then Int32.ofNat k else ixB i x n (k + 1)
set_option maxRecDepth 10000 in
theorem j_ixc {i : Nat} {x : Int32} (hi : i < 2) : JM 0 yJ1_indexOfChar_4cfef cJ1_indexOfChar_4cfef 6 (some .int) (fun ex adV => [.ref (adV i), .int x, .int 0, .int (Int32.ofNat (lens.getD i 0))]) (some (.int (ixB i x.toInt8.toInt32 (lens.getD i 0) 0))) := by
  refine JM_of (by decide +kernel) (fun _ _ => by simp [lg_sl, Value.category]) ?_
  intro p l e s m args below meth c B ex adV hF ls hl
  obtain ⟨hx, hb, hml, hr, hlk, hown, hts, hEX, hBs⟩ := hF
  have hown : s.vm.findClass "java/lang/StringLatin1" = some m.cls := hown
  have hS : va_S (Bq B) s.heap s.heap [] := va_S.rf
  obtain ⟨-, h2, h3, h4⟩ := hEX.1.1 i hi
  have g3 := (lens_lt i hi).1
  have hl : lv_has ls 6 [(0, .ref (adV i)), (1, .int x), (2, .int 0), (3, .int (Int32.ofNat (lens.getD i 0)))] := hl
  refine lv_iload_n hx hb dJ1_indexOfChar_4cfef_0 rfl (lv_at hl 1 rfl) ?_
  refine lv_i2b hx hb dJ1_indexOfChar_4cfef_1 rfl ?_
  refine lv_istore (lv' := [(4, .int x.toInt8.toInt32), (0, .ref (adV i)), (1, .int x), (2, .int 0), (3, .int (Int32.ofNat (lens.getD i 0)))]) hx hb dJ1_indexOfChar_4cfef_2 hl (by decide) rfl (fun ls hl => ?_)
  refine lv_iload_n hx hb dJ1_indexOfChar_4cfef_4 rfl (lv_at hl 3 rfl) ?_
  refine lv_istore (lv' := [(5, .int 0), (4, .int x.toInt8.toInt32), (0, .ref (adV i)), (1, .int x), (2, .int 0), (3, .int (Int32.ofNat (lens.getD i 0)))]) hx hb dJ1_indexOfChar_4cfef_5 hl (by decide) rfl (fun ls hl => ?_)
  have key : ∀ (n k : Nat), k + n = lens.getD i 0 → ixB i x.toInt8.toInt32 (lens.getD i 0) 0 = ixB i x.toInt8.toInt32 n k → ∀ ls : Array Slot, lv_has ls 6 [(5, .int (Int32.ofNat k)), (4, .int x.toInt8.toInt32), (0, .ref (adV i)), (3, .int (Int32.ofNat (lens.getD i 0)))] → W p l e (roomJ 0) s m args below meth c s.heap [] 0 0 (MQ below (JPost (some (.int (ixB i x.toInt8.toInt32 (lens.getD i 0) 0)))) args s 0 0 (fun _ => False)) (F0 m 7 ls []) := by
    intro n
    induction n with
    | zero =>
      intro k hk he ls hl
      refine lv_iload hx hb dJ1_indexOfChar_4cfef_7 (lv_at hl 0 rfl) ?_
      refine lv_iload_n hx hb dJ1_indexOfChar_4cfef_9 rfl (lv_at hl 3 rfl) ?_
      refine lv_icmp_ge (tgt := 31) hx hb dJ1_indexOfChar_4cfef_10 (by decide) (fun _ => ?_) (fun z => absurd (nI_le (by omega) (by omega)) z)
      refine lv_iconst (v := -1) hx hb dJ1_indexOfChar_4cfef_31 (by decide) ?_
      rw [he]
      exact jret hx hb hr hlk rfl dJ1_indexOfChar_4cfef_32
    | succ n ih =>
      intro k hk he ls hl
      refine lv_iload hx hb dJ1_indexOfChar_4cfef_7 (lv_at hl 0 rfl) ?_
      refine lv_iload_n hx hb dJ1_indexOfChar_4cfef_9 rfl (lv_at hl 3 rfl) ?_
      refine lv_icmp_ge (tgt := 31) hx hb dJ1_indexOfChar_4cfef_10 (by decide) (fun z => absurd z (nI_ge (by omega) (by omega))) (fun _ => ?_)
      refine lv_aload_n hx hb dJ1_indexOfChar_4cfef_13 rfl (lv_at hl 2 rfl) ?_
      refine lv_iload hx hb dJ1_indexOfChar_4cfef_14 (lv_at hl 0 rfl) ?_
      refine va_tb hx hb h4 hS (vp_in_nI (by omega) (by omega)) (v := .int (chB i k)) (by rw [show (Int32.ofNat k).toNatClampNeg = k from nI_clamp (by omega)]; rfl) dJ1_indexOfChar_4cfef_16 ?_
      refine lv_iload hx hb dJ1_indexOfChar_4cfef_17 (lv_at hl 1 rfl) ?_
      refine lv_icmp_ne (tgt := 25) hx hb dJ1_indexOfChar_4cfef_19 (by decide) (fun z => ?_) (fun z => ?_)
      · refine lv_iinc (v := Int32.ofNat (k + 1)) (lv' := [(5, .int (Int32.ofNat (k + 1))), (4, .int x.toInt8.toInt32), (0, .ref (adV i)), (3, .int (Int32.ofNat (lens.getD i 0)))]) hx hb dJ1_indexOfChar_4cfef_25 hl (k := 0) rfl (nI_succ k).symm (by decide) rfl (fun ls hl => ?_)
        refine lv_goto (tgt := 7) hx hb dJ1_indexOfChar_4cfef_28 (by decide) ?_
        exact ih (k + 1) (by omega) (by rw [he]; exact if_neg z) ls hl
      · have z : chB i k = x.toInt8.toInt32 := by first | exact z | exact Decidable.not_not.mp z
        refine lv_iload hx hb dJ1_indexOfChar_4cfef_22 (lv_at hl 0 rfl) ?_
        rw [he, show ixB i x.toInt8.toInt32 (n + 1) k = Int32.ofNat k from if_pos z]
        exact jret hx hb hr hlk rfl dJ1_indexOfChar_4cfef_24
  exact key (lens.getD i 0) 0 (by omega) rfl ls (lv_sub hl [0, 1, 2, 5] rfl)
/-- what indexOf answers -/
def ixJ (i : Nat) (x : Int32) : Int32 := if (if x < 0 then (0 : Int32) else if 255 < x then 0 else 1) = 0 then -1 else ixB i x.toInt8.toInt32 (lens.getD i 0) 0
set_option maxRecDepth 10000 in
theorem j_lindexOf {i : Nat} {x : Int32} (hi : i < 2) : JM 1 yJ1_indexOf_4cfef cJ1_indexOf_4cfef 4 (some .int) (fun ex adV => [.ref (adV i), .int x, .int 0, .int (Int32.ofNat (lens.getD i 0))]) (some (.int (ixJ i x))) := by
  refine JM_of (by decide +kernel) (fun _ _ => by simp [lg_sl, Value.category]) ?_
  intro p l e s m args below meth c B ex adV hF ls hl
  obtain ⟨hx, hb, hml, hr, hlk, hown, hts, hEX, hBs⟩ := hF
  have hown : s.vm.findClass "java/lang/StringLatin1" = some m.cls := hown
  have hS : va_S (Bq B) s.heap s.heap [] := va_S.rf
  obtain ⟨-, h2, h3, h4⟩ := hEX.1.1 i hi
  obtain ⟨g3, -, g5⟩ := lens_lt i hi
  have hl : lv_has ls 4 [(0, .ref (adV i)), (1, .int x), (2, .int 0), (3, .int (Int32.ofNat (lens.getD i 0)))] := hl
  refine lv_iload_n hx hb dJ1_indexOf_4cfef_0 rfl (lv_at hl 1 rfl) ?_
  refine jcallS (na := 1) (As := [.int x]) (rest := []) j_canEncode rfl rfl hx hb hml hown hts hEX hBs hS hBs hl.1 (by decide) (by decide) (by decide) (Nat.zero_le _) (Nat.zero_le _) (wdq_mem (q := 742) (by decide +kernel)) (wdq_mem (q := 125) (by decide +kernel)) (wdq_mem (q := 744) (by decide +kernel)) (by decide +kernel) (wdq_mem (q := 743) (by decide +kernel)) (by simp) dJ1_indexOf_4cfef_1 ?_
  refine lv_if_ne (tgt := 9) hx hb dJ1_indexOf_4cfef_4 (by decide) (fun z => ?_) (fun z => ?_)
  · refine lv_iload_n hx hb dJ1_indexOf_4cfef_9 rfl (lv_at hl 2 rfl) ?_
    refine lv_iconst (v := 0) hx hb dJ1_indexOf_4cfef_10 (by decide) ?_
    refine va_mmax hx hb (by rw [hml, hl.1]) hown (hts _ (wdq_mem (q := 745) (w := .methodLink "java/lang/StringLatin1" 92 Lib.Math.max.name) (by decide +kernel))) (hts _ (wdq_mem (q := 746) (w := .static Lib.Math.max.name) (by decide +kernel))) (hts _ (wdq_mem (q := 138) (w := .initialized "java/lang/Math") (by decide +kernel))) (hts _ (wdq_mem (q := 747) (w := .code Lib.Math.max.name Lib.Math.max.code 2 (some .int)) (by decide +kernel))) (by decide) (by simp [roomJ]) (Nat.zero_le _) (Nat.zero_le _) dJ1_indexOf_4cfef_11 ?_
    rw [show (if (0 : Int32) < 0 then (0 : Int32) else 0) = 0 from by decide]
    refine lv_istore_n (lv' := [(2, .int 0), (0, .ref (adV i)), (1, .int x), (3, .int (Int32.ofNat (lens.getD i 0)))]) hx hb dJ1_indexOf_4cfef_14 rfl hl (by decide) rfl (fun ls hl => ?_)
    refine lv_iload_n hx hb dJ1_indexOf_4cfef_15 rfl (lv_at hl 3 rfl) ?_
    refine lv_aload_n hx hb dJ1_indexOf_4cfef_16 rfl (lv_at hl 1 rfl) ?_
    refine va_tlen hx hb h4 hS rfl dJ1_indexOf_4cfef_17 ?_
    refine va_mmin hx hb (by rw [hml, hl.1]) hown (hts _ (wdq_mem (q := 748) (w := .methodLink "java/lang/StringLatin1" 38 Lib.Math.min.name) (by decide +kernel))) (hts _ (wdq_mem (q := 749) (w := .static Lib.Math.min.name) (by decide +kernel))) (hts _ (wdq_mem (q := 138) (w := .initialized "java/lang/Math") (by decide +kernel))) (hts _ (wdq_mem (q := 750) (w := .code Lib.Math.min.name Lib.Math.min.code 2 (some .int)) (by decide +kernel))) (by decide) (by simp [roomJ]) (Nat.zero_le _) (Nat.zero_le _) dJ1_indexOf_4cfef_18 ?_
    rw [ite_self]
    refine lv_istore_n (lv' := [(3, .int (Int32.ofNat (lens.getD i 0))), (2, .int 0), (0, .ref (adV i)), (1, .int x)]) hx hb dJ1_indexOf_4cfef_21 rfl hl (by decide) rfl (fun ls hl => ?_)
    refine lv_iload_n hx hb dJ1_indexOf_4cfef_22 rfl (lv_at hl 1 rfl) ?_
    refine lv_iload_n hx hb dJ1_indexOf_4cfef_23 rfl (lv_at hl 0 rfl) ?_
    refine lv_icmp_lt (tgt := 29) hx hb dJ1_indexOf_4cfef_24 (by decide) (fun _ => ?_) (fun z2 => absurd (show (0 : Int32) < Int32.ofNat (lens.getD i 0) from nI_lt (a := 0) g5 (by omega)) z2)
    refine lv_aload_n hx hb dJ1_indexOf_4cfef_29 rfl (lv_at hl 2 rfl) ?_
    refine lv_iload_n hx hb dJ1_indexOf_4cfef_30 rfl (lv_at hl 3 rfl) ?_
    refine lv_iload_n hx hb dJ1_indexOf_4cfef_31 rfl (lv_at hl 1 rfl) ?_
    refine lv_iload_n hx hb dJ1_indexOf_4cfef_32 rfl (lv_at hl 0 rfl) ?_
    refine jcallS (na := 4) (As := [.ref (adV i), .int x, .int 0, .int (Int32.ofNat (lens.getD i 0))]) (rest := []) (j_ixc hi) rfl rfl hx hb hml hown hts hEX hBs hS hBs hl.1 (by decide) (by decide) (by decide) (Nat.zero_le _) (Nat.zero_le _) (wdq_mem (q := 751) (by decide +kernel)) (wdq_mem (q := 125) (by decide +kernel)) (wdq_mem (q := 753) (by decide +kernel)) (by decide +kernel) (wdq_mem (q := 752) (by decide +kernel)) (by simp) dJ1_indexOf_4cfef_33 ?_
    have e1 : ixJ i x = ixB i x.toInt8.toInt32 (lens.getD i 0) 0 := if_neg z
    rw [e1]
    exact jret hx hb hr hlk rfl dJ1_indexOf_4cfef_36
  · have z : (if x < 0 then (0 : Int32) else if 255 < x then 0 else 1) = 0 := by first | exact z | exact Decidable.not_not.mp z
    refine lv_iconst (v := -1) hx hb dJ1_indexOf_4cfef_7 (by decide) ?_
    have e1 : ixJ i x = -1 := if_pos z
    rw [e1]
    exact jret hx hb hr hlk rfl dJ1_indexOf_4cfef_8
set_option maxRecDepth 10000 in
theorem j_indexOf2 {i : Nat} {x : Int32} (hi : i < 2) : JM 2 yJ0_indexOf_7cf53 cJ0_indexOf_7cf53 3 (some .int) (fun ex adV => [.ref (ex (i + 1)), .int x, .int 0]) (some (.int (ixJ i x))) := by
  refine JM_of (by decide +kernel) (fun _ _ => by simp [lg_sl, Value.category]) ?_
  intro p l e s m args below meth c B ex adV hF ls hl
  obtain ⟨hx, hb, hml, hr, hlk, hown, hts, hEX, hBs⟩ := hF
  have hown : s.vm.findClass "java/lang/String" = some m.cls := hown
  have hS : va_S (Bq B) s.heap s.heap [] := va_S.rf
  obtain ⟨-, h2, h3, h4⟩ := hEX.1.1 i hi
  refine lv_aload_n hx hb dJ0_indexOf_7cf53_0 rfl (lv_at hl 0 rfl) ?_
  refine jcallV (na := 0) (As := []) (rest := []) (j_isLatin1 hi) hi rfl rfl hx hb hml hown hts hEX hBs hS hBs hl.1 (by decide) (by decide) (by decide) (Nat.zero_le _) (Nat.zero_le _) (wdq_mem (q := 281) (by decide +kernel)) (wdq_mem (q := 124) (by decide +kernel)) (wdq_mem (q := 284) (by decide +kernel)) (by decide +kernel) rfl (wdq_mem (q := 282) (by decide +kernel)) (wdq_mem (q := 283) (by decide +kernel)) (by simp) dJ0_indexOf_7cf53_1 ?_
  refine lv_if_eq (tgt := 23) hx hb dJ0_indexOf_7cf53_4 (by decide) (fun z => absurd z (by decide)) (fun _ => ?_)
  refine lv_aload_n hx hb dJ0_indexOf_7cf53_7 rfl (lv_at hl 0 rfl) ?_
  refine vk_getf hx hb h3 hS hown (hts _ (wdq_mem (q := 2056) (w := .fieldLink "java/lang/String" 9 "java/lang/String" "value" "[B") (by decide +kernel))) (fun _ z => z) dJ0_indexOf_7cf53_8 ?_
  refine lv_iload_n hx hb dJ0_indexOf_7cf53_11 rfl (lv_at hl 1 rfl) ?_
  refine lv_iload_n hx hb dJ0_indexOf_7cf53_12 rfl (lv_at hl 2 rfl) ?_
  refine lv_aload_n hx hb dJ0_indexOf_7cf53_13 rfl (lv_at hl 0 rfl) ?_
  refine jcallV (na := 0) (As := []) (rest := [.int 0, .int x, .ref (adV i)]) (j_length hi) hi rfl rfl hx hb hml hown hts hEX hBs hS hBs hl.1 (by decide) (by decide) (by decide) (Nat.zero_le _) (Nat.zero_le _) (wdq_mem (q := 738) (by decide +kernel)) (wdq_mem (q := 124) (by decide +kernel)) (wdq_mem (q := 270) (by decide +kernel)) (by decide +kernel) rfl (wdq_mem (q := 268) (by decide +kernel)) (wdq_mem (q := 269) (by decide +kernel)) (by simp [Value.category]) dJ0_indexOf_7cf53_14 ?_
  refine jcallS (na := 4) (As := [.ref (adV i), .int x, .int 0, .int (Int32.ofNat (lens.getD i 0))]) (rest := []) (j_lindexOf hi) rfl rfl hx hb hml hown hts hEX hBs hS hBs hl.1 (by decide) (by decide) (by decide) (Nat.zero_le _) (Nat.zero_le _) (wdq_mem (q := 739) (by decide +kernel)) (wdq_mem (q := 125) (by decide +kernel)) (wdq_mem (q := 741) (by decide +kernel)) (by decide +kernel) (wdq_mem (q := 740) (by decide +kernel)) (by simp) dJ0_indexOf_7cf53_17 ?_
  refine lv_goto (tgt := 36) hx hb dJ0_indexOf_7cf53_20 (by decide) ?_
  exact jret hx hb hr hlk rfl dJ0_indexOf_7cf53_36
set_option maxRecDepth 10000 in
theorem j_indexOf {i : Nat} {x : Int32} (hi : i < 2) : JM 3 yJ0_indexOf_0f7a4 cJ0_indexOf_0f7a4 2 (some .int) (fun ex adV => [.ref (ex (i + 1)), .int x]) (some (.int (ixJ i x))) := by
  refine JM_of (by decide +kernel) (fun _ _ => by simp [lg_sl, Value.category]) ?_
  intro p l e s m args below meth c B ex adV hF ls hl
  obtain ⟨hx, hb, hml, hr, hlk, hown, hts, hEX, hBs⟩ := hF
  have hown : s.vm.findClass "java/lang/String" = some m.cls := hown
  have hS : va_S (Bq B) s.heap s.heap [] := va_S.rf

  refine lv_aload_n hx hb dJ0_indexOf_0f7a4_0 rfl (lv_at hl 0 rfl) ?_
  refine lv_iload_n hx hb dJ0_indexOf_0f7a4_1 rfl (lv_at hl 1 rfl) ?_
  refine lv_iconst (v := 0) hx hb dJ0_indexOf_0f7a4_2 (by decide) ?_
  refine jcallV (na := 2) (As := [.int x, .int 0]) (rest := []) (j_indexOf2 hi) hi rfl rfl hx hb hml hown hts hEX hBs hS hBs hl.1 (by decide) (by decide) (by decide) (Nat.zero_le _) (Nat.zero_le _) (wdq_mem (q := 734) (by decide +kernel)) (wdq_mem (q := 124) (by decide +kernel)) (wdq_mem (q := 737) (by decide +kernel)) (by decide +kernel) rfl (wdq_mem (q := 735) (by decide +kernel)) (wdq_mem (q := 736) (by decide +kernel)) (by simp) dJ0_indexOf_0f7a4_3 ?_
  exact jret hx hb hr hlk rfl dJ0_indexOf_0f7a4_6
end
section
/-! the classes; the link of each row; a walk is sound -/
def okTy (ty : FieldType) : Bool := match ty with
  | .int => true
  | .boolean => true
  | .long => true
  | .object _ => true
  | .array _ => true
  | _ => false
theorem okTy_dv (B : Nat) {ty : FieldType} (h : okTy ty = true) : defaultValue ty = fv B (tagT ty) (-1) 0 := by
  cases ty <;> first | rfl | cases h
theorem inT0 : ∀ w ∈ u_ws RX0 TX0 4, w ∈ TBg := by
  intro w hw
  have h : u_ws RX0 TX0 4 = [459, 461, 463, 465].filterMap (fun i => lw_tbl[i]?) := by decide +kernel
  have h2 : (u_ws RX0 TX0 4).all goodWord = true := by decide +kernel
  have h3 := List.all_eq_true.mp h2 w hw
  rw [h] at hw
  obtain ⟨i, -, hi⟩ := List.mem_filterMap.mp hw
  exact List.mem_filter.mpr ⟨List.mem_of_getElem? hi, h3⟩
theorem okT0 : ∀ j, j < 4 → okTy (tyX0 j) = true := by decide +kernel
theorem inT1 : ∀ w ∈ u_ws RX1 TX1 5, w ∈ TBg := by
  intro w hw
  have h : u_ws RX1 TX1 5 = [574, 576, 578, 580, 582].filterMap (fun i => lw_tbl[i]?) := by decide +kernel
  have h2 : (u_ws RX1 TX1 5).all goodWord = true := by decide +kernel
  have h3 := List.all_eq_true.mp h2 w hw
  rw [h] at hw
  obtain ⟨i, -, hi⟩ := List.mem_filterMap.mp hw
  exact List.mem_filter.mpr ⟨List.mem_of_getElem? hi, h3⟩
theorem okT1 : ∀ j, j < 5 → okTy (tyX1 j) = true := by decide +kernel
theorem inT2 : ∀ w ∈ u_ws RX2 TX2 10, w ∈ TBg := by
  intro w hw
  have h : u_ws RX2 TX2 10 = [540, 542, 544, 546, 548, 550, 552, 554, 556, 558].filterMap (fun i => lw_tbl[i]?) := by decide +kernel
  have h2 : (u_ws RX2 TX2 10).all goodWord = true := by decide +kernel
  have h3 := List.all_eq_true.mp h2 w hw
  rw [h] at hw
  obtain ⟨i, -, hi⟩ := List.mem_filterMap.mp hw
  exact List.mem_filter.mpr ⟨List.mem_of_getElem? hi, h3⟩
theorem okT2 : ∀ j, j < 10 → okTy (tyX2 j) = true := by decide +kernel
theorem inT3 : ∀ w ∈ u_ws RX3 TX3 2, w ∈ TBg := by
  intro w hw
  have h : u_ws RX3 TX3 2 = [519, 521].filterMap (fun i => lw_tbl[i]?) := by decide +kernel
  have h2 : (u_ws RX3 TX3 2).all goodWord = true := by decide +kernel
  have h3 := List.all_eq_true.mp h2 w hw
  rw [h] at hw
  obtain ⟨i, -, hi⟩ := List.mem_filterMap.mp hw
  exact List.mem_filter.mpr ⟨List.mem_of_getElem? hi, h3⟩
theorem okT3 : ∀ j, j < 2 → okTy (tyX3 j) = true := by decide +kernel
theorem inT4 : ∀ w ∈ u_ws RX4 TX4 19, w ∈ TBg := by
  intro w hw
  have h : u_ws RX4 TX4 19 = [220, 222, 224, 226, 228, 230, 232, 234, 236, 238, 240, 242, 244, 246, 248, 250, 252, 254, 256].filterMap (fun i => lw_tbl[i]?) := by decide +kernel
  have h2 : (u_ws RX4 TX4 19).all goodWord = true := by decide +kernel
  have h3 := List.all_eq_true.mp h2 w hw
  rw [h] at hw
  obtain ⟨i, -, hi⟩ := List.mem_filterMap.mp hw
  exact List.mem_filter.mpr ⟨List.mem_of_getElem? hi, h3⟩
theorem okT4 : ∀ j, j < 19 → okTy (tyX4 j) = true := by decide +kernel
theorem inT5 : ∀ w ∈ u_ws RX5 TX5 9, w ∈ TBg := by
  intro w hw
  have h : u_ws RX5 TX5 9 = [376, 378, 380, 382, 384, 386, 388, 390, 392].filterMap (fun i => lw_tbl[i]?) := by decide +kernel
  have h2 : (u_ws RX5 TX5 9).all goodWord = true := by decide +kernel
  have h3 := List.all_eq_true.mp h2 w hw
  rw [h] at hw
  obtain ⟨i, -, hi⟩ := List.mem_filterMap.mp hw
  exact List.mem_filter.mpr ⟨List.mem_of_getElem? hi, h3⟩
theorem okT5 : ∀ j, j < 9 → okTy (tyX5 j) = true := by decide +kernel
theorem inT6 : ∀ w ∈ u_ws RX6 TX6 2, w ∈ TBg := by
  intro w hw
  have h : u_ws RX6 TX6 2 = [503, 505].filterMap (fun i => lw_tbl[i]?) := by decide +kernel
  have h2 : (u_ws RX6 TX6 2).all goodWord = true := by decide +kernel
  have h3 := List.all_eq_true.mp h2 w hw
  rw [h] at hw
  obtain ⟨i, -, hi⟩ := List.mem_filterMap.mp hw
  exact List.mem_filter.mpr ⟨List.mem_of_getElem? hi, h3⟩
theorem okT6 : ∀ j, j < 2 → okTy (tyX6 j) = true := by decide +kernel
theorem inT7 : ∀ w ∈ u_ws RX7 TX7 11, w ∈ TBg := by
  intro w hw
  have h : u_ws RX7 TX7 11 = [606, 608, 610, 612, 614, 616, 618, 620, 622, 624, 626].filterMap (fun i => lw_tbl[i]?) := by decide +kernel
  have h2 : (u_ws RX7 TX7 11).all goodWord = true := by decide +kernel
  have h3 := List.all_eq_true.mp h2 w hw
  rw [h] at hw
  obtain ⟨i, -, hi⟩ := List.mem_filterMap.mp hw
  exact List.mem_filter.mpr ⟨List.mem_of_getElem? hi, h3⟩
theorem okT7 : ∀ j, j < 11 → okTy (tyX7 j) = true := by decide +kernel
theorem inT8 : ∀ w ∈ u_ws RX8 TX8 11, w ∈ TBg := by
  intro w hw
  have h : u_ws RX8 TX8 11 = [430, 432, 434, 436, 438, 440, 442, 444, 446, 448, 450].filterMap (fun i => lw_tbl[i]?) := by decide +kernel
  have h2 : (u_ws RX8 TX8 11).all goodWord = true := by decide +kernel
  have h3 := List.all_eq_true.mp h2 w hw
  rw [h] at hw
  obtain ⟨i, -, hi⟩ := List.mem_filterMap.mp hw
  exact List.mem_filter.mpr ⟨List.mem_of_getElem? hi, h3⟩
theorem okT8 : ∀ j, j < 11 → okTy (tyX8 j) = true := by decide +kernel
theorem inT9 : ∀ w ∈ u_ws RX9 TX9 11, w ∈ TBg := by
  intro w hw
  have h : u_ws RX9 TX9 11 = [334, 336, 338, 340, 342, 344, 346, 348, 350, 352, 354].filterMap (fun i => lw_tbl[i]?) := by decide +kernel
  have h2 : (u_ws RX9 TX9 11).all goodWord = true := by decide +kernel
  have h3 := List.all_eq_true.mp h2 w hw
  rw [h] at hw
  obtain ⟨i, -, hi⟩ := List.mem_filterMap.mp hw
  exact List.mem_filter.mpr ⟨List.mem_of_getElem? hi, h3⟩
theorem okT9 : ∀ j, j < 11 → okTy (tyX9 j) = true := by decide +kernel
theorem inT10 : ∀ w ∈ u_ws RX10 TX10 4, w ∈ TBg := by
  intro w hw
  have h : u_ws RX10 TX10 4 = [483, 485, 487, 489].filterMap (fun i => lw_tbl[i]?) := by decide +kernel
  have h2 : (u_ws RX10 TX10 4).all goodWord = true := by decide +kernel
  have h3 := List.all_eq_true.mp h2 w hw
  rw [h] at hw
  obtain ⟨i, -, hi⟩ := List.mem_filterMap.mp hw
  exact List.mem_filter.mpr ⟨List.mem_of_getElem? hi, h3⟩
theorem okT10 : ∀ j, j < 4 → okTy (tyX10 j) = true := by decide +kernel
theorem inT11 : ∀ w ∈ u_ws RX11 TX11 15, w ∈ TBg := by
  intro w hw
  have h : u_ws RX11 TX11 15 = [644, 646, 648, 650, 652, 654, 656, 658, 660, 662, 664, 666, 668, 670, 672].filterMap (fun i => lw_tbl[i]?) := by decide +kernel
  have h2 : (u_ws RX11 TX11 15).all goodWord = true := by decide +kernel
  have h3 := List.all_eq_true.mp h2 w hw
  rw [h] at hw
  obtain ⟨i, -, hi⟩ := List.mem_filterMap.mp hw
  exact List.mem_filter.mpr ⟨List.mem_of_getElem? hi, h3⟩
theorem okT11 : ∀ j, j < 15 → okTy (tyX11 j) = true := by decide +kernel
theorem inT12 : ∀ w ∈ u_ws RX12 TX12 74, w ∈ TBg := by
  intro w hw
  have h : u_ws RX12 TX12 74 = [1409, 1411, 1413, 1415, 1417, 1419, 1421, 1423, 1425, 1427, 1429, 1431, 1433, 1435, 1437, 1439, 1441, 1443, 1445, 1447, 1449, 1451, 1453, 1455, 1457, 1459, 1461, 1463, 1465, 1467, 1469, 1471, 1473, 1475, 1477, 1479, 1481, 1483, 1485, 1487, 1489, 1491, 1493, 1495, 1497, 1499, 1501, 1503, 1505, 1507, 1509, 1511, 1513, 1515, 1517, 1519, 1521, 1523, 1525, 1527, 1529, 1531, 1533, 1535, 1537, 1539, 1541, 1543, 1545, 1547, 1549, 1551, 1553, 1555].filterMap (fun i => lw_tbl[i]?) := by decide +kernel
  have h2 : (u_ws RX12 TX12 74).all goodWord = true := by decide +kernel
  have h3 := List.all_eq_true.mp h2 w hw
  rw [h] at hw
  obtain ⟨i, -, hi⟩ := List.mem_filterMap.mp hw
  exact List.mem_filter.mpr ⟨List.mem_of_getElem? hi, h3⟩
theorem okT12 : ∀ j, j < 74 → okTy (tyX12 j) = true := by decide +kernel
/-- what holds of each class of the table -/
def clsF (ci : Nat) (C : String) (T : u_T) (N : Nat) : Prop := nF ci = N ∧ (∀ w ∈ u_ws C T N, w ∈ TBg) ∧ (∀ k, k < N → parseFieldDescriptor (T k).2.2.1 = some (tyF ci k)) ∧ (∀ a, a < N → ∀ b, b < N → a ≠ b → (T a).2.1 ≠ (T b).2.1) ∧ (∀ j, j < N → okTy (tyF ci j) = true) ∧ ∀ j, ftag ci j = tagT (tyF ci j)
theorem cls_ok {ci : Nat} {C : String} {T : u_T} {N : Nat} (h : vwCl[ci]? = some (C, T, N)) (hc : ci < 13) : clsF ci C T N := by
  match ci, hc, h with
  | 0, _, h => cases h; exact ⟨rfl, inT0, tyX0_ok, nmX0, okT0, fun _ => rfl⟩
  | 1, _, h => cases h; exact ⟨rfl, inT1, tyX1_ok, nmX1, okT1, fun _ => rfl⟩
  | 2, _, h => cases h; exact ⟨rfl, inT2, tyX2_ok, nmX2, okT2, fun _ => rfl⟩
  | 3, _, h => cases h; exact ⟨rfl, inT3, tyX3_ok, nmX3, okT3, fun _ => rfl⟩
  | 4, _, h => cases h; exact ⟨rfl, inT4, tyX4_ok, nmX4, okT4, fun _ => rfl⟩
  | 5, _, h => cases h; exact ⟨rfl, inT5, tyX5_ok, nmX5, okT5, fun _ => rfl⟩
  | 6, _, h => cases h; exact ⟨rfl, inT6, tyX6_ok, nmX6, okT6, fun _ => rfl⟩
  | 7, _, h => cases h; exact ⟨rfl, inT7, tyX7_ok, nmX7, okT7, fun _ => rfl⟩
  | 8, _, h => cases h; exact ⟨rfl, inT8, tyX8_ok, nmX8, okT8, fun _ => rfl⟩
  | 9, _, h => cases h; exact ⟨rfl, inT9, tyX9_ok, nmX9, okT9, fun _ => rfl⟩
  | 10, _, h => cases h; exact ⟨rfl, inT10, tyX10_ok, nmX10, okT10, fun _ => rfl⟩
  | 11, _, h => cases h; exact ⟨rfl, inT11, tyX11_ok, nmX11, okT11, fun _ => rfl⟩
  | 12, _, h => cases h; exact ⟨rfl, inT12, tyX12_ok, nmX12, okT12, fun _ => rfl⟩
  | n + 13, hc, _ => omega
theorem tsw_imp {x : Int} {J J' : Nat → Prop} {d : Nat} (hd : J d → J' d) : ∀ (r : List Nat) (lo : Int), (∀ t, t ∈ r → J t → J' t) → tsw lo x J d r → tsw lo x J' d r
  | [], _, _, h => hd h
  | t :: r, lo, hr, h => by
    unfold tsw at h ⊢
    split
    · rename_i hx
      rw [if_pos hx] at h
      exact hr t List.mem_cons_self h
    · rename_i hx
      rw [if_neg hx] at h
      exact tsw_imp hd r (lo + 1) (fun t' ht => hr t' (List.mem_cons_of_mem _ ht)) h
theorem lsw_imp {x : Int} {J J' : Nat → Prop} {d : Nat} (hd : J d → J' d) : ∀ (ps : List (Int × Int)) (r : List Nat), (∀ t, t ∈ r → J t → J' t) → lsw x J d ps r → lsw x J' d ps r
  | [], _, _, h => by unfold lsw at h ⊢; exact hd h
  | _ :: _, [], _, h => by unfold lsw at h ⊢; exact hd h
  | (k, _) :: ps, t :: r, hr, h => by
    unfold lsw at h ⊢
    split
    · rename_i hx
      rw [if_pos hx] at h
      exact hr t List.mem_cons_self h
    · rename_i hx
      rw [if_neg hx] at h
      exact lsw_imp hd ps r (fun t' ht => hr t' (List.mem_cons_of_mem _ ht)) h
def strLB (own : String) (k : Nat) (r : List Nat) : Bool := wdq (pick r 7) (.methodLink own k yJ0_length_8abf5)
def strCB (own : String) (k : Nat) (r : List Nat) : Bool := wdq (pick r 7) (.methodLink own k yJ0_charAt_5068e)
def strIB (own : String) (k : Nat) (r : List Nat) : Bool := wdq (pick r 7) (.methodLink own k yJ0_indexOf_0f7a4)
theorem idxOf_rng (c : Int) : ∀ (l : List Int) (i : Int), 0 ≤ i → -1 ≤ idxOf c l i ∧ idxOf c l i < i + (l.length : Int) + 1
  | [], i, hi => ⟨Int.le_refl _, by show (-1 : Int) < _; simp; omega⟩
  | y :: t, i, hi => by
    unfold idxOf
    obtain ⟨h1, h2⟩ := idxOf_rng c t (i + 1) (by omega)
    rw [List.length_cons]
    split
    · exact ⟨by omega, by omega⟩
    · exact ⟨h1, by omega⟩
theorem ix_eq {i : Nat} {c : Int} {x8 : Int32} (h : ∀ k, k < (strB (i + 1)).length → (chB i k = x8 ↔ c = (strB (i + 1)).getD k 0)) : ∀ (n k : Nat), k + n = (strB (i + 1)).length → ixB i x8 n k = Int32.ofInt (idxOf c ((strB (i + 1)).drop k) k)
  | 0, k, hk => by
    rw [List.drop_eq_nil_iff.mpr (by omega)]
    rfl
  | n + 1, k, hk => by
    have hlt : k < (strB (i + 1)).length := by omega
    rw [List.drop_eq_getElem_cons hlt]
    have e1 : (strB (i + 1)).getD k 0 = (strB (i + 1))[k] := by rw [List.getD_eq_getElem?_getD, List.getElem?_eq_getElem hlt]; rfl
    have hq := h k hlt
    rw [e1] at hq
    unfold ixB idxOf
    by_cases hc : c = (strB (i + 1))[k]
    · rw [if_pos (hq.mpr hc), if_pos hc]
      rfl
    · rw [if_neg (fun z => hc (hq.mp z)), if_neg hc]
      have := ix_eq h n (k + 1) (by omega)
      rw [this]
      rfl
theorem i8_tab : ∀ c, c < 256 → (Int32.ofNat c).toInt8.toInt32 = if c < 128 then Int32.ofNat c else Int32.ofInt ((c : Int) - 256) := by decide +kernel
theorem ixJ_eq {i : Nat} (hi : i < 2) {c : Int} (hc : rngv 0 c) : ixJ i (Int32.ofInt c) = Int32.ofInt (idxOf c (strB (i + 1)) 0) := by
  have hlen := lens_lt i hi
  have hch := chB_255 i hi
  unfold ixJ
  have e0 : (Int32.ofInt c < 0) ↔ c < 0 := by rw [← o_z, lt32 hc ⟨by omega, by omega⟩]
  have e255 : (255 < Int32.ofInt c) ↔ 255 < c := by
    rw [show (255 : Int32) = Int32.ofInt 255 from rfl, lt32 ⟨by omega, by omega⟩ hc]
  by_cases h : 0 ≤ c ∧ c < 256
  · rw [if_neg (by rw [if_neg (by rw [e0]; omega), if_neg (by rw [e255]; omega)]; decide)]
    obtain ⟨cn, rfl⟩ := Int.eq_ofNat_of_zero_le h.1
    have ht := i8_tab cn (by omega)
    rw [show Int32.ofInt (cn : Int) = Int32.ofNat cn from rfl, ht, ← hlen.2.1]
    rw [ix_eq (c := (cn : Int)) (fun k hk => ?_) (strB (i + 1)).length 0 (by omega)]
    · rfl
    · obtain ⟨-, -, g3, g4, g5, g6⟩ := hch k (by rw [← hlen.2.1]; exact hk)
      rw [g3]
      split
      · rename_i h1
        constructor
        · intro z
          exact ((eq32 ⟨by omega, by omega⟩ ⟨by omega, by omega⟩).mp z).symm
        · intro z
          rw [← z]
          rfl
      · rename_i h1
        constructor
        · intro z
          have := (eq32 (x := (strB (i + 1)).getD k 0) (y := (cn : Int) - 256) ⟨by omega, by omega⟩ ⟨by omega, by omega⟩).mp z
          omega
        · intro z
          omega
  · have hz : (if Int32.ofInt c < 0 then (0 : Int32) else if 255 < Int32.ofInt c then 0 else 1) = 0 := by
      by_cases h1 : c < 0
      · rw [if_pos (e0.mpr h1)]
      · rw [if_neg (fun z => h1 (e0.mp z)), if_pos (e255.mpr (by omega))]
    rw [if_pos hz]
    have none : ∀ (l : List Int) (j : Int), (∀ y ∈ l, c ≠ y) → idxOf c l j = -1 := by
      intro l
      induction l with
      | nil => intro j _; rfl
      | cons y t ih =>
        intro j hy
        unfold idxOf
        rw [if_neg (hy y List.mem_cons_self)]
        exact ih _ (fun z hz => hy z (List.mem_cons_of_mem _ hz))
    rw [none _ _ (fun y hy => ?_)]
    · rfl
    · obtain ⟨k, hk⟩ := List.getElem?_of_mem hy
      have hlt := (List.getElem?_eq_some_iff.mp hk).1
      obtain ⟨-, -, -, -, g5, g6⟩ := hch k (by rw [← hlen.2.1]; exact hlt)
      rw [List.getD_eq_getElem?_getD, hk] at g5 g6
      have g5 : y < 128 := g5
      have g6 : 0 ≤ y := g6
      omega
section
variable {p : Program} {l : Launch} {e : Env} {Rm : Room} {s : State} {mm : MethodId} {args : Array Value} {below : List Frame} {meth : Method} {c : Code} {Qw : State → Prop}
variable {B : Nat} {cA : Nat → ClassId} {ex adV : Nat → Nat} {D : va_G} {nL mc ms : Nat} {cc : ByteArray} {pc : Nat} {k : NXT} {ls st : List AV} {sh : SHP} {R M : MEM} {cb sb : Nat}
theorem sd_strL (hx : p.tables.exec = Jvm.exec) (hb : c.code = cc) (hK : va_K D vwCl (TYS cA) s) (hts : ∀ w ∈ TBg, w.before args s = true) {own : String} (hown : s.vm.findClass own = some mm.cls) (hEX : EX B ex adV s s.heap) (hBs : B ≤ s.heap.size) (hfr : 6 ≤ Rm.frames) (hlo : 360 ≤ Rm.locals) (hRc : mc ≤ Rm.cells) (hRs : ms ≤ Rm.slots) (hml : c.maxLocals = nL) {index : Nat} {r : List Nat} (hl : strLB own index r = true) (hdg : decode cc pc = .ok (.invokevirtual index, 3)) (hk : ∀ ls st sh R M cb sb, k ls st sh R M cb sb → WG p l e Rm s mm args below meth c Qw B cA ex D nL mc ms (pc + 3) ls st sh R M cb sb) (h0 : bud (Nat.ble (cats st) 8) (pE st fun q t => bud (Nat.ble 1 q.toNat && Nat.ble q.toNat 2) (k ls (vi ((strB q.toNat).length : Int) :: t) sh R M cb sb))) : WG p l e Rm s mm args below meth c Qw B cA ex D nL mc ms pc ls st sh R M cb sb := by
  obtain ⟨hb1, h1'⟩ := bud_inv h0
  have b1 := Nat.le_of_ble_eq_true hb1
  obtain ⟨q, t, rfl, h2'⟩ := pE_inv h1'
  obtain ⟨hb2, h⟩ := bud_inv h2'
  have b2a := Nat.le_of_ble_eq_true (Bool.and_eq_true_iff.mp hb2).1
  have b2b := Nat.le_of_ble_eq_true (Bool.and_eq_true_iff.mp hb2).2
  obtain ⟨i, hiq⟩ : ∃ i, q.toNat = i + 1 := ⟨q.toNat - 1, by omega⟩
  have hi : i < 2 := by omega
  rw [hiq] at h
  intro H locs cells slots lsA hH hL hS h1 h2
  have hc := cats_sum B ex t
  have hc2 : cats t ≤ 8 := by unfold cats at b1; omega
  have hlen := lens_lt i hi
  have hh := hk _ _ _ _ _ _ _ h H locs cells slots lsA hH hL (SQ.cons (show rngv 0 (((strB (i + 1)).length : Nat) : Int) from ⟨by omega, by omega⟩) hS.tl) h1 h2
  rw [map_cv_cons, show cv B ex (4, q) = .ref (ex q.toNat) from rfl, hiq]
  refine jcallV (na := 0) (As := []) (rest := t.map (cv B ex)) (j_length hi) hi rfl rfl hx hb hml hown hts hEX hBs hH.2.1 (by rw [hH.2.2.1]; omega) hL.1.1 (by decide) (by omega) (by omega) (by omega) (by omega) (wdq_mem hl) (wdq_mem (q := 124) (by decide +kernel)) (wdq_mem (q := 270) (by decide +kernel)) (by decide +kernel) rfl (wdq_mem (q := 268) (by decide +kernel)) (wdq_mem (q := 269) (by decide +kernel)) (Nat.le_trans hc hc2) hdg ?_
  rw [← hlen.2.1]
  exact hh
theorem sd_strC (hx : p.tables.exec = Jvm.exec) (hb : c.code = cc) (hK : va_K D vwCl (TYS cA) s) (hts : ∀ w ∈ TBg, w.before args s = true) {own : String} (hown : s.vm.findClass own = some mm.cls) (hEX : EX B ex adV s s.heap) (hBs : B ≤ s.heap.size) (hfr : 6 ≤ Rm.frames) (hlo : 360 ≤ Rm.locals) (hRc : mc ≤ Rm.cells) (hRs : ms ≤ Rm.slots) (hml : c.maxLocals = nL) {index : Nat} {r : List Nat} (hl : strCB own index r = true) (hdg : decode cc pc = .ok (.invokevirtual index, 3)) (hk : ∀ ls st sh R M cb sb, k ls st sh R M cb sb → WG p l e Rm s mm args below meth c Qw B cA ex D nL mc ms (pc + 3) ls st sh R M cb sb) (h0 : bud (Nat.ble (cats st) 8) (pI st fun i t => pE t fun q t => bud (Nat.ble 1 q.toNat && Nat.ble q.toNat 2) (0 ≤ i ∧ i < ((strB q.toNat).length : Int) ∧ k ls (vi ((strB q.toNat).getD i.toNat 0) :: t) sh R M cb sb))) : WG p l e Rm s mm args below meth c Qw B cA ex D nL mc ms pc ls st sh R M cb sb := by
  obtain ⟨hb1, h1'⟩ := bud_inv h0
  have b1 := Nat.le_of_ble_eq_true hb1
  obtain ⟨j, t1, rfl, h2'⟩ := pI_inv h1'
  obtain ⟨q, t, rfl, h3'⟩ := pE_inv h2'
  obtain ⟨hb2, h⟩ := bud_inv h3'
  have b2a := Nat.le_of_ble_eq_true (Bool.and_eq_true_iff.mp hb2).1
  have b2b := Nat.le_of_ble_eq_true (Bool.and_eq_true_iff.mp hb2).2
  obtain ⟨i, hiq⟩ : ∃ i, q.toNat = i + 1 := ⟨q.toNat - 1, by omega⟩
  have hi : i < 2 := by omega
  rw [hiq] at h
  obtain ⟨hj0, hj1, h⟩ := h
  obtain ⟨jn, rfl⟩ := Int.eq_ofNat_of_zero_le hj0
  rw [Int.toNat_natCast] at h
  intro H locs cells slots lsA hH hL hS h1 h2
  have hc := cats_sum B ex t
  have hc2 : cats t ≤ 8 := by unfold cats at b1; unfold cats at b1; omega
  have hlen := lens_lt i hi
  have hjl : jn < lens.getD i 0 := by rw [← hlen.2.1]; omega
  obtain ⟨-, -, g3, g4, g5, g6⟩ := chB_255 i hi jn hjl
  have hh := hk _ _ _ _ _ _ _ h H locs cells slots lsA hH hL (SQ.cons (show rngv 0 ((strB (i + 1)).getD jn 0) from ⟨by omega, by omega⟩) hS.tl.tl) h1 h2
  rw [map_cv_cons, map_cv_cons, show cv B ex (4, q) = .ref (ex q.toNat) from rfl, hiq]
  refine jcallV (na := 1) (As := [.int (Int32.ofNat jn)]) (rest := t.map (cv B ex)) (j_charAt hi hjl) hi rfl rfl hx hb hml hown hts hEX hBs hH.2.1 (by rw [hH.2.2.1]; omega) hL.1.1 (by decide) (by omega) (by omega) (by omega) (by omega) (wdq_mem hl) (wdq_mem (q := 124) (by decide +kernel)) (wdq_mem (q := 280) (by decide +kernel)) (by decide +kernel) rfl (wdq_mem (q := 278) (by decide +kernel)) (wdq_mem (q := 279) (by decide +kernel)) (Nat.le_trans hc hc2) hdg ?_
  rw [g3]
  exact hh
theorem sd_strI (hx : p.tables.exec = Jvm.exec) (hb : c.code = cc) (hK : va_K D vwCl (TYS cA) s) (hts : ∀ w ∈ TBg, w.before args s = true) {own : String} (hown : s.vm.findClass own = some mm.cls) (hEX : EX B ex adV s s.heap) (hBs : B ≤ s.heap.size) (hfr : 6 ≤ Rm.frames) (hlo : 360 ≤ Rm.locals) (hRc : mc ≤ Rm.cells) (hRs : ms ≤ Rm.slots) (hml : c.maxLocals = nL) {index : Nat} {r : List Nat} (hl : strIB own index r = true) (hdg : decode cc pc = .ok (.invokevirtual index, 3)) (hk : ∀ ls st sh R M cb sb, k ls st sh R M cb sb → WG p l e Rm s mm args below meth c Qw B cA ex D nL mc ms (pc + 3) ls st sh R M cb sb) (h0 : bud (Nat.ble (cats st) 8) (pI st fun c t => pE t fun q t => bud (Nat.ble 1 q.toNat && Nat.ble q.toNat 2) (k ls (vi (idxOf c (strB q.toNat) 0) :: t) sh R M cb sb))) : WG p l e Rm s mm args below meth c Qw B cA ex D nL mc ms pc ls st sh R M cb sb := by
  obtain ⟨hb1, h1'⟩ := bud_inv h0
  have b1 := Nat.le_of_ble_eq_true hb1
  obtain ⟨j, t1, rfl, h2'⟩ := pI_inv h1'
  obtain ⟨q, t, rfl, h3'⟩ := pE_inv h2'
  obtain ⟨hb2, h⟩ := bud_inv h3'
  have b2a := Nat.le_of_ble_eq_true (Bool.and_eq_true_iff.mp hb2).1
  have b2b := Nat.le_of_ble_eq_true (Bool.and_eq_true_iff.mp hb2).2
  obtain ⟨i, hiq⟩ : ∃ i, q.toNat = i + 1 := ⟨q.toNat - 1, by omega⟩
  have hi : i < 2 := by omega
  rw [hiq] at h
  intro H locs cells slots lsA hH hL hS h1 h2
  have hc := cats_sum B ex t
  have hc2 : cats t ≤ 8 := by unfold cats at b1; unfold cats at b1; omega
  have hlen := lens_lt i hi
  have hjr : rngv 0 j := hS.hd
  obtain ⟨r1, r2⟩ := idxOf_rng j (strB (i + 1)) 0 (by omega)
  have hh := hk _ _ _ _ _ _ _ h H locs cells slots lsA hH hL (SQ.cons (show rngv 0 (idxOf j (strB (i + 1)) 0) from ⟨by omega, by omega⟩) hS.tl.tl) h1 h2
  rw [map_cv_cons, map_cv_cons, show cv B ex (4, q) = .ref (ex q.toNat) from rfl, hiq]
  refine jcallV (na := 1) (As := [.int (Int32.ofInt j)]) (rest := t.map (cv B ex)) (j_indexOf hi) hi rfl rfl hx hb hml hown hts hEX hBs hH.2.1 (by rw [hH.2.2.1]; omega) hL.1.1 (by decide) (by omega) (by omega) (by omega) (by omega) (wdq_mem hl) (wdq_mem (q := 124) (by decide +kernel)) (wdq_mem (q := 733) (by decide +kernel)) (by decide +kernel) rfl (wdq_mem (q := 731) (by decide +kernel)) (wdq_mem (q := 732) (by decide +kernel)) (Nat.le_trans hc hc2) hdg ?_
  rw [ixJ_eq hi hjr]
  exact hh
theorem sd_aastore (hx : p.tables.exec = Jvm.exec) (hb : c.code = cc) (hK : va_K D vwCl (TYS cA) s) (hdg : decode cc pc = .ok (.aastore, 1)) (hk : ∀ ls st sh R M cb sb, k ls st sh R M cb sb → WG p l e Rm s mm args below meth c Qw B cA ex D nL mc ms (pc + 1) ls st sh R M cb sb) (h0 : pR st fun v t => pI t fun j t => pR t fun a t => aok sh 104 a j (ook sh 8 v (k ls t sh (stm R a j v) M cb sb))) : WG p l e Rm s mm args below meth c Qw B cA ex D nL mc ms pc ls st sh R M cb sb := by
  obtain ⟨v, t1, rfl, y1⟩ := pR_inv h0
  obtain ⟨j, t2, rfl, y2⟩ := pI_inv y1
  obtain ⟨a, t, rfl, y3⟩ := pR_inv y2
  obtain ⟨hk0, hj0, hj1, y4⟩ := aok_inv y3
  obtain ⟨hk1, h⟩ := ook_inv y4
  obtain ⟨n, rfl, hn, hsk⟩ := shk_inv (sh := sh) (a := a) (by rw [hk0]; decide)
  obtain ⟨nv, rfl, hnv, hskv⟩ := shk_inv (sh := sh) (a := v) (by rw [hk1]; decide)
  rw [hsk] at hk0 hj1
  rw [hskv] at hk1
  intro H locs cells slots lsA hH hL hS h1 h2
  have hP := hH.1
  have hg := wo_get (B := B) (cA := cA) (R := R) (M := M) hn
  rw [hk0] at hg
  have hgv := wo_get (B := B) (cA := cA) (R := R) (M := M) hnv
  rw [hk1, el_obj (by decide)] at hgv
  have hjr : rngv 0 j := hS.tl.hd
  have hvp := in32 hjr hj0 hj1
  have hcl := clamp32 hjr hj0
  have h0' := lt0_32 hjr hj0
  obtain ⟨jn, rfl⟩ := Int.eq_ofNat_of_zero_le hj0
  rw [Int.toNat_natCast] at hcl
  have e0 : ∀ q : Nat, cv B ex (2, (q : Int)) = .ref (B + q) := fun q => by
    show rv B (q : Int) = _
    unfold rv
    rw [if_neg (by omega), Int.toNat_natCast]
  simp only [map_cv_cons, e0]
  have hclR : vwCl[8]? = some (RX8, TX8, 11) := rfl
  obtain ⟨r', hr', cellV, g1, g2, g3, -⟩ := hP nv _ hgv
  have hcls := (hK.1 8 _ hclR).2
  obtain ⟨kA, comp, k1, k2, k3, -⟩ := (hK.2 4 _ rfl).2
  have hcomp : comp = D.1 8 := Option.some.inj (k3.symm.trans hcls.1)
  subst hcomp
  obtain ⟨kC, hkC, -⟩ := hcls.2
  refine W.aast hx hb (hP n _ hg) (fun q h => by cases h) (fun h => by cases h) k1 k2 rfl hkC ⟨h0', by show _ < (arrV _ _ _).slots.size; rw [arrV_size, hcl]; show jn < (sk sh n).2; omega⟩ g1 (fun q h => by rw [g3] at h; cases h) (by rw [g2]; exact hkC) (by rw [g2]; exact va_assign hcls) rfl rfl hdg fun H1 e1 z oq => ?_
  refine hk _ _ _ _ _ _ _ h H1 _ cells slots lsA (hH.upd hn ?_ z oq (fun q hq => st_ne (by omega)) (fun _ _ => rfl) (hH.2.2.2.str (by omega))) hL hS.tl.tl.tl h1 h2
  rw [hk0]
  show H1[B + n]? = some (vp_cell _ _)
  rw [e1]
  show some ((vp_cell (cA 4) ((sk sh n).2, .inr (.inr (.inr (.inr (fun j => ro B (R n j))))))).setSlot _ _) = _
  rw [vp_cell_q, vp_cell_q, arrV_store, hcl]
  refine congrArg some (congrArg (arrV _ _) ?_)
  funext q
  rw [st_at]
  unfold updV
  by_cases hq : q = jn
  · subst hq
    rw [if_pos rfl, if_pos rfl]
    unfold ro
    rw [if_neg (by omega), Int.toNat_natCast]
    rfl
  · rw [if_neg hq, if_neg (by omega)]
end
/-- an instruction's place in the list of its method -/
def tpc (code : List INS) (t : Nat) : Nat := match code[t]? with
  | some e => e.2.1
  | none => 0
def jok (code : List INS) (pc : Nat) (off : Int) (t : Nat) : Bool := decide ((pc : Int) + off = (tpc code t : Int)) && decide (t < code.length)
def tgB (t ft : Nat) : Bool := match t with
  | 2 => Nat.beq ft 2
  | 1 => Nat.beq ft 1
  | _ => Nat.beq ft 0
def ptB (t : Nat) (ty : FieldType) : Bool := match t, ty with
  | 2, .object _ => true
  | 2, .array _ => true
  | 1, .long => true
  | 5, .boolean => true
  | 0, .int => true
  | _, _ => false
def getB (own : String) (k : Nat) (r : List Nat) : Bool := match vwCl[pick r 0]? with
  | some q => decide (pick r 0 < 13) && decide (pick r 1 < q.2.2) && tgB (pick r 2) (ftag (pick r 0) (pick r 1)) && wdq (pick r 3) (.fieldLink own k (q.2.1 (pick r 1)).1 (q.2.1 (pick r 1)).2.1 (q.2.1 (pick r 1)).2.2.1)
  | none => false
def putB (own nm : String) (k : Nat) (r : List Nat) : Bool := match vwCl[pick r 0]? with
  | some q => decide (pick r 0 < 13) && decide (pick r 1 < q.2.2) && ptB (pick r 2) (tyF (pick r 0) (pick r 1)) && wdq (pick r 3) (.fieldLink own k (q.2.1 (pick r 1)).1 (q.2.1 (pick r 1)).2.1 (q.2.1 (pick r 1)).2.2.1) && (decide ((q.2.1 (pick r 1)).2.2.2 = false) || (decide (nm = "<init>") && decide ((q.2.1 (pick r 1)).1 = own)))
  | none => false
def newB (own : String) (k : Nat) (r : List Nat) : Bool := match vwCl[pick r 0]? with
  | some q => decide (pick r 0 < 13) && decide (pick r 1 = q.2.2) && wdq (pick r 2) (.classLink own k q.1) && wdq (pick r 3) (.instantiable q.1 q.2.2) && wdq (pick r 4) (.initialized q.1)
  | none => false
def tswB (code : List INS) (pc : Nat) : List Int → List Nat → Bool
  | [], [] => true
  | off :: os, t :: r => jok code pc off t && tswB code pc os r
  | _, _ => false
def invB (own : String) (st : Nat) (k : Nat) (r : List Nat) : Bool := match pick r 0 with
  | 0 => Nat.beq st 0 && callB own k r && wdq (pick r 8) (.static (mY (pick r 1)))
  | 1 => Nat.beq st 1 && callB own k r && cvB r
  | 2 => Nat.beq st 2 && callB own k r && ciB r
  | 3 => Nat.beq st 0 && wdq (pick r 7) (.methodLink own k Lib.Math.max.name) && wdq (pick r 8) (.static Lib.Math.max.name) && wdq (pick r 10) (.initialized "java/lang/Math") && wdq (pick r 11) (.code Lib.Math.max.name Lib.Math.max.code 2 (some .int))
  | 4 => Nat.beq st 0 && wdq (pick r 7) (.methodLink own k Lib.Math.min.name) && wdq (pick r 8) (.static Lib.Math.min.name) && wdq (pick r 10) (.initialized "java/lang/Math") && wdq (pick r 11) (.code Lib.Math.min.name Lib.Math.min.code 2 (some .int))
  | 5 => Nat.beq st 0 && wdq (pick r 7) (.methodLink own k arraycopyName) && wdq (pick r 8) (.static arraycopyName) && wdq (pick r 9) (.native arraycopyName) && wdq (pick r 10) (.initialized "java/lang/System")
  | 6 => Nat.beq st 1 && strLB own k r
  | 7 => Nat.beq st 1 && strCB own k r
  | 8 => Nat.beq st 1 && strIB own k r
  | 9 => Nat.beq st 2 && wdq (pick r 7) (.methodLink own k Lib.objectInit) && wdq (pick r 8) (.instanceMethod Lib.objectInit) && wdq (pick r 11) (.code Lib.objectInit ⟨#[0xb1]⟩ 1 none)
  | _ => false
/-- a row's instruction is linked as its list says -/
def lkB (m pc : Nat) (i : Jvm.ClassFile.Instr) (len : Nat) (r : List Nat) : Bool := match i with
  | .iconst n => decide (len = 1 ∧ -2147483648 ≤ n ∧ n < 2147483648)
  | .bipush n => decide (len = 2 ∧ (Int8.ofInt n).toInt32 = Int32.ofInt n ∧ -2147483648 ≤ n ∧ n < 2147483648)
  | .sipush n => decide (len = 3 ∧ (Int16.ofInt n).toInt32 = Int32.ofInt n ∧ -2147483648 ≤ n ∧ n < 2147483648)
  | .iload _ => decide (len = 2)
  | .lload _ => decide (len = 2)
  | .aload _ => decide (len = 2)
  | .istore n => decide (len = 2 ∧ n < mL m)
  | .astore n => decide (len = 2 ∧ n < mL m)
  | .lstore n => decide (len = 2 ∧ n + 1 < mL m)
  | .istore_n n => decide (len = 1 ∧ n.val < mL m)
  | .astore_n n => decide (len = 1 ∧ n.val < mL m)
  | .lstore_n n => decide (len = 1 ∧ n.val + 1 < mL m)
  | .iinc _ _ => decide (len = 3)
  | .ifCond _ off => decide (len = 3) && jok (mK m) pc off (pick r 0)
  | .if_icmp _ off => decide (len = 3) && jok (mK m) pc off (pick r 0)
  | .goto off => decide (len = 3) && jok (mK m) pc off (pick r 0)
  | .tableswitch d lo hi offs => decide (-2147483648 ≤ lo ∧ lo < 2147483648) && decide (hi + 1 = lo + (r.tail.length : Int)) && jok (mK m) pc d (pick r 0) && tswB (mK m) pc offs.toList r.tail
  | .lookupswitch d ps => jok (mK m) pc d (pick r 0) && ((ps.toList.zip (ps.toList.drop 1)).all (fun (a, next) => a.1 < next.1)) && tswB (mK m) pc (ps.toList.map (·.2)) r.tail
  | .getfield k => decide (len = 3) && getB (mO m) k r
  | .putfield k => decide (len = 3) && putB (mO m) (mY m).name k r
  | .new k => decide (len = 3) && newB (mO m) k r
  | .newarray t => decide (len = 2) && (match t with
    | .int => decide (pick r 0 = 100) && wdq (pick r 1) (.arrayClass .int)
    | .long => decide (pick r 0 = 101) && wdq (pick r 1) (.arrayClass .long)
    | .byte => decide (pick r 0 = 102) && wdq (pick r 1) (.arrayClass .byte)
    | .boolean => decide (pick r 0 = 103) && wdq (pick r 1) (.arrayClass .boolean)
    | _ => false)
  | .anewarray k => decide (len = 3) && wdq (pick r 1) (.classLink (mO m) k "GeeseSums$Sky")
  | .multianewarray k dm => decide (len = 4 ∧ dm = 2) && wdq (pick r 1) (.classLink (mO m) k "[[I") && wdq (pick r 3) (.arrayClass .int)
  | .baload => decide (len = 1) && (decide (pick r 0 = 102) || decide (pick r 0 = 103))
  | .bastore => decide (len = 1) && (decide (pick r 0 = 102) || decide (pick r 0 = 103))
  | .aaload => decide (len = 1) && (decide (pick r 0 = 104) || decide (pick r 0 = 105))
  | .ldc k => decide (len = 2) && (match r with
    | [v, q] => decide (v < 2147483648) && wdq q (.constant (mO m) k (Int32.ofNat v))
    | [v, _, _] => decide (mO m = "GeeseSums$Tape" ∧ ((v = 1 ∧ k = 26) ∨ (v = 2 ∧ k = 75)))
    | _ => false)
  | .ldc_w k => decide (len = 3) && decide (pick r 0 < 2147483648) && wdq (pick r 1) (.constant (mO m) k (Int32.ofNat (pick r 0)))
  | .ldc2_w k => decide (len = 3) && decide (pick r 0 < 9223372036854775808) && wdq (pick r 1) (.constantLong (mO m) k (Int64.ofNat (pick r 0)))
  | .invokestatic k => decide (len = 3) && invB (mO m) 0 k r
  | .invokevirtual k => decide (len = 3) && invB (mO m) 1 k r
  | .invokespecial k => decide (len = 3) && invB (mO m) 2 k r
  | .ireturn => decide (len = 1) && (match mR m with
    | some .boolean => decide (pick r 0 = 5)
    | some .int => decide (pick r 0 = 0)
    | _ => false)
  | .lreturn => decide (len = 1) && decide (mR m = some .long)
  | .areturn => decide (len = 1) && (match mR m with
    | some (.object _) => true
    | some (.array _) => true
    | _ => false)
  | .return_ => decide (len = 1) && decide (mR m = none)
  | _ => decide (len = 1)
def Cx (d m : Nat) (B : Nat) (cA : Nat → ClassId) (ex adV : Nat → Nat) (D : va_G) (X : Int × (Int → Int)) (p : Program) (s : State) (mm : MethodId) (args : Array Value) (meth : Method) (c : Code) (Rm : Room) (mc ms : Nat) : Prop := p.tables.exec = Jvm.exec ∧ c.code = mC m ∧ c.maxLocals = mL m ∧ s.vm.findClass (mO m) = some mm.cls ∧ (∀ w ∈ TBg, w.before args s = true) ∧ va_K D vwCl (TYS cA) s ∧ EX B ex adV s s.heap ∧ XS B ex X s ∧ B ≤ s.heap.size ∧ d + 6 ≤ Rm.frames ∧ 60 * (d + 6) ≤ Rm.locals ∧ mc ≤ Rm.cells ∧ ms ≤ Rm.slots ∧ meth.name = (mY m).name
def FinH (m : Nat) (B : Nat) (cA : Nat → ClassId) (D : va_G) (p : Program) (l : Launch) (e : Env) (Rm : Room) (s : State) (mm : MethodId) (args : Array Value) (below : List Frame) (meth : Method) (c : Code) (Qw : State → Prop) (mc ms : Nat) (Q : RES) : Prop := ∀ (pc : Nat) (H : Heap) (locs : List Loc) (cells slots : Nat) (lsA : Array Slot) (x : Int) (sh : SHP) (R M : MEM), HR B cA D s H locs sh R M → cells ≤ mc → slots ≤ ms → Q x sh R M → rok (mR m) x → decode (mC m) pc = .ok (retI (mR m), 1) → W p l e Rm s mm args below meth c H locs cells slots Qw (F0 mm pc lsA (rvl B (mR m) x).toList)
theorem tswB_get {code : List INS} {pc : Nat} : ∀ (os : List Int) (r : List Nat), tswB code pc os r = true → os.length = r.length ∧ ∀ (j t : Nat), r[j]? = some t → t < code.length ∧ ∃ off, os[j]? = some off ∧ (pc : Int) + off = (tpc code t : Int)
  | [], [], _ => ⟨rfl, fun j t h => by simp at h⟩
  | off :: os, t :: r, h => by
    unfold tswB at h
    rw [Bool.and_eq_true] at h
    obtain ⟨g1, g2⟩ := tswB_get os r h.2
    have h1 := h.1
    unfold jok at h1
    simp only [Bool.and_eq_true, decide_eq_true_eq] at h1
    refine ⟨by simp [g1], fun j t' hj => ?_⟩
    cases j with
    | zero =>
      cases hj
      exact ⟨h1.2, off, rfl, h1.1⟩
    | succ j => exact g2 j t' hj
  | [], _ :: _, h => by cases h
  | _ :: _, [], h => by cases h
theorem jok_inv {code : List INS} {pc t : Nat} {off : Int} (h : jok code pc off t = true) : (pc : Int) + off = (tpc code t : Int) ∧ t < code.length := by
  unfold jok at h
  simpa only [Bool.and_eq_true, decide_eq_true_eq] using h
section
variable {p : Program} {l : Launch} {e : Env} {Rm : Room} {s : State} {mm : MethodId} {args : Array Value} {below : List Frame} {meth : Method} {c : Code} {Qw : State → Prop}
variable {B : Nat} {cA : Nat → ClassId} {ex adV : Nat → Nat} {D : va_G} {mc ms d m : Nat} {pc : Nat} {k : NXT} {J : Nat → NXT} {Q : RES} {ls st : List AV} {sh : SHP} {R M : MEM} {cb sb : Nat} {X : Int × (Int → Int)}
set_option maxHeartbeats 4000000 in
theorem row_sound (hCx : Cx d m B cA ex adV D X p s mm args meth c Rm mc ms) (hF : FinH m B cA D p l e Rm s mm args below meth c Qw mc ms Q) {i : Jvm.ClassFile.Instr} {len : Nat} {r : List Nat} (hdg : decode (mC m) pc = .ok (i, len)) (hl : lkB m pc i len r = true) (hk : ∀ ls st sh R M cb sb, k ls st sh R M cb sb → WG p l e Rm s mm args below meth c Qw B cA ex D (mL m) mc ms (pc + len) ls st sh R M cb sb) (hJ : ∀ t ls st sh R M cb sb, t < (mK m).length → J t ls st sh R M cb sb → WG p l e Rm s mm args below meth c Qw B cA ex D (mL m) mc ms (tpc (mK m) t) ls st sh R M cb sb) (h : gx_stp (Cd d) X i r ls st sh R M cb sb k J Q) : WG p l e Rm s mm args below meth c Qw B cA ex D (mL m) mc ms pc ls st sh R M cb sb := by
  obtain ⟨hx, hb, hml, hown, hts, hK, hEX, hXS, hBs, hfr, hlo, hRc, hRs, hnm⟩ := hCx
  cases i with
  | iconst n =>
    simp only [lkB, decide_eq_true_eq] at hl
    obtain ⟨rfl, hl⟩ := hl
    exact sd_iconst hx hb hdg rfl hl hk h
  | bipush n =>
    simp only [lkB, decide_eq_true_eq] at hl
    obtain ⟨rfl, hl⟩ := hl
    exact sd_bipush hx hb hdg hl.1 hl.2 hk h
  | sipush n =>
    simp only [lkB, decide_eq_true_eq] at hl
    obtain ⟨rfl, hl⟩ := hl
    exact sd_sipush hx hb hdg hl.1 hl.2 hk h
  | lconst n =>
    simp only [lkB, decide_eq_true_eq] at hl
    subst hl
    exact sd_lconst hx hb hdg hk h
  | iload_n n =>
    simp only [lkB, decide_eq_true_eq] at hl
    subst hl
    exact sd_iload_n hx hb hdg hk h
  | lload_n n =>
    simp only [lkB, decide_eq_true_eq] at hl
    subst hl
    exact sd_lload_n hx hb hdg hk h
  | aload_n n =>
    simp only [lkB, decide_eq_true_eq] at hl
    subst hl
    exact sd_aload_n hx hb hdg hk h
  | iadd =>
    simp only [lkB, decide_eq_true_eq] at hl
    subst hl
    exact sd_iadd hx hb hdg hk h
  | isub =>
    simp only [lkB, decide_eq_true_eq] at hl
    subst hl
    exact sd_isub hx hb hdg hk h
  | imul =>
    simp only [lkB, decide_eq_true_eq] at hl
    subst hl
    exact sd_imul hx hb hdg hk h
  | iand =>
    simp only [lkB, decide_eq_true_eq] at hl
    subst hl
    exact sd_iand hx hb hdg hk h
  | ior =>
    simp only [lkB, decide_eq_true_eq] at hl
    subst hl
    exact sd_ior hx hb hdg hk h
  | ishl =>
    simp only [lkB, decide_eq_true_eq] at hl
    subst hl
    exact sd_ishl hx hb hdg hk h
  | ishr =>
    simp only [lkB, decide_eq_true_eq] at hl
    subst hl
    exact sd_ishr hx hb hdg hk h
  | idiv =>
    simp only [lkB, decide_eq_true_eq] at hl
    subst hl
    exact sd_idiv hx hb hdg hk h
  | irem =>
    simp only [lkB, decide_eq_true_eq] at hl
    subst hl
    exact sd_irem hx hb hdg hk h
  | ladd =>
    simp only [lkB, decide_eq_true_eq] at hl
    subst hl
    exact sd_ladd hx hb hdg hk h
  | lmul =>
    simp only [lkB, decide_eq_true_eq] at hl
    subst hl
    exact sd_lmul hx hb hdg hk h
  | lor =>
    simp only [lkB, decide_eq_true_eq] at hl
    subst hl
    exact sd_lor hx hb hdg hk h
  | lshl =>
    simp only [lkB, decide_eq_true_eq] at hl
    subst hl
    exact sd_lshl hx hb hdg hk h
  | lcmp =>
    simp only [lkB, decide_eq_true_eq] at hl
    subst hl
    exact sd_lcmp hx hb hdg hk h
  | i2l =>
    simp only [lkB, decide_eq_true_eq] at hl
    subst hl
    exact sd_i2l hx hb hdg hk h
  | l2i =>
    simp only [lkB, decide_eq_true_eq] at hl
    subst hl
    exact sd_l2i hx hb hdg hk h
  | i2b =>
    simp only [lkB, decide_eq_true_eq] at hl
    subst hl
    exact sd_i2b hx hb hdg hk h
  | i2c =>
    simp only [lkB, decide_eq_true_eq] at hl
    subst hl
    exact sd_i2c hx hb hdg hk h
  | iload n =>
    simp only [lkB, decide_eq_true_eq] at hl
    subst hl
    exact sd_iload hx hb hdg hk h
  | lload n =>
    simp only [lkB, decide_eq_true_eq] at hl
    subst hl
    exact sd_lload hx hb hdg hk h
  | aload n =>
    simp only [lkB, decide_eq_true_eq] at hl
    subst hl
    exact sd_aload hx hb hdg hk h
  | iinc n q =>
    simp only [lkB, decide_eq_true_eq] at hl
    subst hl
    exact sd_iinc hx hb hdg hk h
  | istore n =>
    simp only [lkB, decide_eq_true_eq] at hl
    obtain ⟨rfl, hl⟩ := hl
    exact sd_istore hx hb hdg hl hk h
  | astore n =>
    simp only [lkB, decide_eq_true_eq] at hl
    obtain ⟨rfl, hl⟩ := hl
    exact sd_astore hx hb hdg hl hk h
  | lstore n =>
    simp only [lkB, decide_eq_true_eq] at hl
    obtain ⟨rfl, hl⟩ := hl
    exact sd_lstore hx hb hdg hl hk h
  | istore_n n =>
    simp only [lkB, decide_eq_true_eq] at hl
    obtain ⟨rfl, hl⟩ := hl
    exact sd_istore_n hx hb hdg hl hk h
  | astore_n n =>
    simp only [lkB, decide_eq_true_eq] at hl
    obtain ⟨rfl, hl⟩ := hl
    exact sd_astore_n hx hb hdg hl hk h
  | lstore_n n =>
    simp only [lkB, decide_eq_true_eq] at hl
    obtain ⟨rfl, hl⟩ := hl
    exact sd_lstore_n hx hb hdg hl hk h
  | dup =>
    simp only [lkB, decide_eq_true_eq] at hl
    subst hl
    match hst : st, h with
    | v :: t, h => exact sd_dup hx hb rfl hdg hk h
  | dup2 =>
    simp only [lkB, decide_eq_true_eq] at hl
    subst hl
    match hst : st, h with
    | (1, x) :: t, h => exact sd_dup2L hx hb rfl hdg hk h
    | (0, x) :: u :: t, h => exact sd_dup2 hx hb rfl hdg hk h
    | (n + 2, x) :: u :: t, h => exact sd_dup2 hx hb rfl hdg hk h
  | ifCond cnd off =>
    simp only [lkB, Bool.and_eq_true, decide_eq_true_eq] at hl
    obtain ⟨rfl, hl⟩ := hl
    obtain ⟨j1, j2⟩ := jok_inv hl
    cases cnd with
    | eq => exact sd_if_eq hx hb hdg j1 hk (fun _ _ _ _ _ _ _ z => hJ _ _ _ _ _ _ _ _ j2 z) h
    | ne => exact sd_if_ne hx hb hdg j1 hk (fun _ _ _ _ _ _ _ z => hJ _ _ _ _ _ _ _ _ j2 z) h
    | lt => exact sd_if_lt hx hb hdg j1 hk (fun _ _ _ _ _ _ _ z => hJ _ _ _ _ _ _ _ _ j2 z) h
    | ge => exact sd_if_ge hx hb hdg j1 hk (fun _ _ _ _ _ _ _ z => hJ _ _ _ _ _ _ _ _ j2 z) h
    | gt => exact sd_if_gt hx hb hdg j1 hk (fun _ _ _ _ _ _ _ z => hJ _ _ _ _ _ _ _ _ j2 z) h
    | le => exact sd_if_le hx hb hdg j1 hk (fun _ _ _ _ _ _ _ z => hJ _ _ _ _ _ _ _ _ j2 z) h
  | if_icmp cnd off =>
    simp only [lkB, Bool.and_eq_true, decide_eq_true_eq] at hl
    obtain ⟨rfl, hl⟩ := hl
    obtain ⟨j1, j2⟩ := jok_inv hl
    cases cnd with
    | eq => exact sd_icmp_eq hx hb hdg j1 hk (fun _ _ _ _ _ _ _ z => hJ _ _ _ _ _ _ _ _ j2 z) h
    | ne => exact sd_icmp_ne hx hb hdg j1 hk (fun _ _ _ _ _ _ _ z => hJ _ _ _ _ _ _ _ _ j2 z) h
    | lt => exact sd_icmp_lt hx hb hdg j1 hk (fun _ _ _ _ _ _ _ z => hJ _ _ _ _ _ _ _ _ j2 z) h
    | ge => exact sd_icmp_ge hx hb hdg j1 hk (fun _ _ _ _ _ _ _ z => hJ _ _ _ _ _ _ _ _ j2 z) h
    | gt => exact sd_icmp_gt hx hb hdg j1 hk (fun _ _ _ _ _ _ _ z => hJ _ _ _ _ _ _ _ _ j2 z) h
    | le => exact sd_icmp_le hx hb hdg j1 hk (fun _ _ _ _ _ _ _ z => hJ _ _ _ _ _ _ _ _ j2 z) h
  | goto off =>
    simp only [lkB, Bool.and_eq_true, decide_eq_true_eq] at hl
    obtain ⟨rfl, hl⟩ := hl
    obtain ⟨j1, j2⟩ := jok_inv hl
    exact sd_goto hx hb hdg j1 (fun _ _ _ _ _ _ _ z => hJ _ _ _ _ _ _ _ _ j2 z) h
  | tableswitch q lo hi offs =>
    simp only [lkB, Bool.and_eq_true, decide_eq_true_eq] at hl
    obtain ⟨⟨⟨g1, g2⟩, g3⟩, g4⟩ := hl
    obtain ⟨j1, j2⟩ := jok_inv g3
    obtain ⟨t1, t2⟩ := tswB_get _ _ g4
    refine sd_tsw (tp := tpc (mK m)) (d := pick r 0) (r := r.tail) (J := fun t ls st sh R M cb sb => t < (mK m).length ∧ J t ls st sh R M cb sb) hx hb hdg g1 g2 j1 (fun j t hj => ?_) (fun t ls st sh R M cb sb z => hJ t _ _ _ _ _ _ _ z.1 z.2) ?_
    · obtain ⟨-, off, e1, e2⟩ := t2 j t hj
      exact ⟨off, by rw [← Array.getElem?_toList]; exact e1, e2⟩
    · obtain ⟨x, t, e1, h⟩ := pI_inv h
      subst e1
      exact tsw_imp (fun z => ⟨j2, z⟩) _ _ (fun t' ht z => ⟨(t2 _ t' (List.getElem?_of_mem ht).choose_spec).1, z⟩) h
  | lookupswitch q ps =>
    simp only [lkB, Bool.and_eq_true, decide_eq_true_eq] at hl
    obtain ⟨⟨g3, g2⟩, g4⟩ := hl
    obtain ⟨j1, j2⟩ := jok_inv g3
    obtain ⟨t1, t2⟩ := tswB_get _ _ g4
    refine sd_lsw (tp := tpc (mK m)) (d := pick r 0) (r := r.tail) (J := fun t ls st sh R M cb sb => t < (mK m).length ∧ J t ls st sh R M cb sb) hx hb hdg g2 (by rw [← t1, List.length_map]) j1 (fun i t q hi hj => ?_) (fun t ls st sh R M cb sb z => hJ t _ _ _ _ _ _ _ z.1 z.2) ?_
    · obtain ⟨-, off, e1, e2⟩ := t2 i t hj
      rw [List.getElem?_map, hi] at e1
      cases e1
      exact e2
    · obtain ⟨x, t, e1, h⟩ := pI_inv h
      subst e1
      exact lsw_imp (fun z => ⟨j2, z⟩) _ _ (fun t' ht z => ⟨(t2 _ t' (List.getElem?_of_mem ht).choose_spec).1, z⟩) h
  | ireturn =>
    simp only [lkB, Bool.and_eq_true, decide_eq_true_eq] at hl
    obtain ⟨rfl, hl⟩ := hl
    match hst : st, h with
    | [(0, x)], h =>
      intro H locs cells slots lsA hH hL hS h1 h2
      have hr : rngv 0 x := hS.hd
      have key : ∀ ret, mR m = ret → (ret = some .boolean ∨ ret = some .int) → Q x sh R M ∧ rok ret x → W p l e Rm s mm args below meth c H locs cells slots Qw (F0 mm pc lsA [.int (Int32.ofInt x)]) := by
        intro ret e1 e2 e3
        have := hF pc H locs cells slots lsA x sh R M hH (by omega) (by omega) e3.1 (by rw [e1]; exact e3.2) (by rw [e1]; rcases e2 with rfl | rfl <;> exact hdg)
        rw [e1] at this
        rcases e2 with rfl | rfl <;> exact this
      cases hm : mR m with
      | none => rw [hm] at hl; cases hl
      | some ty =>
        rw [hm] at hl
        cases ty with
        | boolean =>
          have e5 : pick r 0 = 5 := by simpa using hl
          have h' : bq x (Q x sh R M) := by have h9 := h; simp only [gx_stp, e5] at h9; exact h9
          obtain ⟨b1, b2⟩ := bq_inv h'
          exact key _ hm (Or.inl rfl) ⟨b2, b1⟩
        | int =>
          have e5 : pick r 0 = 0 := by simpa using hl
          have h' : Q x sh R M := by have h9 := h; simp only [gx_stp, e5] at h9; exact h9
          exact key _ hm (Or.inr rfl) ⟨h', hr⟩
        | _ => simp at hl
  | lreturn =>
    simp only [lkB, Bool.and_eq_true, decide_eq_true_eq] at hl
    obtain ⟨rfl, hl⟩ := hl
    match hst : st, h with
    | [(1, x)], h =>
      intro H locs cells slots lsA hH hL hS h1 h2
      have := hF pc H locs cells slots lsA x sh R M hH (by omega) (by omega) h (by rw [hl]; exact hS.hd) (by rw [hl]; exact hdg)
      rw [hl] at this
      exact this
  | areturn =>
    simp only [lkB, Bool.and_eq_true, decide_eq_true_eq] at hl
    obtain ⟨rfl, hl⟩ := hl
    match hst : st, h with
    | [(2, x)], h =>
      intro H locs cells slots lsA hH hL hS h1 h2
      cases hm : mR m with
      | none => rw [hm] at hl; cases hl
      | some ty =>
        rw [hm] at hl
        cases ty with
        | object nm =>
          have := hF pc H locs cells slots lsA x sh R M hH (by omega) (by omega) h (by rw [hm]; exact hS.hd) (by rw [hm]; exact hdg)
          rw [hm] at this
          exact this
        | array nm =>
          have := hF pc H locs cells slots lsA x sh R M hH (by omega) (by omega) h (by rw [hm]; exact hS.hd) (by rw [hm]; exact hdg)
          rw [hm] at this
          exact this
        | _ => simp at hl
  | return_ =>
    simp only [lkB, Bool.and_eq_true, decide_eq_true_eq] at hl
    obtain ⟨rfl, hl⟩ := hl
    match hst : st, h with
    | [], h =>
      intro H locs cells slots lsA hH hL hS h1 h2
      have := hF pc H locs cells slots lsA 0 sh R M hH (by omega) (by omega) h (by rw [hl]; trivial) (by rw [hl]; exact hdg)
      rw [hl] at this
      exact this
  | getfield n =>
    simp only [lkB, Bool.and_eq_true, decide_eq_true_eq] at hl
    obtain ⟨rfl, hl⟩ := hl
    unfold getB at hl
    cases hq : vwCl[pick r 0]? with
    | none => rw [hq] at hl; cases hl
    | some q =>
      obtain ⟨C, T, N⟩ := q
      rw [hq] at hl
      simp only [Bool.and_eq_true, decide_eq_true_eq] at hl
      obtain ⟨⟨⟨g1, g2⟩, g3⟩, g4⟩ := hl
      obtain ⟨f1, f2, f3, f4, f5, f6⟩ := cls_ok hq g1
      have w := hts _ (wdq_mem g4)
      unfold tgB at g3
      split at g3
      · rename_i ht
        have h9 := h
        simp only [gx_stp, ht] at h9
        exact sd_getR hx hb hK hts (by omega) hq f2 g2 f1 hown w (Nat.eq_of_beq_eq_true g3) hdg hk h9
      · rename_i ht
        have h9 := h
        simp only [gx_stp, ht] at h9
        exact sd_getL hx hb hK hts (by omega) hq f2 g2 f1 hown w (Nat.eq_of_beq_eq_true g3) hdg hk h9
      · rename_i ht1 ht2
        have h9 := h
        simp only [gx_stp] at h9
        exact sd_getI hx hb hK hts (by omega) hq f2 g2 f1 hown w (Nat.eq_of_beq_eq_true g3) hdg hk h9
  | putfield n =>
    simp only [lkB, Bool.and_eq_true, decide_eq_true_eq] at hl
    obtain ⟨rfl, hl⟩ := hl
    unfold putB at hl
    cases hq : vwCl[pick r 0]? with
    | none => rw [hq] at hl; cases hl
    | some q =>
      obtain ⟨C, T, N⟩ := q
      rw [hq] at hl
      simp only [Bool.and_eq_true, Bool.or_eq_true, decide_eq_true_eq] at hl
      obtain ⟨⟨⟨⟨g1, g2⟩, g3⟩, g4⟩, g5⟩ := hl
      obtain ⟨f1, f2, f3, f4, f5, f6⟩ := cls_ok hq g1
      have w := hts _ (wdq_mem g4)
      have hfin : (T (pick r 1)).2.2.2 = false ∨ ((T (pick r 1)).2.2.2 = true ∧ meth.name = "<init>" ∧ (T (pick r 1)).1 = mO m) := by
        cases hz : (T (pick r 1)).2.2.2 with
        | false => exact Or.inl rfl
        | true =>
          rcases g5 with g5 | g5
          · exact absurd (hz.symm.trans g5) (by decide)
          · exact Or.inr ⟨rfl, hnm.trans g5.1, g5.2⟩
      have h9 := h
      unfold ptB at g3
      split at g3
      · rename_i ht hty
        simp only [gx_stp, ht] at h9
        exact sd_putR hx hb hK hts (by omega) hq f2 g2 f1 hown w _ f3 f4 hfin (Or.inl ⟨_, hty⟩) (by rw [f6, hty]; rfl) hdg hk h9
      · rename_i ht hty
        simp only [gx_stp, ht] at h9
        exact sd_putR hx hb hK hts (by omega) hq f2 g2 f1 hown w _ f3 f4 hfin (Or.inr ⟨_, hty⟩) (by rw [f6, hty]; rfl) hdg hk h9
      · rename_i ht hty
        simp only [gx_stp, ht] at h9
        exact sd_putL hx hb hK hts (by omega) hq f2 g2 f1 hown w _ f3 f4 hfin hty (by rw [f6, hty]; rfl) hdg hk h9
      · rename_i ht hty
        simp only [gx_stp, ht] at h9
        exact sd_putZ hx hb hK hts (by omega) hq f2 g2 f1 hown w _ f3 f4 hfin hty (by rw [f6, hty]; rfl) hdg hk h9
      · rename_i ht hty
        simp only [gx_stp, ht] at h9
        exact sd_putI hx hb hK hts (by omega) hq f2 g2 f1 hown w _ f3 f4 hfin hty (by rw [f6, hty]; rfl) hdg hk h9
      · cases g3
  | new n =>
    simp only [lkB, Bool.and_eq_true, decide_eq_true_eq] at hl
    obtain ⟨rfl, hl⟩ := hl
    unfold newB at hl
    cases hq : vwCl[pick r 0]? with
    | none => rw [hq] at hl; cases hl
    | some q =>
      obtain ⟨C, T, N⟩ := q
      rw [hq] at hl
      simp only [Bool.and_eq_true, decide_eq_true_eq] at hl
      obtain ⟨⟨⟨⟨g1, g2⟩, g3⟩, g4⟩, g5⟩ := hl
      obtain ⟨f1, f2, f3, f4, f5, f6⟩ := cls_ok hq g1
      have h9 := h
      simp only [gx_stp, g2] at h9
      exact sd_new hx hb hK hts hown hRc hRs (by omega) hq f2 f1 _ f3 (fun j hj => by rw [f6]; exact okTy_dv B (f5 j hj)) (hts _ (wdq_mem g3)) (hts _ (wdq_mem g4)) (hts _ (wdq_mem g5)) hdg hk h9
  | newarray t =>
    simp only [lkB, Bool.and_eq_true, decide_eq_true_eq] at hl
    obtain ⟨rfl, hl⟩ := hl
    have h9 := h
    cases t with
    | int => simp only [Bool.and_eq_true, decide_eq_true_eq] at hl; simp only [gx_stp, hl.1] at h9; exact sd_newarray100 hx hb hK (hts _ (wdq_mem hl.2)) hRc hRs hdg hk h9
    | long => simp only [Bool.and_eq_true, decide_eq_true_eq] at hl; simp only [gx_stp, hl.1] at h9; exact sd_newarray101 hx hb hK (hts _ (wdq_mem hl.2)) hRc hRs hdg hk h9
    | byte => simp only [Bool.and_eq_true, decide_eq_true_eq] at hl; simp only [gx_stp, hl.1] at h9; exact sd_newarray102 hx hb hK (hts _ (wdq_mem hl.2)) hRc hRs hdg hk h9
    | boolean => simp only [Bool.and_eq_true, decide_eq_true_eq] at hl; simp only [gx_stp, hl.1] at h9; exact sd_newarray103 hx hb hK (hts _ (wdq_mem hl.2)) hRc hRs hdg hk h9
    | _ => cases hl
  | anewarray n =>
    simp only [lkB, Bool.and_eq_true, decide_eq_true_eq] at hl
    obtain ⟨rfl, hl⟩ := hl
    exact sd_anewarray hx hb hK hts hown hRc hRs hEX.2.2.2.2.2.1 (hts _ (wdq_mem hl)) hdg hk h
  | multianewarray n dm =>
    simp only [lkB, Bool.and_eq_true, decide_eq_true_eq] at hl
    obtain ⟨⟨⟨rfl, rfl⟩, g1⟩, g2⟩ := hl
    exact sd_multi hx hb hK hts hown hRc hRs hEX.2.2.2.2.2.2 (hts _ (wdq_mem g1)) (hts _ (wdq_mem g2)) hdg hk h
  | iaload =>
    simp only [lkB, decide_eq_true_eq] at hl
    subst hl
    obtain ⟨j, t, e1, h9⟩ := pI_inv h
    subst e1
    match t, h9 with
    | (2, a) :: t, h9 => exact sd_iaload0 hx hb hK hdg hk h9
    | (4, x) :: t, h9 => exact sd_ialoadX hx hb hXS rfl hdg hk h9
  | laload =>
    simp only [lkB, decide_eq_true_eq] at hl
    subst hl
    exact sd_laload hx hb hK hdg hk h
  | iastore =>
    simp only [lkB, decide_eq_true_eq] at hl
    subst hl
    exact sd_iastore hx hb hK hdg hk h
  | lastore =>
    simp only [lkB, decide_eq_true_eq] at hl
    subst hl
    exact sd_lastore hx hb hK hdg hk h
  | baload =>
    simp only [lkB, Bool.and_eq_true, Bool.or_eq_true, decide_eq_true_eq] at hl
    obtain ⟨rfl, hl⟩ := hl
    have h9 := h
    rcases hl with hl | hl
    · simp only [gx_stp, hl] at h9
      exact sd_baloadB hx hb hK hdg hk h9
    · simp only [gx_stp, hl] at h9
      exact sd_baloadZ hx hb hK hdg hk h9
  | bastore =>
    simp only [lkB, Bool.and_eq_true, Bool.or_eq_true, decide_eq_true_eq] at hl
    obtain ⟨rfl, hl⟩ := hl
    have h9 := h
    rcases hl with hl | hl
    · simp only [gx_stp, hl] at h9
      exact sd_bastoreB hx hb hK hdg hk h9
    · simp only [gx_stp, hl] at h9
      exact sd_bastoreZ hx hb hK hdg hk h9
  | aaload =>
    simp only [lkB, Bool.and_eq_true, Bool.or_eq_true, decide_eq_true_eq] at hl
    obtain ⟨rfl, hl⟩ := hl
    have h9 := h
    rcases hl with hl | hl
    · simp only [gx_stp, hl] at h9
      exact sd_aaload4 hx hb hK hdg hk h9
    · simp only [gx_stp, hl] at h9
      exact sd_aaload5 hx hb hK hdg hk h9
  | aastore =>
    simp only [lkB, decide_eq_true_eq] at hl
    subst hl
    exact sd_aastore hx hb hK hdg hk h
  | arraylength =>
    simp only [lkB, decide_eq_true_eq] at hl
    subst hl
    match hst : st, h with
    | (2, a) :: t, h =>
      exact sd_alen hx hb hK rfl hdg hk h
    | (4, x) :: t, h => exact sd_alenX hx hb hXS rfl hdg hk h
  | ldc n =>
    simp only [lkB, Bool.and_eq_true, decide_eq_true_eq] at hl
    obtain ⟨rfl, hl⟩ := hl
    match r, hl, h with
    | [v, q], hl, h =>
      simp only [Bool.and_eq_true, decide_eq_true_eq] at hl
      exact sd_ldc hx hb hts hown hl.1 (hts _ (wdq_mem hl.2)) hdg hk h
    | [v, a9, b9], hl, h =>
      simp only [decide_eq_true_eq] at hl
      obtain ⟨e1, ⟨rfl, rfl⟩ | ⟨rfl, rfl⟩⟩ := hl
      · exact sd_ldcS (tx := tx1) hx hb (own := "GeeseSums$Tape") (by rw [← e1]; exact hown) hEX.2.1 hdg hk h
      · exact sd_ldcS (tx := tx2) hx hb (own := "GeeseSums$Tape") (by rw [← e1]; exact hown) hEX.2.2.1 hdg hk h
  | ldc_w n =>
    simp only [lkB, Bool.and_eq_true, decide_eq_true_eq] at hl
    obtain ⟨⟨rfl, g1⟩, g2⟩ := hl
    exact sd_ldc_w hx hb hts hown g1 (hts _ (wdq_mem g2)) hdg hk h
  | ldc2_w n =>
    simp only [lkB, Bool.and_eq_true, decide_eq_true_eq] at hl
    obtain ⟨⟨rfl, g1⟩, g2⟩ := hl
    exact sd_ldc2 hx hb hts hown g1 (hts _ (wdq_mem g2)) hdg hk h
  | invokestatic n =>
    simp only [lkB, Bool.and_eq_true, decide_eq_true_eq] at hl
    obtain ⟨rfl, hl⟩ := hl
    have h9 : callp (Cd d) (pick r 0) r ls st sh R M cb sb k := h
    unfold invB at hl
    split at hl
    · rename_i hp
      rw [hp] at h9
      simp only [Bool.and_eq_true] at hl
      exact sd_callS hx hb hK hts hown hRc hRs hEX hBs hfr hlo hml hl.1.2 (hts _ (wdq_mem hl.2)) hdg hk h9
    · rename_i hp
      rw [hp] at h9
      simp [Nat.beq] at hl
    · rename_i hp
      rw [hp] at h9
      simp [Nat.beq] at hl
    · rename_i hp
      rw [hp] at h9
      simp only [Bool.and_eq_true] at hl
      exact sd_mmax hx hb hts hown (by omega) (by omega) hRc hRs (hts _ (wdq_mem hl.1.1.1.2)) (hts _ (wdq_mem hl.1.1.2)) (hts _ (wdq_mem hl.1.2)) (hts _ (wdq_mem hl.2)) hml hdg hk h9
    · rename_i hp
      rw [hp] at h9
      simp only [Bool.and_eq_true] at hl
      exact sd_mmin hx hb hts hown (by omega) (by omega) hRc hRs (hts _ (wdq_mem hl.1.1.1.2)) (hts _ (wdq_mem hl.1.1.2)) (hts _ (wdq_mem hl.1.2)) (hts _ (wdq_mem hl.2)) hml hdg hk h9
    · rename_i hp
      rw [hp] at h9
      simp only [Bool.and_eq_true] at hl
      exact sd_copy hx hb hK hts hown (by omega) (by omega) (hts _ (wdq_mem hl.1.1.1.2)) (hts _ (wdq_mem hl.1.2)) (hts _ (wdq_mem hl.1.1.2)) (hts _ (wdq_mem hl.2)) hml hdg hk h9
    · rename_i hp
      rw [hp] at h9
      simp [Nat.beq] at hl
    · rename_i hp
      rw [hp] at h9
      simp [Nat.beq] at hl
    · rename_i hp
      rw [hp] at h9
      simp [Nat.beq] at hl
    · rename_i hp
      rw [hp] at h9
      simp [Nat.beq] at hl
    · cases hl
  | invokevirtual n =>
    simp only [lkB, Bool.and_eq_true, decide_eq_true_eq] at hl
    obtain ⟨rfl, hl⟩ := hl
    have h9 : callp (Cd d) (pick r 0) r ls st sh R M cb sb k := h
    unfold invB at hl
    split at hl
    · rename_i hp
      rw [hp] at h9
      simp [Nat.beq] at hl
    · rename_i hp
      rw [hp] at h9
      simp only [Bool.and_eq_true] at hl
      exact sd_callV hx hb hK hts hown hRc hRs hEX hBs hfr hlo hml hl.1.2 hl.2 hdg hk h9
    · rename_i hp
      rw [hp] at h9
      simp [Nat.beq] at hl
    · rename_i hp
      rw [hp] at h9
      simp [Nat.beq] at hl
    · rename_i hp
      rw [hp] at h9
      simp [Nat.beq] at hl
    · rename_i hp
      rw [hp] at h9
      simp [Nat.beq] at hl
    · rename_i hp
      rw [hp] at h9
      simp only [Bool.and_eq_true] at hl
      exact sd_strL hx hb hK hts hown hEX hBs (by omega) (by omega) hRc hRs hml hl.2 hdg hk h9
    · rename_i hp
      rw [hp] at h9
      simp only [Bool.and_eq_true] at hl
      exact sd_strC hx hb hK hts hown hEX hBs (by omega) (by omega) hRc hRs hml hl.2 hdg hk h9
    · rename_i hp
      rw [hp] at h9
      simp only [Bool.and_eq_true] at hl
      exact sd_strI hx hb hK hts hown hEX hBs (by omega) (by omega) hRc hRs hml hl.2 hdg hk h9
    · rename_i hp
      rw [hp] at h9
      simp [Nat.beq] at hl
    · cases hl
  | invokespecial n =>
    simp only [lkB, Bool.and_eq_true, decide_eq_true_eq] at hl
    obtain ⟨rfl, hl⟩ := hl
    have h9 : callp (Cd d) (pick r 0) r ls st sh R M cb sb k := h
    unfold invB at hl
    split at hl
    · rename_i hp
      rw [hp] at h9
      simp [Nat.beq] at hl
    · rename_i hp
      rw [hp] at h9
      simp [Nat.beq] at hl
    · rename_i hp
      rw [hp] at h9
      simp only [Bool.and_eq_true] at hl
      exact sd_callI hx hb hK hts hown hRc hRs hEX hBs hfr hlo hml hl.1.2 hl.2 hdg hk h9
    · rename_i hp
      rw [hp] at h9
      simp [Nat.beq] at hl
    · rename_i hp
      rw [hp] at h9
      simp [Nat.beq] at hl
    · rename_i hp
      rw [hp] at h9
      simp [Nat.beq] at hl
    · rename_i hp
      rw [hp] at h9
      simp [Nat.beq] at hl
    · rename_i hp
      rw [hp] at h9
      simp [Nat.beq] at hl
    · rename_i hp
      rw [hp] at h9
      simp [Nat.beq] at hl
    · rename_i hp
      rw [hp] at h9
      simp only [Bool.and_eq_true] at hl
      exact sd_objInit hx hb hts hown (by omega) (by omega) (hts _ (wdq_mem hl.1.1.2)) (hts _ (wdq_mem hl.1.2)) (hts _ (wdq_mem hl.2)) hml hdg hk h9
    · cases hl
  | _ => exact False.elim h
end
end
section
/-! A WALK, A METHOD: what the plain machine says is so -/
def X0 : Int × (Int → Int) := (-1, fun _ => 0)
/-- AT PLACE i of method m, with these locals, this stack, these numbers: it comes to its end, and then Q -/
def GoX (X : Int × (Int → Int)) (d m : Nat) (Q : RES) (i : Nat) : NXT := fun ls st sh R M cb sb => ∀ (p : Program) (l : Launch) (e : Env) (Rm : Room) (s : State) (mm : MethodId) (args : Array Value) (below : List Frame) (meth : Method) (c : Code) (Qw : State → Prop) (B : Nat) (cA : Nat → ClassId) (ex adV : Nat → Nat) (D : va_G) (mc ms : Nat), Cx d m B cA ex adV D X p s mm args meth c Rm mc ms → FinH m B cA D p l e Rm s mm args below meth c Qw mc ms Q → WG p l e Rm s mm args below meth c Qw B cA ex D (mL m) mc ms (tpc (mK m) i) ls st sh R M cb sb
def Go (d m : Nat) (Q : RES) (i : Nat) : NXT := GoX X0 d m Q i
def rowsB (m : Nat) : Nat → List INS → Bool
  | _, [] => true
  | i, (j, pc, ins, len, r) :: rest => Nat.beq i j && decide (decode (mC m) pc = .ok (ins, len)) && lkB m pc ins len r && (match rest with
    | [] => true
    | (_, pc2, _) :: _ => Nat.beq pc2 (pc + len)) && rowsB m (i + 1) rest
def retOK (ret : Option FieldType) : Bool := match ret with
  | none => true
  | some .long => true
  | some .int => true
  | some .boolean => true
  | some (.object _) => true
  | some (.array _) => true
  | _ => false
def mokB (m : Nat) : Bool := rowsB m 0 (mK m) && Nat.beq (tpc (mK m) 0) 0 && plainName (mY m).cls && decide (mO m = (mY m).cls) && retOK (mR m)
def MOK (m : Nat) : Prop := mokB m = true
theorem rowsB_get {m : Nat} : ∀ (suf : List INS) (i0 k : Nat) (j pc : Nat) (ins : Jvm.ClassFile.Instr) (len : Nat) (r : List Nat), rowsB m i0 suf = true → suf[k]? = some (j, pc, ins, len, r) → j = i0 + k ∧ decode (mC m) pc = .ok (ins, len) ∧ lkB m pc ins len r = true ∧ ∀ e : INS, suf[k + 1]? = some e → e.2.1 = pc + len
  | [], _, _, _, _, _, _, _, _, h => by simp at h
  | (j', pc', ins', len', r') :: rest, i0, k, j, pc, ins, len, r, hb, h => by
    unfold rowsB at hb
    simp only [Bool.and_eq_true, decide_eq_true_eq] at hb
    obtain ⟨⟨⟨⟨h1, h2⟩, h3⟩, h4⟩, h5⟩ := hb
    cases k with
    | zero =>
      cases h
      refine ⟨(Nat.eq_of_beq_eq_true h1).symm, h2, h3, fun e he => ?_⟩
      cases rest with
      | nil => simp at he
      | cons e' rest' =>
        cases he
        exact Nat.eq_of_beq_eq_true h4
    | succ k =>
      obtain ⟨g1, g2, g3, g4⟩ := rowsB_get rest (i0 + 1) k j pc ins len r h5 h
      exact ⟨by omega, g2, g3, g4⟩
theorem cutAt_mem : ∀ (cuts : List (Nat × List Nat)) (i : Nat) (mq : List Nat), cutAt cuts i = some mq → (i, mq) ∈ cuts
  | [], _, _, h => by cases h
  | (j, mq2) :: t, i, mq, h => by
    unfold cutAt at h
    cases hq : Nat.beq j i with
    | true =>
      rw [hq] at h
      cases h
      cases Nat.eq_of_beq_eq_true hq
      exact List.mem_cons_self
    | false =>
      rw [hq] at h
      exact List.mem_cons_of_mem _ (cutAt_mem t i mq h)
theorem wp_sound {X : Int × (Int → Int)} {d m : Nat} {Q : RES} {G : Nat → NXT} {cuts : List (Nat × List Nat)} (hm : MOK m) (hcuts : cuts.all (fun q => Nat.beq q.2.length (mL m)) = true) (hG : ∀ i ls st sh R M cb sb, G i ls st sh R M cb sb → GoX X d m Q i ls st sh R M cb sb) : ∀ (n i : Nat) (ls st : List AV) (sh : SHP) (R M : MEM) (cb sb : Nat), gx_wp (Cd d) X G Q cuts (mK m) n ((mK m).drop i) ls st sh R M cb sb → GoX X d m Q i ls st sh R M cb sb := by
  intro n
  induction n with
  | zero => intro i ls st sh R M cb sb h; exact h.elim
  | succ n ih =>
    intro i ls st sh R M cb sb h
    cases hd : (mK m).drop i with
    | nil => rw [hd] at h; exact h.elim
    | cons e rest =>
      obtain ⟨j, pc, ins, len, r⟩ := e
      rw [hd] at h
      have hi : (mK m)[i]? = some (j, pc, ins, len, r) := by
        have := congrArg (fun l => l[0]?) hd
        simpa [List.getElem?_drop] using this
      have hrest : rest = (mK m).drop (i + 1) := by
        have := congrArg List.tail hd
        simpa [List.tail_drop] using this.symm
      have hrows : rowsB m 0 (mK m) = true := by
        unfold MOK mokB at hm
        simp only [Bool.and_eq_true] at hm
        exact hm.1.1.1.1
      obtain ⟨hj, hdg, hl, hnext⟩ := rowsB_get (mK m) 0 i j pc ins len r hrows hi
      have hpc : tpc (mK m) i = pc := by unfold tpc; rw [hi]
      have cut_ok : ∀ (t : Nat) (mq : List Nat), cutAt cuts t = some mq → mq.length = mL m := fun t mq hc => by
        have := List.all_eq_true.mp hcuts _ (cutAt_mem _ _ _ hc)
        exact Nat.eq_of_beq_eq_true this
      intro p l e Rm s mm args below meth c Qw B cA ex adV D mc ms hCx hF
      have go : ∀ (t : Nat) (ls st : List AV) (sh : SHP) (R M : MEM) (cb sb : Nat), (match cutAt cuts t with
          | some mq => G t (msk mq ls) st sh R M cb sb
          | none => gx_wp (Cd d) X G Q cuts (mK m) n ((mK m).drop t) ls st sh R M cb sb) → WG p l e Rm s mm args below meth c Qw B cA ex D (mL m) mc ms (tpc (mK m) t) ls st sh R M cb sb := by
        intro t ls st sh R M cb sb hq
        cases hc : cutAt cuts t with
        | none =>
          rw [hc] at hq
          exact ih t ls st sh R M cb sb hq p l e Rm s mm args below meth c Qw B cA ex adV D mc ms hCx hF
        | some mq =>
          rw [hc] at hq
          intro H locs cells slots lsA hH hL hS h1 h2
          exact hG _ _ _ _ _ _ _ _ hq p l e Rm s mm args below meth c Qw B cA ex adV D mc ms hCx hF H locs cells slots lsA hH (hL.msk mq (cut_ok t mq hc)) hS h1 h2
      rw [hpc]
      refine row_sound hCx hF hdg hl (k := _) (J := _) (fun ls st sh R M cb sb hq => ?_) (fun t ls st sh R M cb sb _ hq => go t ls st sh R M cb sb hq) h
      cases hr : rest with
      | nil => rw [hr] at hq; exact hq.elim
      | cons e2 rest2 =>
        have hi2 : (mK m)[i + 1]? = some e2 := by
          have := congrArg (fun l => l[0]?) (hrest.symm.trans hr)
          simpa [List.getElem?_drop] using this
        have hpc2 : tpc (mK m) (i + 1) = pc + len := by
          unfold tpc
          rw [hi2]
          exact hnext e2 hi2
        obtain ⟨j2, pc2, ins2, len2, r2⟩ := e2
        obtain ⟨hj2, -, -, -⟩ := rowsB_get (mK m) 0 (i + 1) j2 pc2 ins2 len2 r2 hrows hi2
        rw [hr] at hq
        rw [← hpc2]
        apply go (i + 1)
        have e1 : j2 = i + 1 := by omega
        rw [e1] at hq
        rw [← hrest, hr]
        rw [e1]
        exact hq
/-! a method's entry -/
def entl : List AV → List AV
  | [] => []
  | v :: t => (match v.1 with
    | 1 => [v, vn]
    | _ => [v]) ++ entl t
def entL (n : Nat) (as : List AV) : List AV := entl as ++ List.replicate (n - (entl as).length) vn
def okA (as : List AV) : Bool := as.all (fun v => Nat.ble v.1 2)
theorem cat_eq2 {B : Nat} {ex : Nat → Nat} {v : AV} : (cv B ex v).category = 2 ↔ v.1 = 1 := by
  constructor
  · intro h
    by_cases h1 : v.1 = 1
    · exact h1
    · have := cv_cat (B := B) (ex := ex) v h1
      rw [h] at this
      exact absurd this (by decide)
  · intro h
    unfold cv
    rw [h]
    rfl
theorem entl_sl {B : Nat} {ex : Nat → Nat} : ∀ as : List AV, (lg_sl (as.map (cv B ex))).length = (entl as).length
  | [] => rfl
  | v :: t => by
    have ih := entl_sl (B := B) (ex := ex) t
    have e : lg_sl ((v :: t).map (cv B ex)) = (if (cv B ex v).category = 2 then [.val (cv B ex v), .second] else [.val (cv B ex v)]) ++ lg_sl (t.map (cv B ex)) := rfl
    have e2 : entl (v :: t) = (match v.1 with
      | 1 => [v, vn]
      | _ => [v]) ++ entl t := rfl
    rw [e, e2, List.length_append, List.length_append, ih]
    by_cases h1 : v.1 = 1
    · rw [if_pos (cat_eq2.mpr h1), h1]
      rfl
    · rw [if_neg (fun z => h1 (cat_eq2.mp z))]
      split
      · rename_i h2; exact absurd h2 h1
      · rfl
theorem entl_args {B : Nat} {ex : Nat → Nat} : ∀ (as : List AV) (i j : Nat) (v : AV), (entl as)[j]? = some v → v.1 ≠ 3 → (i + j, cv B ex v) ∈ lv_args i (as.map (cv B ex))
  | [], _, _, _, h, _ => by simp [entl] at h
  | a :: t, i, j, v, h, hv => by
    have e : lv_args i ((a :: t).map (cv B ex)) = (i, cv B ex a) :: lv_args (if (cv B ex a).category = 2 then i + 2 else i + 1) (t.map (cv B ex)) := rfl
    rw [e]
    unfold entl at h
    by_cases h1 : a.1 = 1
    · rw [if_pos (cat_eq2.mpr h1)]
      rw [h1] at h
      match j, h with
      | 0, h =>
        cases h
        exact List.mem_cons_self
      | 1, h =>
        cases h
        exact absurd rfl hv
      | j + 2, h =>
        have := entl_args (B := B) (ex := ex) t (i + 2) j v h hv
        rw [show i + (j + 2) = i + 2 + j by omega]
        exact List.mem_cons_of_mem _ this
    · rw [if_neg (fun z => h1 (cat_eq2.mp z))]
      have h' : ([a] ++ entl t)[j]? = some v := by
        split at h
        · rename_i h2; exact absurd h2 h1
        · exact h
      match j, h' with
      | 0, h' =>
        cases h'
        exact List.mem_cons_self
      | j + 1, h' =>
        have := entl_args (B := B) (ex := ex) t (i + 1) j v h' hv
        rw [show i + (j + 1) = i + 1 + j by omega]
        exact List.mem_cons_of_mem _ this
theorem entl_mem : ∀ (as : List AV) (v : AV), v ∈ entl as → v ∈ as ∨ v = vn
  | [], v, h => by simp [entl] at h
  | a :: t, v, h => by
    unfold entl at h
    rcases List.mem_append.mp h with h | h
    · split at h
      · rcases List.mem_cons.mp h with rfl | h
        · exact Or.inl List.mem_cons_self
        · exact Or.inr (List.mem_singleton.mp h)
      · exact Or.inl (by rw [List.mem_singleton.mp h]; exact List.mem_cons_self)
    · rcases entl_mem t v h with h | h
      · exact Or.inl (List.mem_cons_of_mem _ h)
      · exact Or.inr h
theorem LR_entry {B : Nat} {ex : Nat → Nat} {n : Nat} {as : List AV} (hn : (entl as).length ≤ n) (hS : SQ as) : LR B ex n ((lg_sl (as.map (cv B ex)) ++ List.replicate (n - (lg_sl (as.map (cv B ex))).length) Slot.unset).toArray) (entL n as) := by
  have h0 := lv_entry (as.map (cv B ex)) (n := n) (by rw [entl_sl]; exact hn)
  have hl : (entL n as).length = n := by
    unfold entL
    rw [List.length_append, List.length_replicate]
    omega
  refine ⟨lv_has_of h0 (fun q hq => ?_), hl, fun v hv => ?_⟩
  · obtain ⟨j, v, h1, h2, rfl⟩ := (lo_mem _ 0 q).mp hq
    unfold entL at h1
    by_cases hj : j < (entl as).length
    · rw [List.getElem?_append_left hj] at h1
      exact entl_args as 0 j v h1 h2
    · rw [List.getElem?_append_right (by omega), List.getElem?_replicate] at h1
      split at h1
      · cases h1
        exact absurd rfl h2
      · cases h1
  · unfold entL at hv
    rcases List.mem_append.mp hv with h | h
    · rcases entl_mem as v h with h | h
      · exact hS v h
      · rw [h]; trivial
    · rw [(List.mem_replicate.mp h).2]
      trivial
theorem fin_met {m : Nat} {B : Nat} {cA : Nat → ClassId} {D : va_G} {p : Program} {l : Launch} {e : Env} {Rm : Room} {s : State} {mm : MethodId} {args : Array Value} {below : List Frame} {meth : Method} {c : Code} {mc ms : Nat} {Q : RES} (hx : p.tables.exec = Jvm.exec) (hb : c.code = mC m) (hr : meth.sig.returnType = mR m) (hlk : meth.locks = false) (hro : retOK (mR m) = true) : FinH m B cA D p l e Rm s mm args below meth c (MQ below (PostM B cA D (mR m) Q) args s mc ms (Bq B)) mc ms Q := by
  intro pc H locs cells slots lsA x sh R M hH hc hs hQ hrk hdg
  refine W.widen hc hs ?_
  have hq : ∀ t : State, t.heap = H → s.WarmedH t.vm → PostM B cA D (mR m) Q args s (.returned (rvl B (mR m) x)) t := fun t ht _ => ⟨⟨x, sh, R, M, rfl, hQ, hrk, by rw [ht]; exact hH.1, by rw [ht]; exact hH.2.2.1, hH.2.2.2⟩, hH.2.1.F ht⟩
  have hf : ∀ q ∈ locs, Bq B q.base := hH.2.1.2.2
  generalize hret : mR m = ret at hq hrk hdg hr hro
  cases ret with
  | none => exact W.vret hx hb hr hq hf hdg hlk
  | some ty =>
    cases ty with
    | long => exact W.lret hx hb hr hq hf hdg hlk
    | object nm =>
      refine W.aret hx hb hr (Or.inl ⟨_, rfl⟩) ?_ hq hf hdg hlk
      unfold rv
      split
      · exact Or.inl rfl
      · exact Or.inr ⟨_, rfl⟩
    | array nm =>
      refine W.aret hx hb hr (Or.inr ⟨_, rfl⟩) ?_ hq hf hdg hlk
      unfold rv
      split
      · exact Or.inl rfl
      · exact Or.inr ⟨_, rfl⟩
    | boolean => exact W.zret hx hb hr (bnar hrk) hq hf hdg hlk
    | int => exact W.iret hx hb hr hq hf hdg hlk
    | _ => cases hro
theorem Mw_of {d m : Nat} {as : List AV} {sh : SHP} {R M : MEM} {mc ms : Nat} {Q : RES} (hm : MOK m) (hn : Nat.ble (entl as).length (mL m) = true) (h : SQ as → RN sh R M → Go d m Q 0 (entL (mL m) as) [] sh R M mc ms) : Mw d m as sh R M mc ms Q := by
  intro l B cA ex adV D
  have hm1 := hm
  unfold MOK mokB at hm1
  simp only [Bool.and_eq_true, decide_eq_true_eq] at hm1
  obtain ⟨⟨⟨⟨-, hp0⟩, hpl⟩, hO⟩, hro⟩ := hm1
  refine Met.ofW (cc := mC m) (maxL := mL m) (ret := mR m) (ws' := TBg) hpl (by unfold wsM; rfl) ?_
  intro p e s mm args below meth c s₁ Bd hml hv
  obtain ⟨rfl, hP, hz, hrn, hK, hEX, hS⟩ := hv
  have hx := Bd.exec
  have hb := Bd.bytes
  have hr := Bd.returns
  have hts := atoms_spec (ws := wsM m) Bd.pre
  have hown : s.vm.findClass (mO m) = some mm.cls := by rw [hO]; exact findClass_of_methodNamed Bd.named
  have hlocks := Bd.notSynchronized
  have hname : meth.name = (mY m).name := (name_of_methodNamed Bd.named Bd.method).1
  have hCx : Cx d m B cA ex adV D X0 p s mm (as.map (cv B ex)).toArray meth c (roomM d mc ms) mc ms := ⟨hx, hb, hml, hown, fun w hw => hts w (List.mem_cons_of_mem _ hw), hK, hEX, Or.inl (by decide), by rw [hz]; omega, Nat.le_refl _, Nat.le_refl _, Nat.le_refl _, Nat.le_refl _, hname⟩
  have hgo := h hS hrn p l e (roomM d mc ms) s mm _ below meth c _ B cA ex adV D mc ms hCx (fin_met (Q := Q) hx hb hr hlocks hro)
  rw [lg_entry_eq]
  have hpc : tpc (mK m) 0 = 0 := Nat.eq_of_beq_eq_true hp0
  rw [hpc] at hgo
  exact hgo s.heap [] 0 0 _ ⟨hP, va_S.rf, hz, hrn⟩ (LR_entry (Nat.le_of_ble_eq_true hn) hS) (fun v hv => by cases hv) (by omega) (by omega)
theorem Mw.mono {d m : Nat} {as : List AV} {sh : SHP} {R M : MEM} {mc ms : Nat} {Q Q' : RES} (h : Mw d m as sh R M mc ms Q) (hq : ∀ x sh R M, Q x sh R M → Q' x sh R M) : Mw d m as sh R M mc ms Q' := by
  intro l B cA ex adV D
  intro p e g1 g2 g3 s mm args below g4 g5 g6 g7
  obtain ⟨n, o, h1, h2, h3, ⟨⟨x, sh', R', M', a1, a2, a3⟩, a4⟩, a5⟩ := h l B cA ex adV D p e g1 g2 g3 s mm args below g4 g5 g6 g7
  exact ⟨n, o, h1, h2, h3, ⟨⟨x, sh', R', M', a1, hq _ _ _ _ a2, a3⟩, a4⟩, a5⟩
theorem Go_wp {d m : Nat} {Q : RES} {cuts : List (Nat × List Nat)} (n i : Nat) {ls st : List AV} {sh : SHP} {R M : MEM} {cb sb : Nat} (hm : MOK m) (hcuts : cuts.all (fun q => Nat.beq q.2.length (mL m)) = true) (h : gx_wp (Cd d) X0 (Go d m Q) Q cuts (mK m) n ((mK m).drop i) ls st sh R M cb sb) : Go d m Q i ls st sh R M cb sb := wp_sound hm hcuts (fun _ _ _ _ _ _ _ _ z => z) n i ls st sh R M cb sb h
end
section
/-! every method's list is its code, linked as it says -/
theorem mok0 : MOK 0 := by unfold MOK; decide +kernel
theorem mok1 : MOK 1 := by unfold MOK; decide +kernel
theorem mok2 : MOK 2 := by unfold MOK; decide +kernel
theorem mok3 : MOK 3 := by unfold MOK; decide +kernel
theorem mok4 : MOK 4 := by unfold MOK; decide +kernel
theorem mok5 : MOK 5 := by unfold MOK; decide +kernel
theorem mok6 : MOK 6 := by unfold MOK; decide +kernel
theorem mok7 : MOK 7 := by unfold MOK; decide +kernel
theorem mok8 : MOK 8 := by unfold MOK; decide +kernel
theorem mok9 : MOK 9 := by unfold MOK; decide +kernel
theorem mok10 : MOK 10 := by unfold MOK; decide +kernel
theorem mok11 : MOK 11 := by unfold MOK; decide +kernel
theorem mok12 : MOK 12 := by unfold MOK; decide +kernel
theorem mok13 : MOK 13 := by unfold MOK; decide +kernel
theorem mok14 : MOK 14 := by unfold MOK; decide +kernel
theorem mok15 : MOK 15 := by unfold MOK; decide +kernel
theorem mok16 : MOK 16 := by unfold MOK; decide +kernel
theorem mok17 : MOK 17 := by unfold MOK; decide +kernel
theorem mok18 : MOK 18 := by unfold MOK; decide +kernel
theorem mok19 : MOK 19 := by unfold MOK; decide +kernel
theorem mok20 : MOK 20 := by unfold MOK; decide +kernel
theorem mok21 : MOK 21 := by unfold MOK; decide +kernel
theorem mok22 : MOK 22 := by unfold MOK; decide +kernel
theorem mok23 : MOK 23 := by unfold MOK; decide +kernel
theorem mok24 : MOK 24 := by unfold MOK; decide +kernel
theorem mok25 : MOK 25 := by unfold MOK; decide +kernel
theorem mok26 : MOK 26 := by unfold MOK; decide +kernel
theorem mok27 : MOK 27 := by unfold MOK; decide +kernel
theorem mok28 : MOK 28 := by unfold MOK; decide +kernel
theorem mok29 : MOK 29 := by unfold MOK; decide +kernel
theorem mok30 : MOK 30 := by unfold MOK; decide +kernel
theorem mok31 : MOK 31 := by unfold MOK; decide +kernel
theorem mok32 : MOK 32 := by unfold MOK; decide +kernel
theorem mok33 : MOK 33 := by unfold MOK; decide +kernel
theorem mok34 : MOK 34 := by unfold MOK; decide +kernel
theorem mok35 : MOK 35 := by unfold MOK; decide +kernel
theorem mok36 : MOK 36 := by unfold MOK; decide +kernel
theorem mok37 : MOK 37 := by unfold MOK; decide +kernel
theorem mok38 : MOK 38 := by unfold MOK; decide +kernel
theorem mok39 : MOK 39 := by unfold MOK; decide +kernel
theorem mok40 : MOK 40 := by unfold MOK; decide +kernel
theorem mok41 : MOK 41 := by unfold MOK; decide +kernel
theorem mok42 : MOK 42 := by unfold MOK; decide +kernel
theorem mok43 : MOK 43 := by unfold MOK; decide +kernel
theorem mok44 : MOK 44 := by unfold MOK; decide +kernel
theorem mok45 : MOK 45 := by unfold MOK; decide +kernel
theorem mok46 : MOK 46 := by unfold MOK; decide +kernel
theorem mok47 : MOK 47 := by unfold MOK; decide +kernel
theorem mok48 : MOK 48 := by unfold MOK; decide +kernel
theorem mok49 : MOK 49 := by unfold MOK; decide +kernel
theorem mok50 : MOK 50 := by unfold MOK; decide +kernel
theorem mok51 : MOK 51 := by unfold MOK; decide +kernel
theorem mok52 : MOK 52 := by unfold MOK; decide +kernel
theorem mok53 : MOK 53 := by unfold MOK; decide +kernel
theorem mok54 : MOK 54 := by unfold MOK; decide +kernel
theorem mok55 : MOK 55 := by unfold MOK; decide +kernel
theorem mok56 : MOK 56 := by unfold MOK; decide +kernel
theorem mok57 : MOK 57 := by unfold MOK; decide +kernel
theorem mok58 : MOK 58 := by unfold MOK; decide +kernel
theorem mok59 : MOK 59 := by unfold MOK; decide +kernel
end
section
/-! every method's list is its code, linked as it says -/
theorem mok60 : MOK 60 := by unfold MOK; decide +kernel
theorem mok61 : MOK 61 := by unfold MOK; decide +kernel
theorem mok62 : MOK 62 := by unfold MOK; decide +kernel
theorem mok63 : MOK 63 := by unfold MOK; decide +kernel
theorem mok64 : MOK 64 := by unfold MOK; decide +kernel
theorem mok65 : MOK 65 := by unfold MOK; decide +kernel
theorem mok66 : MOK 66 := by unfold MOK; decide +kernel
theorem mok67 : MOK 67 := by unfold MOK; decide +kernel
theorem mok68 : MOK 68 := by unfold MOK; decide +kernel
theorem mok69 : MOK 69 := by unfold MOK; decide +kernel
theorem mok70 : MOK 70 := by unfold MOK; decide +kernel
theorem mok71 : MOK 71 := by unfold MOK; decide +kernel
theorem mok72 : MOK 72 := by unfold MOK; decide +kernel
theorem mok73 : MOK 73 := by unfold MOK; decide +kernel
theorem mok74 : MOK 74 := by unfold MOK; decide +kernel
theorem mok75 : MOK 75 := by unfold MOK; decide +kernel
theorem mok76 : MOK 76 := by unfold MOK; decide +kernel
theorem mok77 : MOK 77 := by unfold MOK; decide +kernel
theorem mok78 : MOK 78 := by unfold MOK; decide +kernel
theorem mok79 : MOK 79 := by unfold MOK; decide +kernel
theorem mok80 : MOK 80 := by unfold MOK; decide +kernel
theorem mok81 : MOK 81 := by unfold MOK; decide +kernel
theorem mok82 : MOK 82 := by unfold MOK; decide +kernel
theorem mok83 : MOK 83 := by unfold MOK; decide +kernel
theorem mok84 : MOK 84 := by unfold MOK; decide +kernel
theorem mok85 : MOK 85 := by unfold MOK; decide +kernel
theorem mok86 : MOK 86 := by unfold MOK; decide +kernel
theorem mok87 : MOK 87 := by unfold MOK; decide +kernel
theorem mok88 : MOK 88 := by unfold MOK; decide +kernel
theorem mok89 : MOK 89 := by unfold MOK; decide +kernel
theorem mok90 : MOK 90 := by unfold MOK; decide +kernel
theorem mok91 : MOK 91 := by unfold MOK; decide +kernel
theorem mok92 : MOK 92 := by unfold MOK; decide +kernel
theorem mok93 : MOK 93 := by unfold MOK; decide +kernel
theorem mok94 : MOK 94 := by unfold MOK; decide +kernel
theorem mok95 : MOK 95 := by unfold MOK; decide +kernel
theorem mok96 : MOK 96 := by unfold MOK; decide +kernel
theorem mok97 : MOK 97 := by unfold MOK; decide +kernel
theorem mok98 : MOK 98 := by unfold MOK; decide +kernel
theorem mok99 : MOK 99 := by unfold MOK; decide +kernel
theorem mok100 : MOK 100 := by unfold MOK; decide +kernel
theorem mok101 : MOK 101 := by unfold MOK; decide +kernel
theorem mok102 : MOK 102 := by unfold MOK; decide +kernel
theorem mok103 : MOK 103 := by unfold MOK; decide +kernel
theorem mok104 : MOK 104 := by unfold MOK; decide +kernel
theorem mok105 : MOK 105 := by unfold MOK; decide +kernel
theorem mok106 : MOK 106 := by unfold MOK; decide +kernel
theorem mok107 : MOK 107 := by unfold MOK; decide +kernel
theorem mok108 : MOK 108 := by unfold MOK; decide +kernel
theorem mok109 : MOK 109 := by unfold MOK; decide +kernel
theorem mok110 : MOK 110 := by unfold MOK; decide +kernel
theorem mok111 : MOK 111 := by unfold MOK; decide +kernel
theorem mok112 : MOK 112 := by unfold MOK; decide +kernel
theorem mok113 : MOK 113 := by unfold MOK; decide +kernel
theorem mok114 : MOK 114 := by unfold MOK; decide +kernel
theorem mok115 : MOK 115 := by unfold MOK; decide +kernel
theorem mok116 : MOK 116 := by unfold MOK; decide +kernel
theorem mok117 : MOK 117 := by unfold MOK; decide +kernel
theorem mok118 : MOK 118 := by unfold MOK; decide +kernel
theorem mok119 : MOK 119 := by unfold MOK; decide +kernel
theorem mok120 : MOK 120 := by unfold MOK; decide +kernel
theorem mok121 : MOK 121 := by unfold MOK; decide +kernel
theorem mok122 : MOK 122 := by unfold MOK; decide +kernel
theorem mok123 : MOK 123 := by unfold MOK; decide +kernel
end
section
/-! every method's list is its code, linked as it says -/
theorem mok124 : MOK 124 := by unfold MOK; decide +kernel
theorem mok125 : MOK 125 := by unfold MOK; decide +kernel
theorem mok126 : MOK 126 := by unfold MOK; decide +kernel
theorem mok127 : MOK 127 := by unfold MOK; decide +kernel
theorem mok128 : MOK 128 := by unfold MOK; decide +kernel
theorem mok129 : MOK 129 := by unfold MOK; decide +kernel
theorem mok130 : MOK 130 := by unfold MOK; decide +kernel
theorem mok131 : MOK 131 := by unfold MOK; decide +kernel
theorem mok132 : MOK 132 := by unfold MOK; decide +kernel
theorem mok133 : MOK 133 := by unfold MOK; decide +kernel
theorem mok134 : MOK 134 := by unfold MOK; decide +kernel
theorem mok135 : MOK 135 := by unfold MOK; decide +kernel
theorem mok136 : MOK 136 := by unfold MOK; decide +kernel
theorem mok137 : MOK 137 := by unfold MOK; decide +kernel
theorem mok138 : MOK 138 := by unfold MOK; decide +kernel
theorem mok139 : MOK 139 := by unfold MOK; decide +kernel
theorem mok140 : MOK 140 := by unfold MOK; decide +kernel
theorem mok141 : MOK 141 := by unfold MOK; decide +kernel
theorem mok142 : MOK 142 := by unfold MOK; decide +kernel
theorem mok143 : MOK 143 := by unfold MOK; decide +kernel
theorem mok144 : MOK 144 := by unfold MOK; decide +kernel
theorem mok145 : MOK 145 := by unfold MOK; decide +kernel
theorem mok146 : MOK 146 := by unfold MOK; decide +kernel
theorem mok147 : MOK 147 := by unfold MOK; decide +kernel
theorem mok148 : MOK 148 := by unfold MOK; decide +kernel
theorem mok149 : MOK 149 := by unfold MOK; decide +kernel
theorem mok150 : MOK 150 := by unfold MOK; decide +kernel
theorem mok151 : MOK 151 := by unfold MOK; decide +kernel
theorem mok152 : MOK 152 := by unfold MOK; decide +kernel
theorem mok153 : MOK 153 := by unfold MOK; decide +kernel
theorem mok154 : MOK 154 := by unfold MOK; decide +kernel
theorem mok155 : MOK 155 := by unfold MOK; decide +kernel
theorem mok156 : MOK 156 := by unfold MOK; decide +kernel
theorem mok157 : MOK 157 := by unfold MOK; decide +kernel
theorem mok158 : MOK 158 := by unfold MOK; decide +kernel
theorem mok159 : MOK 159 := by unfold MOK; decide +kernel
theorem mok160 : MOK 160 := by unfold MOK; decide +kernel
theorem mok161 : MOK 161 := by unfold MOK; decide +kernel
theorem mok162 : MOK 162 := by unfold MOK; decide +kernel
theorem mok163 : MOK 163 := by unfold MOK; decide +kernel
theorem mok164 : MOK 164 := by unfold MOK; decide +kernel
theorem mok165 : MOK 165 := by unfold MOK; decide +kernel
theorem mok166 : MOK 166 := by unfold MOK; decide +kernel
theorem mok167 : MOK 167 := by unfold MOK; decide +kernel
theorem mok168 : MOK 168 := by unfold MOK; decide +kernel
theorem mok169 : MOK 169 := by unfold MOK; decide +kernel
theorem mok170 : MOK 170 := by unfold MOK; decide +kernel
theorem mok171 : MOK 171 := by unfold MOK; decide +kernel
theorem mok172 : MOK 172 := by unfold MOK; decide +kernel
theorem mok173 : MOK 173 := by unfold MOK; decide +kernel
theorem mok174 : MOK 174 := by unfold MOK; decide +kernel
theorem mok175 : MOK 175 := by unfold MOK; decide +kernel
theorem mok176 : MOK 176 := by unfold MOK; decide +kernel
theorem mok177 : MOK 177 := by unfold MOK; decide +kernel
theorem mok178 : MOK 178 := by unfold MOK; decide +kernel
theorem mok179 : MOK 179 := by unfold MOK; decide +kernel
theorem mok180 : MOK 180 := by unfold MOK; decide +kernel
theorem mok181 : MOK 181 := by unfold MOK; decide +kernel
theorem mok182 : MOK 182 := by unfold MOK; decide +kernel
theorem mok183 : MOK 183 := by unfold MOK; decide +kernel
theorem mok184 : MOK 184 := by unfold MOK; decide +kernel
theorem mok185 : MOK 185 := by unfold MOK; decide +kernel
theorem mok186 : MOK 186 := by unfold MOK; decide +kernel
end
section
/-! every method's list is its code, linked as it says -/
theorem mok187 : MOK 187 := by unfold MOK; decide +kernel
theorem mok188 : MOK 188 := by unfold MOK; decide +kernel
theorem mok189 : MOK 189 := by unfold MOK; decide +kernel
theorem mok190 : MOK 190 := by unfold MOK; decide +kernel
theorem mok191 : MOK 191 := by unfold MOK; decide +kernel
theorem mok192 : MOK 192 := by unfold MOK; decide +kernel
theorem mok193 : MOK 193 := by unfold MOK; decide +kernel
theorem mok194 : MOK 194 := by unfold MOK; decide +kernel
theorem mok195 : MOK 195 := by unfold MOK; decide +kernel
theorem mok196 : MOK 196 := by unfold MOK; decide +kernel
theorem mok197 : MOK 197 := by unfold MOK; decide +kernel
theorem mok198 : MOK 198 := by unfold MOK; decide +kernel
theorem mok199 : MOK 199 := by unfold MOK; decide +kernel
theorem mok200 : MOK 200 := by unfold MOK; decide +kernel
theorem mok201 : MOK 201 := by unfold MOK; decide +kernel
theorem mok202 : MOK 202 := by unfold MOK; decide +kernel
theorem mok203 : MOK 203 := by unfold MOK; decide +kernel
theorem mok204 : MOK 204 := by unfold MOK; decide +kernel
theorem mok205 : MOK 205 := by unfold MOK; decide +kernel
theorem mok206 : MOK 206 := by unfold MOK; decide +kernel
theorem mok207 : MOK 207 := by unfold MOK; decide +kernel
theorem mok208 : MOK 208 := by unfold MOK; decide +kernel
theorem mok209 : MOK 209 := by unfold MOK; decide +kernel
theorem mok210 : MOK 210 := by unfold MOK; decide +kernel
theorem mok211 : MOK 211 := by unfold MOK; decide +kernel
theorem mok212 : MOK 212 := by unfold MOK; decide +kernel
theorem mok213 : MOK 213 := by unfold MOK; decide +kernel
theorem mok214 : MOK 214 := by unfold MOK; decide +kernel
theorem mok215 : MOK 215 := by unfold MOK; decide +kernel
theorem mok216 : MOK 216 := by unfold MOK; decide +kernel
theorem mok217 : MOK 217 := by unfold MOK; decide +kernel
theorem mok218 : MOK 218 := by unfold MOK; decide +kernel
theorem mok219 : MOK 219 := by unfold MOK; decide +kernel
theorem mok220 : MOK 220 := by unfold MOK; decide +kernel
theorem mok221 : MOK 221 := by unfold MOK; decide +kernel
theorem mok222 : MOK 222 := by unfold MOK; decide +kernel
theorem mok223 : MOK 223 := by unfold MOK; decide +kernel
theorem mok224 : MOK 224 := by unfold MOK; decide +kernel
theorem mok225 : MOK 225 := by unfold MOK; decide +kernel
theorem mok226 : MOK 226 := by unfold MOK; decide +kernel
theorem mok227 : MOK 227 := by unfold MOK; decide +kernel
theorem mok228 : MOK 228 := by unfold MOK; decide +kernel
theorem mok229 : MOK 229 := by unfold MOK; decide +kernel
theorem mok230 : MOK 230 := by unfold MOK; decide +kernel
theorem mok231 : MOK 231 := by unfold MOK; decide +kernel
theorem mok232 : MOK 232 := by unfold MOK; decide +kernel
theorem mok233 : MOK 233 := by unfold MOK; decide +kernel
theorem mok234 : MOK 234 := by unfold MOK; decide +kernel
theorem mok235 : MOK 235 := by unfold MOK; decide +kernel
theorem mok236 : MOK 236 := by unfold MOK; decide +kernel
theorem mok237 : MOK 237 := by unfold MOK; decide +kernel
theorem mok238 : MOK 238 := by unfold MOK; decide +kernel
theorem mok239 : MOK 239 := by unfold MOK; decide +kernel
theorem mok240 : MOK 240 := by unfold MOK; decide +kernel
theorem mok241 : MOK 241 := by unfold MOK; decide +kernel
theorem mok242 : MOK 242 := by unfold MOK; decide +kernel
theorem mok243 : MOK 243 := by unfold MOK; decide +kernel
theorem mok244 : MOK 244 := by unfold MOK; decide +kernel
theorem mok245 : MOK 245 := by unfold MOK; decide +kernel
theorem mok246 : MOK 246 := by unfold MOK; decide +kernel
theorem mok247 : MOK 247 := by unfold MOK; decide +kernel
theorem mok248 : MOK 248 := by unfold MOK; decide +kernel
theorem mok249 : MOK 249 := by unfold MOK; decide +kernel
end
section
/-! every method's list is its code, linked as it says -/
theorem mok250 : MOK 250 := by unfold MOK; decide +kernel
theorem mok251 : MOK 251 := by unfold MOK; decide +kernel
theorem mok252 : MOK 252 := by unfold MOK; decide +kernel
theorem mok253 : MOK 253 := by unfold MOK; decide +kernel
theorem mok254 : MOK 254 := by unfold MOK; decide +kernel
theorem mok255 : MOK 255 := by unfold MOK; decide +kernel
theorem mok256 : MOK 256 := by unfold MOK; decide +kernel
theorem mok257 : MOK 257 := by unfold MOK; decide +kernel
theorem mok258 : MOK 258 := by unfold MOK; decide +kernel
theorem mok259 : MOK 259 := by unfold MOK; decide +kernel
theorem mok260 : MOK 260 := by unfold MOK; decide +kernel
theorem mok261 : MOK 261 := by unfold MOK; decide +kernel
theorem mok262 : MOK 262 := by unfold MOK; decide +kernel
theorem mok263 : MOK 263 := by unfold MOK; decide +kernel
theorem mok264 : MOK 264 := by unfold MOK; decide +kernel
theorem mok265 : MOK 265 := by unfold MOK; decide +kernel
theorem mok266 : MOK 266 := by unfold MOK; decide +kernel
theorem mok267 : MOK 267 := by unfold MOK; decide +kernel
theorem mok268 : MOK 268 := by unfold MOK; decide +kernel
theorem mok269 : MOK 269 := by unfold MOK; decide +kernel
theorem mok270 : MOK 270 := by unfold MOK; decide +kernel
theorem mok271 : MOK 271 := by unfold MOK; decide +kernel
theorem mok272 : MOK 272 := by unfold MOK; decide +kernel
theorem mok273 : MOK 273 := by unfold MOK; decide +kernel
theorem mok274 : MOK 274 := by unfold MOK; decide +kernel
theorem mok275 : MOK 275 := by unfold MOK; decide +kernel
theorem mok276 : MOK 276 := by unfold MOK; decide +kernel
theorem mok305 : MOK 305 := by unfold MOK; decide +kernel
end
