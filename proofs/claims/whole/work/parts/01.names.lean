-- ===== PART A: goes FIRST, ahead of the names: the tables' words, and 'selects' of the private methods out of them =====
/-- a private method of a class that the tables say can be made, by its rows of tables_1 -/
def lw_okq (q : MethodName × Nat) : Prop := (q.1.cls ≠ "java/lang/invoke/MethodHandle" ∧ q.1.cls ≠ "java/lang/invoke/VarHandle") ∧ Cond.instantiable q.1.cls q.2 ∈ tables_1 ∧ Cond.privateMethod q.1 ∈ tables_1 ∧ Cond.instanceMethod q.1 ∈ tables_1
theorem lw_p0 : lw_okq (⟨"TwoElbows", "comesFrom", "(LTwoElbows$Shelf;I)Z"⟩, 12) := ⟨⟨by decide +kernel, by decide +kernel⟩, List.mem_of_getElem? (i := 15) (by decide +kernel), List.mem_of_getElem? (i := 301) (by decide +kernel), List.mem_of_getElem? (i := 302) (by decide +kernel)⟩
theorem lw_p1 : lw_okq (⟨"TwoElbows$Changes", "forgetFirst", "()V"⟩, 6) := ⟨⟨by decide +kernel, by decide +kernel⟩, List.mem_of_getElem? (i := 170) (by decide +kernel), List.mem_of_getElem? (i := 354) (by decide +kernel), List.mem_of_getElem? (i := 355) (by decide +kernel)⟩
theorem lw_p2 : lw_okq (⟨"TwoElbows$Course", "inchesOfSeat", "(I)I"⟩, 15) := ⟨⟨by decide +kernel, by decide +kernel⟩, List.mem_of_getElem? (i := 85) (by decide +kernel), List.mem_of_getElem? (i := 378) (by decide +kernel), List.mem_of_getElem? (i := 379) (by decide +kernel)⟩
theorem lw_p3 : lw_okq (⟨"TwoElbows$Tape", "readLine", "(LTwoElbows$Law;)V"⟩, 4) := ⟨⟨by decide +kernel, by decide +kernel⟩, List.mem_of_getElem? (i := 66) (by decide +kernel), List.mem_of_getElem? (i := 406) (by decide +kernel), List.mem_of_getElem? (i := 407) (by decide +kernel)⟩
theorem lw_p4 : lw_okq (⟨"TwoElbows$Tape", "readPart", "(LTwoElbows$Law;II)V"⟩, 4) := ⟨⟨by decide +kernel, by decide +kernel⟩, List.mem_of_getElem? (i := 66) (by decide +kernel), List.mem_of_getElem? (i := 410) (by decide +kernel), List.mem_of_getElem? (i := 411) (by decide +kernel)⟩
theorem lw_p5 : lw_okq (⟨"TwoElbows$Tape", "readOne", "(LTwoElbows$Law;I)V"⟩, 4) := ⟨⟨by decide +kernel, by decide +kernel⟩, List.mem_of_getElem? (i := 66) (by decide +kernel), List.mem_of_getElem? (i := 414) (by decide +kernel), List.mem_of_getElem? (i := 415) (by decide +kernel)⟩
theorem lw_p6 : lw_okq (⟨"TwoElbows$Tape", "next", "()I"⟩, 4) := ⟨⟨by decide +kernel, by decide +kernel⟩, List.mem_of_getElem? (i := 66) (by decide +kernel), List.mem_of_getElem? (i := 418) (by decide +kernel), List.mem_of_getElem? (i := 419) (by decide +kernel)⟩
theorem lw_p7 : lw_okq (⟨"TwoElbows$Tape", "readNumber", "(LTwoElbows$Law;)V"⟩, 4) := ⟨⟨by decide +kernel, by decide +kernel⟩, List.mem_of_getElem? (i := 66) (by decide +kernel), List.mem_of_getElem? (i := 423) (by decide +kernel), List.mem_of_getElem? (i := 424) (by decide +kernel)⟩
theorem lw_p8 : lw_okq (⟨"TwoElbows$Tape", "readOpened", "(LTwoElbows$Law;II)V"⟩, 4) := ⟨⟨by decide +kernel, by decide +kernel⟩, List.mem_of_getElem? (i := 66) (by decide +kernel), List.mem_of_getElem? (i := 434) (by decide +kernel), List.mem_of_getElem? (i := 435) (by decide +kernel)⟩
theorem lw_p9 : lw_okq (⟨"TwoElbows$Tape", "fail", "()V"⟩, 4) := ⟨⟨by decide +kernel, by decide +kernel⟩, List.mem_of_getElem? (i := 66) (by decide +kernel), List.mem_of_getElem? (i := 438) (by decide +kernel), List.mem_of_getElem? (i := 439) (by decide +kernel)⟩
theorem lw_p10 : lw_okq (⟨"TwoElbows$Law", "push", "(I)V"⟩, 6) := ⟨⟨by decide +kernel, by decide +kernel⟩, List.mem_of_getElem? (i := 40) (by decide +kernel), List.mem_of_getElem? (i := 494) (by decide +kernel), List.mem_of_getElem? (i := 495) (by decide +kernel)⟩
theorem lw_p11 : lw_okq (⟨"TwoElbows$Law", "pull", "()I"⟩, 6) := ⟨⟨by decide +kernel, by decide +kernel⟩, List.mem_of_getElem? (i := 40) (by decide +kernel), List.mem_of_getElem? (i := 498) (by decide +kernel), List.mem_of_getElem? (i := 499) (by decide +kernel)⟩
theorem lw_p12 : lw_okq (⟨"TwoElbows$Course", "meet", "(I)V"⟩, 15) := ⟨⟨by decide +kernel, by decide +kernel⟩, List.mem_of_getElem? (i := 85) (by decide +kernel), List.mem_of_getElem? (i := 521) (by decide +kernel), List.mem_of_getElem? (i := 522) (by decide +kernel)⟩
theorem lw_p13 : lw_okq (⟨"TwoElbows$Course", "leave", "([II)V"⟩, 15) := ⟨⟨by decide +kernel, by decide +kernel⟩, List.mem_of_getElem? (i := 85) (by decide +kernel), List.mem_of_getElem? (i := 526) (by decide +kernel), List.mem_of_getElem? (i := 527) (by decide +kernel)⟩
theorem lw_p14 : lw_okq (⟨"TwoElbows$Course", "contend", "(I)V"⟩, 15) := ⟨⟨by decide +kernel, by decide +kernel⟩, List.mem_of_getElem? (i := 85) (by decide +kernel), List.mem_of_getElem? (i := 530) (by decide +kernel), List.mem_of_getElem? (i := 531) (by decide +kernel)⟩
theorem lw_p15 : lw_okq (⟨"TwoElbows$Course", "nextCough", "()I"⟩, 15) := ⟨⟨by decide +kernel, by decide +kernel⟩, List.mem_of_getElem? (i := 85) (by decide +kernel), List.mem_of_getElem? (i := 534) (by decide +kernel), List.mem_of_getElem? (i := 535) (by decide +kernel)⟩
def lw_privs_1 : List (MethodName × Nat) := [(⟨"TwoElbows", "comesFrom", "(LTwoElbows$Shelf;I)Z"⟩, 12), (⟨"TwoElbows$Changes", "forgetFirst", "()V"⟩, 6), (⟨"TwoElbows$Course", "inchesOfSeat", "(I)I"⟩, 15), (⟨"TwoElbows$Tape", "readLine", "(LTwoElbows$Law;)V"⟩, 4), (⟨"TwoElbows$Tape", "readPart", "(LTwoElbows$Law;II)V"⟩, 4), (⟨"TwoElbows$Tape", "readOne", "(LTwoElbows$Law;I)V"⟩, 4), (⟨"TwoElbows$Tape", "next", "()I"⟩, 4), (⟨"TwoElbows$Tape", "readNumber", "(LTwoElbows$Law;)V"⟩, 4), (⟨"TwoElbows$Tape", "readOpened", "(LTwoElbows$Law;II)V"⟩, 4), (⟨"TwoElbows$Tape", "fail", "()V"⟩, 4), (⟨"TwoElbows$Law", "push", "(I)V"⟩, 6), (⟨"TwoElbows$Law", "pull", "()I"⟩, 6), (⟨"TwoElbows$Course", "meet", "(I)V"⟩, 15), (⟨"TwoElbows$Course", "leave", "([II)V"⟩, 15), (⟨"TwoElbows$Course", "contend", "(I)V"⟩, 15), (⟨"TwoElbows$Course", "nextCough", "()I"⟩, 15)]
theorem lw_r1 : ∀ q ∈ lw_privs_1, lw_okq q := List.forall_mem_cons.mpr ⟨lw_p0, List.forall_mem_cons.mpr ⟨lw_p1, List.forall_mem_cons.mpr ⟨lw_p2, List.forall_mem_cons.mpr ⟨lw_p3, List.forall_mem_cons.mpr ⟨lw_p4, List.forall_mem_cons.mpr ⟨lw_p5, List.forall_mem_cons.mpr ⟨lw_p6, List.forall_mem_cons.mpr ⟨lw_p7, List.forall_mem_cons.mpr ⟨lw_p8, List.forall_mem_cons.mpr ⟨lw_p9, List.forall_mem_cons.mpr ⟨lw_p10, List.forall_mem_cons.mpr ⟨lw_p11, List.forall_mem_cons.mpr ⟨lw_p12, List.forall_mem_cons.mpr ⟨lw_p13, List.forall_mem_cons.mpr ⟨lw_p14, List.forall_mem_cons.mpr ⟨lw_p15, fun _ h => absurd h List.not_mem_nil⟩⟩⟩⟩⟩⟩⟩⟩⟩⟩⟩⟩⟩⟩⟩⟩
theorem lw_p16 : lw_okq (⟨"TwoElbows$Course", "takeFree", "([II)Z"⟩, 15) := ⟨⟨by decide +kernel, by decide +kernel⟩, List.mem_of_getElem? (i := 85) (by decide +kernel), List.mem_of_getElem? (i := 540) (by decide +kernel), List.mem_of_getElem? (i := 541) (by decide +kernel)⟩
theorem lw_p17 : lw_okq (⟨"TwoElbows$Course", "wrest", "([I[IIII)V"⟩, 15) := ⟨⟨by decide +kernel, by decide +kernel⟩, List.mem_of_getElem? (i := 85) (by decide +kernel), List.mem_of_getElem? (i := 545) (by decide +kernel), List.mem_of_getElem? (i := 546) (by decide +kernel)⟩
theorem lw_p18 : lw_okq (⟨"TwoElbows$Course", "comfortAt", "(I)I"⟩, 15) := ⟨⟨by decide +kernel, by decide +kernel⟩, List.mem_of_getElem? (i := 85) (by decide +kernel), List.mem_of_getElem? (i := 549) (by decide +kernel), List.mem_of_getElem? (i := 550) (by decide +kernel)⟩
theorem lw_p19 : lw_okq (⟨"TwoElbows$Course", "fightsOfSeat", "(I)I"⟩, 15) := ⟨⟨by decide +kernel, by decide +kernel⟩, List.mem_of_getElem? (i := 85) (by decide +kernel), List.mem_of_getElem? (i := 553) (by decide +kernel), List.mem_of_getElem? (i := 554) (by decide +kernel)⟩
theorem lw_p20 : lw_okq (⟨"TwoElbows", "wentSo", "(I)Z"⟩, 12) := ⟨⟨by decide +kernel, by decide +kernel⟩, List.mem_of_getElem? (i := 15) (by decide +kernel), List.mem_of_getElem? (i := 597) (by decide +kernel), List.mem_of_getElem? (i := 598) (by decide +kernel)⟩
theorem lw_p21 : lw_okq (⟨"TwoElbows", "thinkOfChange", "(III)V"⟩, 12) := ⟨⟨by decide +kernel, by decide +kernel⟩, List.mem_of_getElem? (i := 15) (by decide +kernel), List.mem_of_getElem? (i := 631) (by decide +kernel), List.mem_of_getElem? (i := 632) (by decide +kernel)⟩
theorem lw_p22 : lw_okq (⟨"TwoElbows", "isPeaceful", "(III)Z"⟩, 12) := ⟨⟨by decide +kernel, by decide +kernel⟩, List.mem_of_getElem? (i := 15) (by decide +kernel), List.mem_of_getElem? (i := 653) (by decide +kernel), List.mem_of_getElem? (i := 654) (by decide +kernel)⟩
theorem lw_p23 : lw_okq (⟨"TwoElbows", "isBetterForBoth", "(III)Z"⟩, 12) := ⟨⟨by decide +kernel, by decide +kernel⟩, List.mem_of_getElem? (i := 15) (by decide +kernel), List.mem_of_getElem? (i := 661) (by decide +kernel), List.mem_of_getElem? (i := 662) (by decide +kernel)⟩
theorem lw_p24 : lw_okq (⟨"TwoElbows", "usedByLeft", "(II)I"⟩, 12) := ⟨⟨by decide +kernel, by decide +kernel⟩, List.mem_of_getElem? (i := 15) (by decide +kernel), List.mem_of_getElem? (i := 665) (by decide +kernel), List.mem_of_getElem? (i := 666) (by decide +kernel)⟩
theorem lw_p25 : lw_okq (⟨"TwoElbows", "usedByRight", "(II)I"⟩, 12) := ⟨⟨by decide +kernel, by decide +kernel⟩, List.mem_of_getElem? (i := 15) (by decide +kernel), List.mem_of_getElem? (i := 670) (by decide +kernel), List.mem_of_getElem? (i := 671) (by decide +kernel)⟩
theorem lw_p26 : lw_okq (⟨"TwoElbows", "soldByLeft", "(I)I"⟩, 12) := ⟨⟨by decide +kernel, by decide +kernel⟩, List.mem_of_getElem? (i := 15) (by decide +kernel), List.mem_of_getElem? (i := 678) (by decide +kernel), List.mem_of_getElem? (i := 679) (by decide +kernel)⟩
theorem lw_p27 : lw_okq (⟨"TwoElbows", "inchesSold", "(IIII)I"⟩, 12) := ⟨⟨by decide +kernel, by decide +kernel⟩, List.mem_of_getElem? (i := 15) (by decide +kernel), List.mem_of_getElem? (i := 682) (by decide +kernel), List.mem_of_getElem? (i := 683) (by decide +kernel)⟩
theorem lw_p28 : lw_okq (⟨"TwoElbows$Holdings", "perform", "(IIII)I"⟩, 5) := ⟨⟨by decide +kernel, by decide +kernel⟩, List.mem_of_getElem? (i := 195) (by decide +kernel), List.mem_of_getElem? (i := 746) (by decide +kernel), List.mem_of_getElem? (i := 747) (by decide +kernel)⟩
theorem lw_p29 : lw_okq (⟨"TwoElbows$Holdings", "begin", "(I)V"⟩, 5) := ⟨⟨by decide +kernel, by decide +kernel⟩, List.mem_of_getElem? (i := 195) (by decide +kernel), List.mem_of_getElem? (i := 762) (by decide +kernel), List.mem_of_getElem? (i := 763) (by decide +kernel)⟩
theorem lw_p30 : lw_okq (⟨"TwoElbows$Shelf", "become", "(III)V"⟩, 4) := ⟨⟨by decide +kernel, by decide +kernel⟩, List.mem_of_getElem? (i := 218) (by decide +kernel), List.mem_of_getElem? (i := 783) (by decide +kernel), List.mem_of_getElem? (i := 784) (by decide +kernel)⟩
theorem lw_p31 : lw_okq (⟨"TwoElbows", "refusalAt", "(II)I"⟩, 12) := ⟨⟨by decide +kernel, by decide +kernel⟩, List.mem_of_getElem? (i := 15) (by decide +kernel), List.mem_of_getElem? (i := 806) (by decide +kernel), List.mem_of_getElem? (i := 807) (by decide +kernel)⟩
def lw_privs_2 : List (MethodName × Nat) := [(⟨"TwoElbows$Course", "takeFree", "([II)Z"⟩, 15), (⟨"TwoElbows$Course", "wrest", "([I[IIII)V"⟩, 15), (⟨"TwoElbows$Course", "comfortAt", "(I)I"⟩, 15), (⟨"TwoElbows$Course", "fightsOfSeat", "(I)I"⟩, 15), (⟨"TwoElbows", "wentSo", "(I)Z"⟩, 12), (⟨"TwoElbows", "thinkOfChange", "(III)V"⟩, 12), (⟨"TwoElbows", "isPeaceful", "(III)Z"⟩, 12), (⟨"TwoElbows", "isBetterForBoth", "(III)Z"⟩, 12), (⟨"TwoElbows", "usedByLeft", "(II)I"⟩, 12), (⟨"TwoElbows", "usedByRight", "(II)I"⟩, 12), (⟨"TwoElbows", "soldByLeft", "(I)I"⟩, 12), (⟨"TwoElbows", "inchesSold", "(IIII)I"⟩, 12), (⟨"TwoElbows$Holdings", "perform", "(IIII)I"⟩, 5), (⟨"TwoElbows$Holdings", "begin", "(I)V"⟩, 5), (⟨"TwoElbows$Shelf", "become", "(III)V"⟩, 4), (⟨"TwoElbows", "refusalAt", "(II)I"⟩, 12)]
theorem lw_r2 : ∀ q ∈ lw_privs_2, lw_okq q := List.forall_mem_cons.mpr ⟨lw_p16, List.forall_mem_cons.mpr ⟨lw_p17, List.forall_mem_cons.mpr ⟨lw_p18, List.forall_mem_cons.mpr ⟨lw_p19, List.forall_mem_cons.mpr ⟨lw_p20, List.forall_mem_cons.mpr ⟨lw_p21, List.forall_mem_cons.mpr ⟨lw_p22, List.forall_mem_cons.mpr ⟨lw_p23, List.forall_mem_cons.mpr ⟨lw_p24, List.forall_mem_cons.mpr ⟨lw_p25, List.forall_mem_cons.mpr ⟨lw_p26, List.forall_mem_cons.mpr ⟨lw_p27, List.forall_mem_cons.mpr ⟨lw_p28, List.forall_mem_cons.mpr ⟨lw_p29, List.forall_mem_cons.mpr ⟨lw_p30, List.forall_mem_cons.mpr ⟨lw_p31, fun _ h => absurd h List.not_mem_nil⟩⟩⟩⟩⟩⟩⟩⟩⟩⟩⟩⟩⟩⟩⟩⟩
theorem lw_p32 : lw_okq (⟨"TwoElbows$Shelf", "lowestBits", "(J)J"⟩, 4) := ⟨⟨by decide +kernel, by decide +kernel⟩, List.mem_of_getElem? (i := 218) (by decide +kernel), List.mem_of_getElem? (i := 818) (by decide +kernel), List.mem_of_getElem? (i := 819) (by decide +kernel)⟩
theorem lw_p33 : lw_okq (⟨"TwoElbowsModel", "adds", "(III)V"⟩, 54) := ⟨⟨by decide +kernel, by decide +kernel⟩, List.mem_of_getElem? (i := 861) (by decide +kernel), List.mem_of_getElem? (i := 1049) (by decide +kernel), List.mem_of_getElem? (i := 1050) (by decide +kernel)⟩
theorem lw_p34 : lw_okq (⟨"TwoElbowsModel", "fits", "([III)V"⟩, 54) := ⟨⟨by decide +kernel, by decide +kernel⟩, List.mem_of_getElem? (i := 861) (by decide +kernel), List.mem_of_getElem? (i := 1067) (by decide +kernel), List.mem_of_getElem? (i := 1068) (by decide +kernel)⟩
theorem lw_p35 : lw_okq (⟨"TwoElbowsModel", "isSitter", "(I)Z"⟩, 54) := ⟨⟨by decide +kernel, by decide +kernel⟩, List.mem_of_getElem? (i := 861) (by decide +kernel), List.mem_of_getElem? (i := 1075) (by decide +kernel), List.mem_of_getElem? (i := 1076) (by decide +kernel)⟩
theorem lw_p36 : lw_okq (⟨"TwoElbowsModel", "becomes", "(II)I"⟩, 54) := ⟨⟨by decide +kernel, by decide +kernel⟩, List.mem_of_getElem? (i := 861) (by decide +kernel), List.mem_of_getElem? (i := 1086) (by decide +kernel), List.mem_of_getElem? (i := 1087) (by decide +kernel)⟩
theorem lw_p37 : lw_okq (⟨"TwoElbowsModel", "heldBy", "([II)I"⟩, 54) := ⟨⟨by decide +kernel, by decide +kernel⟩, List.mem_of_getElem? (i := 861) (by decide +kernel), List.mem_of_getElem? (i := 1097) (by decide +kernel), List.mem_of_getElem? (i := 1098) (by decide +kernel)⟩
theorem lw_p38 : lw_okq (⟨"TwoElbowsModel", "rests", "()I"⟩, 54) := ⟨⟨by decide +kernel, by decide +kernel⟩, List.mem_of_getElem? (i := 861) (by decide +kernel), List.mem_of_getElem? (i := 1101) (by decide +kernel), List.mem_of_getElem? (i := 1102) (by decide +kernel)⟩
theorem lw_p39 : lw_okq (⟨"TwoElbowsModel", "isRest", "(I)Z"⟩, 54) := ⟨⟨by decide +kernel, by decide +kernel⟩, List.mem_of_getElem? (i := 861) (by decide +kernel), List.mem_of_getElem? (i := 1109) (by decide +kernel), List.mem_of_getElem? (i := 1110) (by decide +kernel)⟩
theorem lw_p40 : lw_okq (⟨"TwoElbowsModel", "workOut", "(II)I"⟩, 54) := ⟨⟨by decide +kernel, by decide +kernel⟩, List.mem_of_getElem? (i := 861) (by decide +kernel), List.mem_of_getElem? (i := 1122) (by decide +kernel), List.mem_of_getElem? (i := 1123) (by decide +kernel)⟩
theorem lw_p41 : lw_okq (⟨"TwoElbowsModel", "either", "()I"⟩, 54) := ⟨⟨by decide +kernel, by decide +kernel⟩, List.mem_of_getElem? (i := 861) (by decide +kernel), List.mem_of_getElem? (i := 1126) (by decide +kernel), List.mem_of_getElem? (i := 1127) (by decide +kernel)⟩
theorem lw_p42 : lw_okq (⟨"TwoElbowsModel", "bothOf", "()I"⟩, 54) := ⟨⟨by decide +kernel, by decide +kernel⟩, List.mem_of_getElem? (i := 861) (by decide +kernel), List.mem_of_getElem? (i := 1130) (by decide +kernel), List.mem_of_getElem? (i := 1131) (by decide +kernel)⟩
theorem lw_p43 : lw_okq (⟨"TwoElbowsModel", "compared", "()I"⟩, 54) := ⟨⟨by decide +kernel, by decide +kernel⟩, List.mem_of_getElem? (i := 861) (by decide +kernel), List.mem_of_getElem? (i := 1134) (by decide +kernel), List.mem_of_getElem? (i := 1135) (by decide +kernel)⟩
theorem lw_p44 : lw_okq (⟨"TwoElbowsModel", "sums", "()I"⟩, 54) := ⟨⟨by decide +kernel, by decide +kernel⟩, List.mem_of_getElem? (i := 861) (by decide +kernel), List.mem_of_getElem? (i := 1138) (by decide +kernel), List.mem_of_getElem? (i := 1139) (by decide +kernel)⟩
theorem lw_p45 : lw_okq (⟨"TwoElbowsModel", "product", "()I"⟩, 54) := ⟨⟨by decide +kernel, by decide +kernel⟩, List.mem_of_getElem? (i := 861) (by decide +kernel), List.mem_of_getElem? (i := 1142) (by decide +kernel), List.mem_of_getElem? (i := 1143) (by decide +kernel)⟩
theorem lw_p46 : lw_okq (⟨"TwoElbowsModel", "one", "()I"⟩, 54) := ⟨⟨by decide +kernel, by decide +kernel⟩, List.mem_of_getElem? (i := 861) (by decide +kernel), List.mem_of_getElem? (i := 1146) (by decide +kernel), List.mem_of_getElem? (i := 1147) (by decide +kernel)⟩
theorem lw_p47 : lw_okq (⟨"TwoElbowsModel", "byteAt", "()I"⟩, 54) := ⟨⟨by decide +kernel, by decide +kernel⟩, List.mem_of_getElem? (i := 861) (by decide +kernel), List.mem_of_getElem? (i := 1150) (by decide +kernel), List.mem_of_getElem? (i := 1151) (by decide +kernel)⟩
def lw_privs_3 : List (MethodName × Nat) := [(⟨"TwoElbows$Shelf", "lowestBits", "(J)J"⟩, 4), (⟨"TwoElbowsModel", "adds", "(III)V"⟩, 54), (⟨"TwoElbowsModel", "fits", "([III)V"⟩, 54), (⟨"TwoElbowsModel", "isSitter", "(I)Z"⟩, 54), (⟨"TwoElbowsModel", "becomes", "(II)I"⟩, 54), (⟨"TwoElbowsModel", "heldBy", "([II)I"⟩, 54), (⟨"TwoElbowsModel", "rests", "()I"⟩, 54), (⟨"TwoElbowsModel", "isRest", "(I)Z"⟩, 54), (⟨"TwoElbowsModel", "workOut", "(II)I"⟩, 54), (⟨"TwoElbowsModel", "either", "()I"⟩, 54), (⟨"TwoElbowsModel", "bothOf", "()I"⟩, 54), (⟨"TwoElbowsModel", "compared", "()I"⟩, 54), (⟨"TwoElbowsModel", "sums", "()I"⟩, 54), (⟨"TwoElbowsModel", "product", "()I"⟩, 54), (⟨"TwoElbowsModel", "one", "()I"⟩, 54), (⟨"TwoElbowsModel", "byteAt", "()I"⟩, 54)]
theorem lw_r3 : ∀ q ∈ lw_privs_3, lw_okq q := List.forall_mem_cons.mpr ⟨lw_p32, List.forall_mem_cons.mpr ⟨lw_p33, List.forall_mem_cons.mpr ⟨lw_p34, List.forall_mem_cons.mpr ⟨lw_p35, List.forall_mem_cons.mpr ⟨lw_p36, List.forall_mem_cons.mpr ⟨lw_p37, List.forall_mem_cons.mpr ⟨lw_p38, List.forall_mem_cons.mpr ⟨lw_p39, List.forall_mem_cons.mpr ⟨lw_p40, List.forall_mem_cons.mpr ⟨lw_p41, List.forall_mem_cons.mpr ⟨lw_p42, List.forall_mem_cons.mpr ⟨lw_p43, List.forall_mem_cons.mpr ⟨lw_p44, List.forall_mem_cons.mpr ⟨lw_p45, List.forall_mem_cons.mpr ⟨lw_p46, List.forall_mem_cons.mpr ⟨lw_p47, fun _ h => absurd h List.not_mem_nil⟩⟩⟩⟩⟩⟩⟩⟩⟩⟩⟩⟩⟩⟩⟩⟩
theorem lw_p48 : lw_okq (⟨"TwoElbowsModel", "wrong", "()I"⟩, 54) := ⟨⟨by decide +kernel, by decide +kernel⟩, List.mem_of_getElem? (i := 861) (by decide +kernel), List.mem_of_getElem? (i := 1154) (by decide +kernel), List.mem_of_getElem? (i := 1155) (by decide +kernel)⟩
theorem lw_p49 : lw_okq (⟨"TwoElbowsModel", "takes", "(I)Z"⟩, 54) := ⟨⟨by decide +kernel, by decide +kernel⟩, List.mem_of_getElem? (i := 861) (by decide +kernel), List.mem_of_getElem? (i := 1158) (by decide +kernel), List.mem_of_getElem? (i := 1159) (by decide +kernel)⟩
theorem lw_p50 : lw_okq (⟨"TwoElbowsModel", "strengthAt", "([IIIII)I"⟩, 54) := ⟨⟨by decide +kernel, by decide +kernel⟩, List.mem_of_getElem? (i := 861) (by decide +kernel), List.mem_of_getElem? (i := 1169) (by decide +kernel), List.mem_of_getElem? (i := 1170) (by decide +kernel)⟩
theorem lw_p51 : lw_okq (⟨"TwoElbowsModel", "starts", "(I)V"⟩, 54) := ⟨⟨by decide +kernel, by decide +kernel⟩, List.mem_of_getElem? (i := 861) (by decide +kernel), List.mem_of_getElem? (i := 1178) (by decide +kernel), List.mem_of_getElem? (i := 1179) (by decide +kernel)⟩
theorem lw_p52 : lw_okq (⟨"TwoElbowsModel", "hourGoes", "([IIII)V"⟩, 54) := ⟨⟨by decide +kernel, by decide +kernel⟩, List.mem_of_getElem? (i := 861) (by decide +kernel), List.mem_of_getElem? (i := 1182) (by decide +kernel), List.mem_of_getElem? (i := 1183) (by decide +kernel)⟩
theorem lw_p53 : lw_okq (⟨"TwoElbowsModel", "restGoes", "([IIII)V"⟩, 54) := ⟨⟨by decide +kernel, by decide +kernel⟩, List.mem_of_getElem? (i := 861) (by decide +kernel), List.mem_of_getElem? (i := 1186) (by decide +kernel), List.mem_of_getElem? (i := 1187) (by decide +kernel)⟩
theorem lw_p54 : lw_okq (⟨"TwoElbowsModel", "isThere", "(II)Z"⟩, 54) := ⟨⟨by decide +kernel, by decide +kernel⟩, List.mem_of_getElem? (i := 861) (by decide +kernel), List.mem_of_getElem? (i := 1190) (by decide +kernel), List.mem_of_getElem? (i := 1191) (by decide +kernel)⟩
theorem lw_p55 : lw_okq (⟨"TwoElbowsModel", "leaves", "([II)V"⟩, 54) := ⟨⟨by decide +kernel, by decide +kernel⟩, List.mem_of_getElem? (i := 861) (by decide +kernel), List.mem_of_getElem? (i := 1194) (by decide +kernel), List.mem_of_getElem? (i := 1195) (by decide +kernel)⟩
theorem lw_p56 : lw_okq (⟨"TwoElbowsModel", "pushes", "([IIII)V"⟩, 54) := ⟨⟨by decide +kernel, by decide +kernel⟩, List.mem_of_getElem? (i := 861) (by decide +kernel), List.mem_of_getElem? (i := 1198) (by decide +kernel), List.mem_of_getElem? (i := 1199) (by decide +kernel)⟩
theorem lw_p57 : lw_okq (⟨"TwoElbowsModel", "coughs", "()I"⟩, 54) := ⟨⟨by decide +kernel, by decide +kernel⟩, List.mem_of_getElem? (i := 861) (by decide +kernel), List.mem_of_getElem? (i := 1202) (by decide +kernel), List.mem_of_getElem? (i := 1203) (by decide +kernel)⟩
theorem lw_p58 : lw_okq (⟨"TwoElbowsModel", "takesFree", "([II)V"⟩, 54) := ⟨⟨by decide +kernel, by decide +kernel⟩, List.mem_of_getElem? (i := 861) (by decide +kernel), List.mem_of_getElem? (i := 1207) (by decide +kernel), List.mem_of_getElem? (i := 1208) (by decide +kernel)⟩
theorem lw_p59 : lw_okq (⟨"TwoElbowsModel", "comfortIn", "([III)I"⟩, 54) := ⟨⟨by decide +kernel, by decide +kernel⟩, List.mem_of_getElem? (i := 861) (by decide +kernel), List.mem_of_getElem? (i := 1211) (by decide +kernel), List.mem_of_getElem? (i := 1212) (by decide +kernel)⟩
theorem lw_p60 : lw_okq (⟨"TwoElbowsModel", "isAsItWas", "(I)Z"⟩, 54) := ⟨⟨by decide +kernel, by decide +kernel⟩, List.mem_of_getElem? (i := 861) (by decide +kernel), List.mem_of_getElem? (i := 1228) (by decide +kernel), List.mem_of_getElem? (i := 1229) (by decide +kernel)⟩
theorem lw_p61 : lw_okq (⟨"TwoElbowsModel", "goesOn", "(II)V"⟩, 54) := ⟨⟨by decide +kernel, by decide +kernel⟩, List.mem_of_getElem? (i := 861) (by decide +kernel), List.mem_of_getElem? (i := 1236) (by decide +kernel), List.mem_of_getElem? (i := 1237) (by decide +kernel)⟩
theorem lw_p62 : lw_okq (⟨"TwoElbowsModel", "thinks", "(I)V"⟩, 54) := ⟨⟨by decide +kernel, by decide +kernel⟩, List.mem_of_getElem? (i := 861) (by decide +kernel), List.mem_of_getElem? (i := 1240) (by decide +kernel), List.mem_of_getElem? (i := 1241) (by decide +kernel)⟩
theorem lw_p63 : lw_okq (⟨"TwoElbowsModel", "swaps", "(II)V"⟩, 54) := ⟨⟨by decide +kernel, by decide +kernel⟩, List.mem_of_getElem? (i := 861) (by decide +kernel), List.mem_of_getElem? (i := 1252) (by decide +kernel), List.mem_of_getElem? (i := 1253) (by decide +kernel)⟩
def lw_privs_4 : List (MethodName × Nat) := [(⟨"TwoElbowsModel", "wrong", "()I"⟩, 54), (⟨"TwoElbowsModel", "takes", "(I)Z"⟩, 54), (⟨"TwoElbowsModel", "strengthAt", "([IIIII)I"⟩, 54), (⟨"TwoElbowsModel", "starts", "(I)V"⟩, 54), (⟨"TwoElbowsModel", "hourGoes", "([IIII)V"⟩, 54), (⟨"TwoElbowsModel", "restGoes", "([IIII)V"⟩, 54), (⟨"TwoElbowsModel", "isThere", "(II)Z"⟩, 54), (⟨"TwoElbowsModel", "leaves", "([II)V"⟩, 54), (⟨"TwoElbowsModel", "pushes", "([IIII)V"⟩, 54), (⟨"TwoElbowsModel", "coughs", "()I"⟩, 54), (⟨"TwoElbowsModel", "takesFree", "([II)V"⟩, 54), (⟨"TwoElbowsModel", "comfortIn", "([III)I"⟩, 54), (⟨"TwoElbowsModel", "isAsItWas", "(I)Z"⟩, 54), (⟨"TwoElbowsModel", "goesOn", "(II)V"⟩, 54), (⟨"TwoElbowsModel", "thinks", "(I)V"⟩, 54), (⟨"TwoElbowsModel", "swaps", "(II)V"⟩, 54)]
theorem lw_r4 : ∀ q ∈ lw_privs_4, lw_okq q := List.forall_mem_cons.mpr ⟨lw_p48, List.forall_mem_cons.mpr ⟨lw_p49, List.forall_mem_cons.mpr ⟨lw_p50, List.forall_mem_cons.mpr ⟨lw_p51, List.forall_mem_cons.mpr ⟨lw_p52, List.forall_mem_cons.mpr ⟨lw_p53, List.forall_mem_cons.mpr ⟨lw_p54, List.forall_mem_cons.mpr ⟨lw_p55, List.forall_mem_cons.mpr ⟨lw_p56, List.forall_mem_cons.mpr ⟨lw_p57, List.forall_mem_cons.mpr ⟨lw_p58, List.forall_mem_cons.mpr ⟨lw_p59, List.forall_mem_cons.mpr ⟨lw_p60, List.forall_mem_cons.mpr ⟨lw_p61, List.forall_mem_cons.mpr ⟨lw_p62, List.forall_mem_cons.mpr ⟨lw_p63, fun _ h => absurd h List.not_mem_nil⟩⟩⟩⟩⟩⟩⟩⟩⟩⟩⟩⟩⟩⟩⟩⟩
theorem lw_p64 : lw_okq (⟨"TwoElbowsModel", "allThatComes", "(I)I"⟩, 54) := ⟨⟨by decide +kernel, by decide +kernel⟩, List.mem_of_getElem? (i := 861) (by decide +kernel), List.mem_of_getElem? (i := 1260) (by decide +kernel), List.mem_of_getElem? (i := 1261) (by decide +kernel)⟩
theorem lw_p65 : lw_okq (⟨"TwoElbowsModel", "isCalm", "(III)Z"⟩, 54) := ⟨⟨by decide +kernel, by decide +kernel⟩, List.mem_of_getElem? (i := 861) (by decide +kernel), List.mem_of_getElem? (i := 1268) (by decide +kernel), List.mem_of_getElem? (i := 1269) (by decide +kernel)⟩
theorem lw_p66 : lw_okq (⟨"TwoElbowsModel", "looksAt", "(I)V"⟩, 54) := ⟨⟨by decide +kernel, by decide +kernel⟩, List.mem_of_getElem? (i := 861) (by decide +kernel), List.mem_of_getElem? (i := 1283) (by decide +kernel), List.mem_of_getElem? (i := 1284) (by decide +kernel)⟩
theorem lw_p67 : lw_okq (⟨"TwoElbowsModel", "sells", "(II)I"⟩, 54) := ⟨⟨by decide +kernel, by decide +kernel⟩, List.mem_of_getElem? (i := 861) (by decide +kernel), List.mem_of_getElem? (i := 1287) (by decide +kernel), List.mem_of_getElem? (i := 1288) (by decide +kernel)⟩
theorem lw_p68 : lw_okq (⟨"TwoElbowsModel", "isBody", "(I)Z"⟩, 54) := ⟨⟨by decide +kernel, by decide +kernel⟩, List.mem_of_getElem? (i := 861) (by decide +kernel), List.mem_of_getElem? (i := 1315) (by decide +kernel), List.mem_of_getElem? (i := 1316) (by decide +kernel)⟩
theorem lw_p69 : lw_okq (⟨"TwoElbowsModel", "holdsAs", "(II)I"⟩, 54) := ⟨⟨by decide +kernel, by decide +kernel⟩, List.mem_of_getElem? (i := 861) (by decide +kernel), List.mem_of_getElem? (i := 1319) (by decide +kernel), List.mem_of_getElem? (i := 1320) (by decide +kernel)⟩
theorem lw_p70 : lw_okq (⟨"TwoElbowsModel", "begins", "(I)V"⟩, 54) := ⟨⟨by decide +kernel, by decide +kernel⟩, List.mem_of_getElem? (i := 861) (by decide +kernel), List.mem_of_getElem? (i := 1323) (by decide +kernel), List.mem_of_getElem? (i := 1324) (by decide +kernel)⟩
theorem lw_p71 : lw_okq (⟨"TwoElbowsModel", "pushesAs", "(II)I"⟩, 54) := ⟨⟨by decide +kernel, by decide +kernel⟩, List.mem_of_getElem? (i := 861) (by decide +kernel), List.mem_of_getElem? (i := 1327) (by decide +kernel), List.mem_of_getElem? (i := 1328) (by decide +kernel)⟩
theorem lw_p72 : lw_okq (⟨"TwoElbowsModel", "yieldsAs", "(II)I"⟩, 54) := ⟨⟨by decide +kernel, by decide +kernel⟩, List.mem_of_getElem? (i := 861) (by decide +kernel), List.mem_of_getElem? (i := 1331) (by decide +kernel), List.mem_of_getElem? (i := 1332) (by decide +kernel)⟩
theorem lw_p73 : lw_okq (⟨"TwoElbowsModel", "tradesAs", "(II)I"⟩, 54) := ⟨⟨by decide +kernel, by decide +kernel⟩, List.mem_of_getElem? (i := 861) (by decide +kernel), List.mem_of_getElem? (i := 1335) (by decide +kernel), List.mem_of_getElem? (i := 1336) (by decide +kernel)⟩
theorem lw_p74 : lw_okq (⟨"TwoElbowsModel", "refusal", "(II)I"⟩, 54) := ⟨⟨by decide +kernel, by decide +kernel⟩, List.mem_of_getElem? (i := 861) (by decide +kernel), List.mem_of_getElem? (i := 1355) (by decide +kernel), List.mem_of_getElem? (i := 1356) (by decide +kernel)⟩
theorem lw_p75 : lw_okq (⟨"TwoElbowsModel", "kindOf", "(I)I"⟩, 54) := ⟨⟨by decide +kernel, by decide +kernel⟩, List.mem_of_getElem? (i := 861) (by decide +kernel), List.mem_of_getElem? (i := 1375) (by decide +kernel), List.mem_of_getElem? (i := 1376) (by decide +kernel)⟩
def lw_privs_5 : List (MethodName × Nat) := [(⟨"TwoElbowsModel", "allThatComes", "(I)I"⟩, 54), (⟨"TwoElbowsModel", "isCalm", "(III)Z"⟩, 54), (⟨"TwoElbowsModel", "looksAt", "(I)V"⟩, 54), (⟨"TwoElbowsModel", "sells", "(II)I"⟩, 54), (⟨"TwoElbowsModel", "isBody", "(I)Z"⟩, 54), (⟨"TwoElbowsModel", "holdsAs", "(II)I"⟩, 54), (⟨"TwoElbowsModel", "begins", "(I)V"⟩, 54), (⟨"TwoElbowsModel", "pushesAs", "(II)I"⟩, 54), (⟨"TwoElbowsModel", "yieldsAs", "(II)I"⟩, 54), (⟨"TwoElbowsModel", "tradesAs", "(II)I"⟩, 54), (⟨"TwoElbowsModel", "refusal", "(II)I"⟩, 54), (⟨"TwoElbowsModel", "kindOf", "(I)I"⟩, 54)]
theorem lw_r5 : ∀ q ∈ lw_privs_5, lw_okq q := List.forall_mem_cons.mpr ⟨lw_p64, List.forall_mem_cons.mpr ⟨lw_p65, List.forall_mem_cons.mpr ⟨lw_p66, List.forall_mem_cons.mpr ⟨lw_p67, List.forall_mem_cons.mpr ⟨lw_p68, List.forall_mem_cons.mpr ⟨lw_p69, List.forall_mem_cons.mpr ⟨lw_p70, List.forall_mem_cons.mpr ⟨lw_p71, List.forall_mem_cons.mpr ⟨lw_p72, List.forall_mem_cons.mpr ⟨lw_p73, List.forall_mem_cons.mpr ⟨lw_p74, List.forall_mem_cons.mpr ⟨lw_p75, fun _ h => absurd h List.not_mem_nil⟩⟩⟩⟩⟩⟩⟩⟩⟩⟩⟩⟩
def lw_privs : List (MethodName × Nat) := lw_privs_1 ++ (lw_privs_2 ++ (lw_privs_3 ++ (lw_privs_4 ++ (lw_privs_5))))
def lw_tbl : List Cond := k2_sels lw_privs ++ tables_1
theorem lw_privs_ok : ∀ q ∈ lw_privs, lw_okq q := by
  show ∀ q ∈ lw_privs_1 ++ (lw_privs_2 ++ (lw_privs_3 ++ (lw_privs_4 ++ (lw_privs_5)))), lw_okq q
  exact List.forall_mem_append.mpr ⟨lw_r1, List.forall_mem_append.mpr ⟨lw_r2, List.forall_mem_append.mpr ⟨lw_r3, List.forall_mem_append.mpr ⟨lw_r4, lw_r5⟩⟩⟩⟩

def RX0 : String := "TwoElbows$Changes"
def TX0 : u_T := fun k => match k with
  | 0 => ("TwoElbows$Changes", "sitters", "[I", true)
  | 1 => ("TwoElbows$Changes", "traits", "[I", true)
  | 2 => ("TwoElbows$Changes", "before", "[I", true)
  | 3 => ("TwoElbows$Changes", "behind", "[I", true)
  | 4 => ("TwoElbows$Changes", "done", "I", false)
  | _ => ("TwoElbows$Changes", "all", "I", false)
def tyX0 : Nat → FieldType := fun k => match k with
  | 0 => .array .int
  | 1 => .array .int
  | 2 => .array .int
  | 3 => .array .int
  | 4 => .int
  | _ => .int
abbrev wsX00 : List Cond := u_ws RX0 TX0 6
theorem nmX0 : ∀ a, a < 6 → ∀ b, b < 6 → a ≠ b → (TX0 a).2.1 ≠ (TX0 b).2.1 := by decide +kernel
theorem tyX0_ok : ∀ k, k < 6 → parseFieldDescriptor (TX0 k).2.2.1 = some (tyX0 k) := by decide +kernel
abbrev cX0_init : ByteArray := prog_2_method_1_code
def yX0_init : MethodName := ⟨RX0, "<init>", "()V"⟩
abbrev cX0_undoable : ByteArray := prog_2_method_2_code
def yX0_undoable : MethodName := ⟨RX0, "undoable", "()I"⟩
abbrev cX0_add : ByteArray := prog_2_method_3_code
def yX0_add : MethodName := ⟨RX0, "add", "(IIII)V"⟩
abbrev cX0_takeBack : ByteArray := prog_2_method_4_code
def yX0_takeBack : MethodName := ⟨RX0, "takeBack", "(LTwoElbows$Sitters;)I"⟩
abbrev cX0_makeAgain : ByteArray := prog_2_method_5_code
def yX0_makeAgain : MethodName := ⟨RX0, "makeAgain", "(LTwoElbows$Sitters;)I"⟩
abbrev cX0_forgetFirst : ByteArray := prog_2_method_6_code
def yX0_forgetFirst : MethodName := ⟨RX0, "forgetFirst", "()V"⟩
def RX1 : String := "TwoElbows$Course"
def TX1 : u_T := fun k => match k with
  | 0 => ("TwoElbows$Course", "people", "LTwoElbows$Sitters;", true)
  | 1 => ("TwoElbows$Course", "law", "LTwoElbows$Law;", true)
  | 2 => ("TwoElbows$Course", "wide", "[I", true)
  | 3 => ("TwoElbows$Course", "left", "[I", true)
  | 4 => ("TwoElbows$Course", "right", "[I", true)
  | 5 => ("TwoElbows$Course", "fight", "[I", true)
  | 6 => ("TwoElbows$Course", "comfort", "[I", true)
  | 7 => ("TwoElbows$Course", "yields", "[I", true)
  | 8 => ("TwoElbows$Course", "who", "[I", true)
  | 9 => ("TwoElbows$Course", "lost", "[I", true)
  | 10 => ("TwoElbows$Course", "moved", "Z", false)
  | 11 => ("TwoElbows$Course", "now", "I", false)
  | 12 => ("TwoElbows$Course", "fights", "I", false)
  | 13 => ("TwoElbows$Course", "draw", "I", false)
  | _ => ("TwoElbows$Course", "quietFrom", "I", false)
def tyX1 : Nat → FieldType := fun k => match k with
  | 0 => .object "TwoElbows$Sitters"
  | 1 => .object "TwoElbows$Law"
  | 2 => .array .int
  | 3 => .array .int
  | 4 => .array .int
  | 5 => .array .int
  | 6 => .array .int
  | 7 => .array .int
  | 8 => .array .int
  | 9 => .array .int
  | 10 => .boolean
  | 11 => .int
  | 12 => .int
  | 13 => .int
  | _ => .int
abbrev wsX10 : List Cond := u_ws RX1 TX1 15
theorem nmX1 : ∀ a, a < 15 → ∀ b, b < 15 → a ≠ b → (TX1 a).2.1 ≠ (TX1 b).2.1 := by decide +kernel
theorem tyX1_ok : ∀ k, k < 15 → parseFieldDescriptor (TX1 k).2.2.1 = some (tyX1 k) := by decide +kernel
abbrev cX1_init : ByteArray := prog_3_method_1_code
def yX1_init : MethodName := ⟨RX1, "<init>", "(LTwoElbows$Sitters;LTwoElbows$Law;)V"⟩
abbrev cX1_becomeAs : ByteArray := prog_3_method_2_code
def yX1_becomeAs : MethodName := ⟨RX1, "becomeAs", "(LTwoElbows$Course;)V"⟩
abbrev cX1_begin : ByteArray := prog_3_method_3_code
def yX1_begin : MethodName := ⟨RX1, "begin", "(LTwoElbows$Course;I)V"⟩
abbrev cX1_beginAnew : ByteArray := prog_3_method_4_code
def yX1_beginAnew : MethodName := ⟨RX1, "beginAnew", "(LTwoElbows$Course;I)V"⟩
abbrev cX1_changeSeats : ByteArray := prog_3_method_5_code
def yX1_changeSeats : MethodName := ⟨RX1, "changeSeats", "(II)V"⟩
abbrev cX1_fit : ByteArray := prog_3_method_6_code
def yX1_fit : MethodName := ⟨RX1, "fit", "(II)V"⟩
abbrev cX1_free : ByteArray := prog_3_method_7_code
def yX1_free : MethodName := ⟨RX1, "free", "(I)I"⟩
abbrev cX1_inchesOf : ByteArray := prog_3_method_8_code
def yX1_inchesOf : MethodName := ⟨RX1, "inchesOf", "(I)I"⟩
abbrev cX1_comfortOfAll : ByteArray := prog_3_method_9_code
def yX1_comfortOfAll : MethodName := ⟨RX1, "comfortOfAll", "()I"⟩
abbrev cX1_passHours : ByteArray := prog_3_method_10_code
def yX1_passHours : MethodName := ⟨RX1, "passHours", "(I)V"⟩
abbrev cX1_strengthAt : ByteArray := prog_3_method_11_code
def yX1_strengthAt : MethodName := ⟨RX1, "strengthAt", "(III)I"⟩
abbrev cX1_meet : ByteArray := prog_3_method_12_code
def yX1_meet : MethodName := ⟨RX1, "meet", "(I)V"⟩
abbrev cX1_leave : ByteArray := prog_3_method_13_code
def yX1_leave : MethodName := ⟨RX1, "leave", "([II)V"⟩
abbrev cX1_takeFree : ByteArray := prog_3_method_14_code
def yX1_takeFree : MethodName := ⟨RX1, "takeFree", "([II)Z"⟩
abbrev cX1_contend : ByteArray := prog_3_method_15_code
def yX1_contend : MethodName := ⟨RX1, "contend", "(I)V"⟩
abbrev cX1_wrest : ByteArray := prog_3_method_16_code
def yX1_wrest : MethodName := ⟨RX1, "wrest", "([I[IIII)V"⟩
abbrev cX1_nextCough : ByteArray := prog_3_method_17_code
def yX1_nextCough : MethodName := ⟨RX1, "nextCough", "()I"⟩
abbrev cX1_inchesOfSeat : ByteArray := prog_3_method_18_code
def yX1_inchesOfSeat : MethodName := ⟨RX1, "inchesOfSeat", "(I)I"⟩
abbrev cX1_fightsOfSeat : ByteArray := prog_3_method_19_code
def yX1_fightsOfSeat : MethodName := ⟨RX1, "fightsOfSeat", "(I)I"⟩
abbrev cX1_comfortAt : ByteArray := prog_3_method_20_code
def yX1_comfortAt : MethodName := ⟨RX1, "comfortAt", "(I)I"⟩
def RX2 : String := "TwoElbows$Holdings"
def TX2 : u_T := fun k => match k with
  | 0 => ("TwoElbows$Holdings", "kinds", "[I", true)
  | 1 => ("TwoElbows$Holdings", "trace", "[I", true)
  | 2 => ("TwoElbows$Holdings", "number", "I", false)
  | 3 => ("TwoElbows$Holdings", "ran", "I", false)
  | _ => ("TwoElbows$Holdings", "actor", "I", false)
def tyX2 : Nat → FieldType := fun k => match k with
  | 0 => .array .int
  | 1 => .array .int
  | 2 => .int
  | 3 => .int
  | _ => .int
abbrev wsX20 : List Cond := u_ws RX2 TX2 5
theorem nmX2 : ∀ a, a < 5 → ∀ b, b < 5 → a ≠ b → (TX2 a).2.1 ≠ (TX2 b).2.1 := by decide +kernel
theorem tyX2_ok : ∀ k, k < 5 → parseFieldDescriptor (TX2 k).2.2.1 = some (tyX2 k) := by decide +kernel
abbrev cX2_init : ByteArray := prog_4_method_1_code
def yX2_init : MethodName := ⟨RX2, "<init>", "()V"⟩
abbrev cX2_isKind : ByteArray := prog_4_method_2_code
def yX2_isKind : MethodName := ⟨RX2, "isKind", "(I)Z"⟩
abbrev cX2_number : ByteArray := prog_4_method_3_code
def yX2_number : MethodName := ⟨RX2, "number", "()I"⟩
abbrev cX2_ran : ByteArray := prog_4_method_4_code
def yX2_ran : MethodName := ⟨RX2, "ran", "()I"⟩
abbrev cX2_has : ByteArray := prog_4_method_5_code
def yX2_has : MethodName := ⟨RX2, "has", "(I)Z"⟩
abbrev cX2_add : ByteArray := prog_4_method_6_code
def yX2_add : MethodName := ⟨RX2, "add", "(I)I"⟩
abbrev cX2_kindOf : ByteArray := prog_4_method_7_code
def yX2_kindOf : MethodName := ⟨RX2, "kindOf", "(I)I"⟩
abbrev cX2_isUnder : ByteArray := prog_4_method_8_code
def yX2_isUnder : MethodName := ⟨RX2, "isUnder", "(II)Z"⟩
abbrev cX2_ranAs : ByteArray := prog_4_method_9_code
def yX2_ranAs : MethodName := ⟨RX2, "ranAs", "(I)I"⟩
abbrev cX2_run : ByteArray := prog_4_method_10_code
def yX2_run : MethodName := ⟨RX2, "run", "(III)I"⟩
abbrev cX2_perform : ByteArray := prog_4_method_11_code
def yX2_perform : MethodName := ⟨RX2, "perform", "(IIII)I"⟩
abbrev cX2_holderOf : ByteArray := prog_4_method_12_code
def yX2_holderOf : MethodName := ⟨RX2, "holderOf", "(II)I"⟩
abbrev cX2_begin : ByteArray := prog_4_method_13_code
def yX2_begin : MethodName := ⟨RX2, "begin", "(I)V"⟩
def RX3 : String := "TwoElbows$Law"
def TX3 : u_T := fun k => match k with
  | 0 => ("TwoElbows$Law", "signs", "[I", true)
  | 1 => ("TwoElbows$Law", "values", "[I", true)
  | 2 => ("TwoElbows$Law", "stack", "[I", true)
  | 3 => ("TwoElbows$Law", "known", "[I", true)
  | 4 => ("TwoElbows$Law", "steps", "I", false)
  | _ => ("TwoElbows$Law", "top", "I", false)
def tyX3 : Nat → FieldType := fun k => match k with
  | 0 => .array .int
  | 1 => .array .int
  | 2 => .array .int
  | 3 => .array .int
  | 4 => .int
  | _ => .int
abbrev wsX30 : List Cond := u_ws RX3 TX3 6
theorem nmX3 : ∀ a, a < 6 → ∀ b, b < 6 → a ≠ b → (TX3 a).2.1 ≠ (TX3 b).2.1 := by decide +kernel
theorem tyX3_ok : ∀ k, k < 6 → parseFieldDescriptor (TX3 k).2.2.1 = some (tyX3 k) := by decide +kernel
abbrev cX3_init : ByteArray := prog_5_method_1_code
def yX3_init : MethodName := ⟨RX3, "<init>", "()V"⟩
abbrev cX3_isTold : ByteArray := prog_5_method_2_code
def yX3_isTold : MethodName := ⟨RX3, "isTold", "()Z"⟩
abbrev cX3_hearsCoughs : ByteArray := prog_5_method_3_code
def yX3_hearsCoughs : MethodName := ⟨RX3, "hearsCoughs", "()Z"⟩
abbrev cX3_clear : ByteArray := prog_5_method_4_code
def yX3_clear : MethodName := ⟨RX3, "clear", "()V"⟩
abbrev cX3_become : ByteArray := prog_5_method_5_code
def yX3_become : MethodName := ⟨RX3, "become", "(LTwoElbows$Law;)V"⟩
abbrev cX3_add : ByteArray := prog_5_method_6_code
def yX3_add : MethodName := ⟨RX3, "add", "(II)V"⟩
abbrev cX3_steps : ByteArray := prog_5_method_7_code
def yX3_steps : MethodName := ⟨RX3, "steps", "()I"⟩
abbrev cX3_leadOn : ByteArray := prog_5_method_8_code
def yX3_leadOn : MethodName := ⟨RX3, "leadOn", "(I)V"⟩
abbrev cX3_work : ByteArray := prog_5_method_9_code
def yX3_work : MethodName := ⟨RX3, "work", "()I"⟩
abbrev cX3_joined : ByteArray := prog_5_method_10_code
def yX3_joined : MethodName := ⟨RX3, "joined", "(III)I"⟩
abbrev cX3_push : ByteArray := prog_5_method_11_code
def yX3_push : MethodName := ⟨RX3, "push", "(I)V"⟩
abbrev cX3_pull : ByteArray := prog_5_method_12_code
def yX3_pull : MethodName := ⟨RX3, "pull", "()I"⟩
def RX4 : String := "TwoElbows$Past"
def TX4 : u_T := fun k => match k with
  | 0 => ("TwoElbows$Past", "left", "[I", true)
  | 1 => ("TwoElbows$Past", "right", "[I", true)
  | _ => ("TwoElbows$Past", "fight", "[I", true)
def tyX4 : Nat → FieldType := fun k => match k with
  | 0 => .array .int
  | 1 => .array .int
  | _ => .array .int
abbrev wsX40 : List Cond := u_ws RX4 TX4 3
theorem nmX4 : ∀ a, a < 3 → ∀ b, b < 3 → a ≠ b → (TX4 a).2.1 ≠ (TX4 b).2.1 := by decide +kernel
theorem tyX4_ok : ∀ k, k < 3 → parseFieldDescriptor (TX4 k).2.2.1 = some (tyX4 k) := by decide +kernel
abbrev cX4_init : ByteArray := prog_6_method_1_code
def yX4_init : MethodName := ⟨RX4, "<init>", "()V"⟩
abbrev cX4_write : ByteArray := prog_6_method_2_code
def yX4_write : MethodName := ⟨RX4, "write", "(LTwoElbows$Course;)V"⟩
abbrev cX4_isAs : ByteArray := prog_6_method_3_code
def yX4_isAs : MethodName := ⟨RX4, "isAs", "(LTwoElbows$Course;I)Z"⟩
abbrev cX4_leftOf : ByteArray := prog_6_method_4_code
def yX4_leftOf : MethodName := ⟨RX4, "leftOf", "(II)I"⟩
abbrev cX4_rightOf : ByteArray := prog_6_method_5_code
def yX4_rightOf : MethodName := ⟨RX4, "rightOf", "(II)I"⟩
abbrev cX4_fightOf : ByteArray := prog_6_method_6_code
def yX4_fightOf : MethodName := ⟨RX4, "fightOf", "(II)I"⟩
abbrev cX4_isWithin : ByteArray := prog_6_method_7_code
def yX4_isWithin : MethodName := ⟨RX4, "isWithin", "(II)Z"⟩
def RX5 : String := "TwoElbows$Shelf"
def TX5 : u_T := fun k => match k with
  | 0 => ("TwoElbows$Shelf", "elements", "[J", true)
  | 1 => ("TwoElbows$Shelf", "length", "I", false)
  | 2 => ("TwoElbows$Shelf", "sort", "I", false)
  | _ => ("TwoElbows$Shelf", "body", "I", false)
def tyX5 : Nat → FieldType := fun k => match k with
  | 0 => .array .long
  | 1 => .int
  | 2 => .int
  | _ => .int
abbrev wsX50 : List Cond := u_ws RX5 TX5 4
theorem nmX5 : ∀ a, a < 4 → ∀ b, b < 4 → a ≠ b → (TX5 a).2.1 ≠ (TX5 b).2.1 := by decide +kernel
theorem tyX5_ok : ∀ k, k < 4 → parseFieldDescriptor (TX5 k).2.2.1 = some (tyX5 k) := by decide +kernel
abbrev cX5_init : ByteArray := prog_7_method_1_code
def yX5_init : MethodName := ⟨RX5, "<init>", "()V"⟩
abbrev cX5_isRow : ByteArray := prog_7_method_2_code
def yX5_isRow : MethodName := ⟨RX5, "isRow", "()Z"⟩
abbrev cX5_hasPlace : ByteArray := prog_7_method_3_code
def yX5_hasPlace : MethodName := ⟨RX5, "hasPlace", "(I)Z"⟩
abbrev cX5_hasPlaces : ByteArray := prog_7_method_4_code
def yX5_hasPlaces : MethodName := ⟨RX5, "hasPlaces", "(II)Z"⟩
abbrev cX5_clear : ByteArray := prog_7_method_5_code
def yX5_clear : MethodName := ⟨RX5, "clear", "()V"⟩
abbrev cX5_hold : ByteArray := prog_7_method_6_code
def yX5_hold : MethodName := ⟨RX5, "hold", "(I)V"⟩
abbrev cX5_layRow : ByteArray := prog_7_method_7_code
def yX5_layRow : MethodName := ⟨RX5, "layRow", "(II)V"⟩
abbrev cX5_lay : ByteArray := prog_7_method_8_code
def yX5_lay : MethodName := ⟨RX5, "lay", "(IJ)V"⟩
abbrev cX5_at : ByteArray := prog_7_method_9_code
def yX5_at : MethodName := ⟨RX5, "at", "(I)J"⟩
abbrev cX5_become : ByteArray := prog_7_method_10_code
def yX5_become : MethodName := ⟨RX5, "become", "(III)V"⟩
abbrev cX5_lowestBits : ByteArray := prog_7_method_11_code
def yX5_lowestBits : MethodName := ⟨RX5, "lowestBits", "(J)J"⟩
def RX6 : String := "TwoElbows$Sitters"
def TX6 : u_T := fun k => match k with
  | 0 => ("TwoElbows$Sitters", "traits", "[I", true)
  | 1 => ("TwoElbows$Sitters", "ways", "[I", true)
  | _ => ("TwoElbows$Sitters", "number", "I", false)
def tyX6 : Nat → FieldType := fun k => match k with
  | 0 => .array .int
  | 1 => .array .int
  | _ => .int
abbrev wsX60 : List Cond := u_ws RX6 TX6 3
theorem nmX6 : ∀ a, a < 3 → ∀ b, b < 3 → a ≠ b → (TX6 a).2.1 ≠ (TX6 b).2.1 := by decide +kernel
theorem tyX6_ok : ∀ k, k < 3 → parseFieldDescriptor (TX6 k).2.2.1 = some (tyX6 k) := by decide +kernel
abbrev cX6_init : ByteArray := prog_8_method_1_code
def yX6_init : MethodName := ⟨RX6, "<init>", "()V"⟩
abbrev cX6_number : ByteArray := prog_8_method_2_code
def yX6_number : MethodName := ⟨RX6, "number", "()I"⟩
abbrev cX6_rests : ByteArray := prog_8_method_3_code
def yX6_rests : MethodName := ⟨RX6, "rests", "()I"⟩
abbrev cX6_has : ByteArray := prog_8_method_4_code
def yX6_has : MethodName := ⟨RX6, "has", "(I)Z"⟩
abbrev cX6_hasRest : ByteArray := prog_8_method_5_code
def yX6_hasRest : MethodName := ⟨RX6, "hasRest", "(I)Z"⟩
abbrev cX6_add : ByteArray := prog_8_method_6_code
def yX6_add : MethodName := ⟨RX6, "add", "(III)I"⟩
abbrev cX6_trait : ByteArray := prog_8_method_7_code
def yX6_trait : MethodName := ⟨RX6, "trait", "(II)I"⟩
abbrev cX6_become : ByteArray := prog_8_method_8_code
def yX6_become : MethodName := ⟨RX6, "become", "(III)V"⟩
abbrev cX6_how : ByteArray := prog_8_method_9_code
def yX6_how : MethodName := ⟨RX6, "how", "(II)I"⟩
abbrev cX6_tell : ByteArray := prog_8_method_10_code
def yX6_tell : MethodName := ⟨RX6, "tell", "(III)V"⟩
abbrev cX6_isThere : ByteArray := prog_8_method_11_code
def yX6_isThere : MethodName := ⟨RX6, "isThere", "(II)Z"⟩
def RX7 : String := "TwoElbows$Tape"
def TX7 : u_T := fun k => match k with
  | 0 => ("TwoElbows$Tape", "bytes", "[I", true)
  | 1 => ("TwoElbows$Tape", "length", "I", false)
  | 2 => ("TwoElbows$Tape", "place", "I", false)
  | _ => ("TwoElbows$Tape", "fault", "I", false)
def tyX7 : Nat → FieldType := fun k => match k with
  | 0 => .array .int
  | 1 => .int
  | 2 => .int
  | _ => .int
abbrev wsX70 : List Cond := u_ws RX7 TX7 4
theorem nmX7 : ∀ a, a < 4 → ∀ b, b < 4 → a ≠ b → (TX7 a).2.1 ≠ (TX7 b).2.1 := by decide +kernel
theorem tyX7_ok : ∀ k, k < 4 → parseFieldDescriptor (TX7 k).2.2.1 = some (tyX7 k) := by decide +kernel
abbrev cX7_init : ByteArray := prog_9_method_1_code
def yX7_init : MethodName := ⟨RX7, "<init>", "()V"⟩
abbrev cX7_length : ByteArray := prog_9_method_2_code
def yX7_length : MethodName := ⟨RX7, "length", "()I"⟩
abbrev cX7_add : ByteArray := prog_9_method_3_code
def yX7_add : MethodName := ⟨RX7, "add", "(I)I"⟩
abbrev cX7_clear : ByteArray := prog_9_method_4_code
def yX7_clear : MethodName := ⟨RX7, "clear", "()V"⟩
abbrev cX7_readInto : ByteArray := prog_9_method_5_code
def yX7_readInto : MethodName := ⟨RX7, "readInto", "(LTwoElbows$Law;)I"⟩
abbrev cX7_readLine : ByteArray := prog_9_method_6_code
def yX7_readLine : MethodName := ⟨RX7, "readLine", "(LTwoElbows$Law;)V"⟩
abbrev cX7_readPart : ByteArray := prog_9_method_7_code
def yX7_readPart : MethodName := ⟨RX7, "readPart", "(LTwoElbows$Law;II)V"⟩
abbrev cX7_readOne : ByteArray := prog_9_method_8_code
def yX7_readOne : MethodName := ⟨RX7, "readOne", "(LTwoElbows$Law;I)V"⟩
abbrev cX7_readOpened : ByteArray := prog_9_method_9_code
def yX7_readOpened : MethodName := ⟨RX7, "readOpened", "(LTwoElbows$Law;II)V"⟩
abbrev cX7_readNumber : ByteArray := prog_9_method_10_code
def yX7_readNumber : MethodName := ⟨RX7, "readNumber", "(LTwoElbows$Law;)V"⟩
abbrev cX7_next : ByteArray := prog_9_method_11_code
def yX7_next : MethodName := ⟨RX7, "next", "()I"⟩
abbrev cX7_fail : ByteArray := prog_9_method_12_code
def yX7_fail : MethodName := ⟨RX7, "fail", "()V"⟩
abbrev cX7_tightnessOf : ByteArray := prog_9_method_13_code
def yX7_tightnessOf : MethodName := ⟨RX7, "tightnessOf", "(I)I"⟩
abbrev cX7_nameOf : ByteArray := prog_9_method_14_code
def yX7_nameOf : MethodName := ⟨RX7, "nameOf", "(I)I"⟩
def RX8 : String := "TwoElbows"
def TX8 : u_T := fun k => match k with
  | 0 => ("TwoElbows", "people", "LTwoElbows$Sitters;", true)
  | 1 => ("TwoElbows", "inForce", "LTwoElbows$Law;", true)
  | 2 => ("TwoElbows", "draft", "LTwoElbows$Law;", true)
  | 3 => ("TwoElbows", "tape", "LTwoElbows$Tape;", true)
  | 4 => ("TwoElbows", "deed", "LTwoElbows$Course;", true)
  | 5 => ("TwoElbows", "thought", "LTwoElbows$Course;", true)
  | 6 => ("TwoElbows", "kept", "LTwoElbows$Course;", true)
  | 7 => ("TwoElbows", "past", "LTwoElbows$Past;", true)
  | 8 => ("TwoElbows", "changes", "LTwoElbows$Changes;", true)
  | 9 => ("TwoElbows", "holdings", "LTwoElbows$Holdings;", true)
  | 10 => ("TwoElbows", "shelves", "[LTwoElbows$Shelf;", true)
  | _ => ("TwoElbows", "hasImage", "Z", false)
def tyX8 : Nat → FieldType := fun k => match k with
  | 0 => .object "TwoElbows$Sitters"
  | 1 => .object "TwoElbows$Law"
  | 2 => .object "TwoElbows$Law"
  | 3 => .object "TwoElbows$Tape"
  | 4 => .object "TwoElbows$Course"
  | 5 => .object "TwoElbows$Course"
  | 6 => .object "TwoElbows$Course"
  | 7 => .object "TwoElbows$Past"
  | 8 => .object "TwoElbows$Changes"
  | 9 => .object "TwoElbows$Holdings"
  | 10 => .array (.object "TwoElbows$Shelf")
  | _ => .boolean
abbrev wsX80 : List Cond := u_ws RX8 TX8 12
theorem nmX8 : ∀ a, a < 12 → ∀ b, b < 12 → a ≠ b → (TX8 a).2.1 ≠ (TX8 b).2.1 := by decide +kernel
theorem tyX8_ok : ∀ k, k < 12 → parseFieldDescriptor (TX8 k).2.2.1 = some (tyX8 k) := by decide +kernel
abbrev cX8_init : ByteArray := prog_1_method_1_code
def yX8_init : MethodName := ⟨RX8, "<init>", "()V"⟩
abbrev cX8_sitter : ByteArray := prog_1_method_2_code
def yX8_sitter : MethodName := ⟨RX8, "sitter", "(I)I"⟩
abbrev cX8_sitters : ByteArray := prog_1_method_3_code
def yX8_sitters : MethodName := ⟨RX8, "sitters", "(III)I"⟩
abbrev cX8_wide : ByteArray := prog_1_method_4_code
def yX8_wide : MethodName := ⟨RX8, "wide", "(II)I"⟩
abbrev cX8_hours : ByteArray := prog_1_method_5_code
def yX8_hours : MethodName := ⟨RX8, "hours", "(III)I"⟩
abbrev cX8_mend : ByteArray := prog_1_method_6_code
def yX8_mend : MethodName := ⟨RX8, "mend", "(III)I"⟩
abbrev cX8_of : ByteArray := prog_1_method_7_code
def yX8_of : MethodName := ⟨RX8, "of", "(II)I"⟩
abbrev cX8_feed : ByteArray := prog_1_method_8_code
def yX8_feed : MethodName := ⟨RX8, "feed", "(I)I"⟩
abbrev cX8_law : ByteArray := prog_1_method_9_code
def yX8_law : MethodName := ⟨RX8, "law", "()I"⟩
abbrev cX8_rest : ByteArray := prog_1_method_10_code
def yX8_rest : MethodName := ⟨RX8, "rest", "(II)I"⟩
abbrev cX8_strength : ByteArray := prog_1_method_11_code
def yX8_strength : MethodName := ⟨RX8, "strength", "(III)I"⟩
abbrev cX8_go : ByteArray := prog_1_method_12_code
def yX8_go : MethodName := ⟨RX8, "go", "(II)I"⟩
abbrev cX8_led : ByteArray := prog_1_method_13_code
def yX8_led : MethodName := ⟨RX8, "led", "(II)I"⟩
abbrev cX8_judge : ByteArray := prog_1_method_14_code
def yX8_judge : MethodName := ⟨RX8, "judge", "(II)I"⟩
abbrev cX8_match : ByteArray := prog_1_method_15_code
def yX8_match : MethodName := ⟨RX8, "match", "()I"⟩
abbrev cX8_then : ByteArray := prog_1_method_16_code
def yX8_then : MethodName := ⟨RX8, "then", "(IIII)I"⟩
abbrev cX8_quiet : ByteArray := prog_1_method_17_code
def yX8_quiet : MethodName := ⟨RX8, "quiet", "(I)I"⟩
abbrev cX8_seat : ByteArray := prog_1_method_18_code
def yX8_seat : MethodName := ⟨RX8, "seat", "(II)I"⟩
abbrev cX8_change : ByteArray := prog_1_method_19_code
def yX8_change : MethodName := ⟨RX8, "change", "(I)I"⟩
abbrev cX8_wider : ByteArray := prog_1_method_20_code
def yX8_wider : MethodName := ⟨RX8, "wider", "(II)I"⟩
abbrev cX8_both : ByteArray := prog_1_method_21_code
def yX8_both : MethodName := ⟨RX8, "both", "(II)I"⟩
abbrev cX8_deals : ByteArray := prog_1_method_22_code
def yX8_deals : MethodName := ⟨RX8, "deals", "(II)I"⟩
abbrev cX8_sell : ByteArray := prog_1_method_23_code
def yX8_sell : MethodName := ⟨RX8, "sell", "(I)I"⟩
abbrev cX8_image : ByteArray := prog_1_method_24_code
def yX8_image : MethodName := ⟨RX8, "image", "()I"⟩
abbrev cX8_back : ByteArray := prog_1_method_25_code
def yX8_back : MethodName := ⟨RX8, "back", "()I"⟩
abbrev cX8_undo : ByteArray := prog_1_method_26_code
def yX8_undo : MethodName := ⟨RX8, "undo", "()I"⟩
abbrev cX8_redo : ByteArray := prog_1_method_27_code
def yX8_redo : MethodName := ⟨RX8, "redo", "()I"⟩
abbrev cX8_body : ByteArray := prog_1_method_28_code
def yX8_body : MethodName := ⟨RX8, "body", "(I)I"⟩
abbrev cX8_act : ByteArray := prog_1_method_29_code
def yX8_act : MethodName := ⟨RX8, "act", "(III)I"⟩
abbrev cX8_trace : ByteArray := prog_1_method_30_code
def yX8_trace : MethodName := ⟨RX8, "trace", "(I)I"⟩
abbrev cX8_keep : ByteArray := prog_1_method_31_code
def yX8_keep : MethodName := ⟨RX8, "keep", "(II)I"⟩
abbrev cX8_row : ByteArray := prog_1_method_32_code
def yX8_row : MethodName := ⟨RX8, "row", "(III)I"⟩
abbrev cX8_put : ByteArray := prog_1_method_33_code
def yX8_put : MethodName := ⟨RX8, "put", "(IIJ)I"⟩
abbrev cX8_element : ByteArray := prog_1_method_34_code
def yX8_element : MethodName := ⟨RX8, "element", "(II)J"⟩
abbrev cX8_shift : ByteArray := prog_1_method_35_code
def yX8_shift : MethodName := ⟨RX8, "shift", "(IIIII)I"⟩
abbrev cX8_taken : ByteArray := prog_1_method_36_code
def yX8_taken : MethodName := ⟨RX8, "taken", "(II)I"⟩
abbrev cX8_count : ByteArray := prog_1_method_37_code
def yX8_count : MethodName := ⟨RX8, "count", "(I)I"⟩
abbrev cX8_isShelf : ByteArray := prog_1_method_38_code
def yX8_isShelf : MethodName := ⟨RX8, "isShelf", "(I)Z"⟩
abbrev cX8_refusalAt : ByteArray := prog_1_method_39_code
def yX8_refusalAt : MethodName := ⟨RX8, "refusalAt", "(II)I"⟩
abbrev cX8_isToldElse : ByteArray := prog_1_method_40_code
def yX8_isToldElse : MethodName := ⟨RX8, "isToldElse", "(LTwoElbows$Shelf;II)Z"⟩
abbrev cX8_comesFrom : ByteArray := prog_1_method_41_code
def yX8_comesFrom : MethodName := ⟨RX8, "comesFrom", "(LTwoElbows$Shelf;I)Z"⟩
abbrev cX8_isDigit : ByteArray := prog_1_method_42_code
def yX8_isDigit : MethodName := ⟨RX8, "isDigit", "(J)Z"⟩
abbrev cX8_wentSo : ByteArray := prog_1_method_43_code
def yX8_wentSo : MethodName := ⟨RX8, "wentSo", "(I)Z"⟩
abbrev cX8_thinkOfChange : ByteArray := prog_1_method_44_code
def yX8_thinkOfChange : MethodName := ⟨RX8, "thinkOfChange", "(III)V"⟩
abbrev cX8_isPeaceful : ByteArray := prog_1_method_45_code
def yX8_isPeaceful : MethodName := ⟨RX8, "isPeaceful", "(III)Z"⟩
abbrev cX8_usedByLeft : ByteArray := prog_1_method_46_code
def yX8_usedByLeft : MethodName := ⟨RX8, "usedByLeft", "(II)I"⟩
abbrev cX8_usedByRight : ByteArray := prog_1_method_47_code
def yX8_usedByRight : MethodName := ⟨RX8, "usedByRight", "(II)I"⟩
abbrev cX8_isBetterForBoth : ByteArray := prog_1_method_48_code
def yX8_isBetterForBoth : MethodName := ⟨RX8, "isBetterForBoth", "(III)Z"⟩
abbrev cX8_soldByLeft : ByteArray := prog_1_method_49_code
def yX8_soldByLeft : MethodName := ⟨RX8, "soldByLeft", "(I)I"⟩
abbrev cX8_inchesSold : ByteArray := prog_1_method_50_code
def yX8_inchesSold : MethodName := ⟨RX8, "inchesSold", "(IIII)I"⟩
def RX9 : String := "TwoElbowsModel"
def TX9 : u_T := fun k => match k with
  | 0 => ("TwoElbowsModel", "may", "[I", true)
  | 1 => ("TwoElbowsModel", "changeAt", "[I", true)
  | 2 => ("TwoElbowsModel", "changeWas", "[I", true)
  | 3 => ("TwoElbowsModel", "changeIs", "[I", true)
  | 4 => ("TwoElbowsModel", "keptMany", "I", false)
  | 5 => ("TwoElbowsModel", "done", "I", false)
  | 6 => ("TwoElbowsModel", "sitters", "I", false)
  | 7 => ("TwoElbowsModel", "wide", "[I", true)
  | 8 => ("TwoElbowsModel", "how", "[I", true)
  | 9 => ("TwoElbowsModel", "inches", "[I", true)
  | 10 => ("TwoElbowsModel", "comfort", "[I", true)
  | 11 => ("TwoElbowsModel", "yields", "[I", true)
  | 12 => ("TwoElbowsModel", "fights", "I", false)
  | 13 => ("TwoElbowsModel", "now", "I", false)
  | 14 => ("TwoElbowsModel", "sits", "[I", true)
  | 15 => ("TwoElbowsModel", "tape", "[I", true)
  | 16 => ("TwoElbowsModel", "tapeMany", "I", false)
  | 17 => ("TwoElbowsModel", "text", "[I", true)
  | 18 => ("TwoElbowsModel", "textMany", "I", false)
  | 19 => ("TwoElbowsModel", "base", "I", false)
  | 20 => ("TwoElbowsModel", "at", "I", false)
  | 21 => ("TwoElbowsModel", "ends", "I", false)
  | 22 => ("TwoElbowsModel", "fault", "I", false)
  | 23 => ("TwoElbowsModel", "opened", "I", false)
  | 24 => ("TwoElbowsModel", "names", "[I", true)
  | 25 => ("TwoElbowsModel", "z", "I", false)
  | 26 => ("TwoElbowsModel", "fightsIn", "I", false)
  | 27 => ("TwoElbowsModel", "isMoved", "Z", false)
  | 28 => ("TwoElbowsModel", "fought", "[I", true)
  | 29 => ("TwoElbowsModel", "yielded", "[I", true)
  | 30 => ("TwoElbowsModel", "comes", "[I", true)
  | 31 => ("TwoElbowsModel", "ledInches", "[I", true)
  | 32 => ("TwoElbowsModel", "ledFights", "[I", true)
  | 33 => ("TwoElbowsModel", "thought", "[I", true)
  | 34 => ("TwoElbowsModel", "soldBy", "I", false)
  | 35 => ("TwoElbowsModel", "soldMany", "I", false)
  | 36 => ("TwoElbowsModel", "isKept", "Z", false)
  | 37 => ("TwoElbowsModel", "imageNow", "I", false)
  | 38 => ("TwoElbowsModel", "imageFights", "I", false)
  | 39 => ("TwoElbowsModel", "imageInches", "[I", true)
  | 40 => ("TwoElbowsModel", "imageComfort", "[I", true)
  | 41 => ("TwoElbowsModel", "imageYields", "[I", true)
  | 42 => ("TwoElbowsModel", "imageLed", "[I", true)
  | 43 => ("TwoElbowsModel", "imageLedFights", "[I", true)
  | 44 => ("TwoElbowsModel", "bodies", "I", false)
  | 45 => ("TwoElbowsModel", "bodyKind", "[I", true)
  | 46 => ("TwoElbowsModel", "trace", "[I", true)
  | 47 => ("TwoElbowsModel", "ran", "I", false)
  | 48 => ("TwoElbowsModel", "ownKind", "I", false)
  | 49 => ("TwoElbowsModel", "ownNumber", "I", false)
  | 50 => ("TwoElbowsModel", "shelf", "[I", true)
  | 51 => ("TwoElbowsModel", "many", "[I", true)
  | 52 => ("TwoElbowsModel", "items", "[J", true)
  | _ => ("TwoElbowsModel", "carried", "[J", true)
def tyX9 : Nat → FieldType := fun k => match k with
  | 0 => .array .int
  | 1 => .array .int
  | 2 => .array .int
  | 3 => .array .int
  | 4 => .int
  | 5 => .int
  | 6 => .int
  | 7 => .array .int
  | 8 => .array .int
  | 9 => .array .int
  | 10 => .array .int
  | 11 => .array .int
  | 12 => .int
  | 13 => .int
  | 14 => .array .int
  | 15 => .array .int
  | 16 => .int
  | 17 => .array .int
  | 18 => .int
  | 19 => .int
  | 20 => .int
  | 21 => .int
  | 22 => .int
  | 23 => .int
  | 24 => .array .int
  | 25 => .int
  | 26 => .int
  | 27 => .boolean
  | 28 => .array .int
  | 29 => .array .int
  | 30 => .array .int
  | 31 => .array .int
  | 32 => .array .int
  | 33 => .array .int
  | 34 => .int
  | 35 => .int
  | 36 => .boolean
  | 37 => .int
  | 38 => .int
  | 39 => .array .int
  | 40 => .array .int
  | 41 => .array .int
  | 42 => .array .int
  | 43 => .array .int
  | 44 => .int
  | 45 => .array .int
  | 46 => .array .int
  | 47 => .int
  | 48 => .int
  | 49 => .int
  | 50 => .array .int
  | 51 => .array .int
  | 52 => .array .long
  | _ => .array .long
abbrev wsX90 : List Cond := u_ws RX9 TX9 54
theorem nmX9 : ∀ a, a < 54 → ∀ b, b < 54 → a ≠ b → (TX9 a).2.1 ≠ (TX9 b).2.1 := by decide +kernel
theorem tyX9_ok : ∀ k, k < 54 → parseFieldDescriptor (TX9 k).2.2.1 = some (tyX9 k) := by decide +kernel
abbrev cX9_within : ByteArray := prog_11_method_1_code
def yX9_within : MethodName := ⟨RX9, "within", "(JJJ)Z"⟩
abbrev cX9_init : ByteArray := prog_11_method_2_code
def yX9_init : MethodName := ⟨RX9, "<init>", "()V"⟩
abbrev cX9_becomes : ByteArray := prog_11_method_3_code
def yX9_becomes : MethodName := ⟨RX9, "becomes", "(II)I"⟩
abbrev cX9_undo : ByteArray := prog_11_method_4_code
def yX9_undo : MethodName := ⟨RX9, "undo", "()I"⟩
abbrev cX9_redo : ByteArray := prog_11_method_5_code
def yX9_redo : MethodName := ⟨RX9, "redo", "()I"⟩
abbrev cX9_isSitter : ByteArray := prog_11_method_6_code
def yX9_isSitter : MethodName := ⟨RX9, "isSitter", "(I)Z"⟩
abbrev cX9_rests : ByteArray := prog_11_method_7_code
def yX9_rests : MethodName := ⟨RX9, "rests", "()I"⟩
abbrev cX9_isRest : ByteArray := prog_11_method_8_code
def yX9_isRest : MethodName := ⟨RX9, "isRest", "(I)Z"⟩
abbrev cX9_isOne : ByteArray := prog_11_method_9_code
def yX9_isOne : MethodName := ⟨RX9, "isOne", "(JJJ)Z"⟩
abbrev cX9_adds : ByteArray := prog_11_method_10_code
def yX9_adds : MethodName := ⟨RX9, "adds", "(III)V"⟩
abbrev cX9_sitter : ByteArray := prog_11_method_11_code
def yX9_sitter : MethodName := ⟨RX9, "sitter", "(I)I"⟩
abbrev cX9_sitters : ByteArray := prog_11_method_12_code
def yX9_sitters : MethodName := ⟨RX9, "sitters", "(III)I"⟩
abbrev cX9_fits : ByteArray := prog_11_method_13_code
def yX9_fits : MethodName := ⟨RX9, "fits", "([III)V"⟩
abbrev cX9_wide : ByteArray := prog_11_method_14_code
def yX9_wide : MethodName := ⟨RX9, "wide", "(II)I"⟩
abbrev cX9_hours : ByteArray := prog_11_method_15_code
def yX9_hours : MethodName := ⟨RX9, "hours", "(III)I"⟩
abbrev cX9_mend : ByteArray := prog_11_method_16_code
def yX9_mend : MethodName := ⟨RX9, "mend", "(III)I"⟩
abbrev cX9_heldBy : ByteArray := prog_11_method_17_code
def yX9_heldBy : MethodName := ⟨RX9, "heldBy", "([II)I"⟩
abbrev cX9_of : ByteArray := prog_11_method_18_code
def yX9_of : MethodName := ⟨RX9, "of", "(II)I"⟩
abbrev cX9_rest : ByteArray := prog_11_method_19_code
def yX9_rest : MethodName := ⟨RX9, "rest", "(II)I"⟩
abbrev cX9_feed : ByteArray := prog_11_method_20_code
def yX9_feed : MethodName := ⟨RX9, "feed", "(I)I"⟩
abbrev cX9_byteAt : ByteArray := prog_11_method_21_code
def yX9_byteAt : MethodName := ⟨RX9, "byteAt", "()I"⟩
abbrev cX9_wrong : ByteArray := prog_11_method_22_code
def yX9_wrong : MethodName := ⟨RX9, "wrong", "()I"⟩
abbrev cX9_takes : ByteArray := prog_11_method_23_code
def yX9_takes : MethodName := ⟨RX9, "takes", "(I)Z"⟩
abbrev cX9_either : ByteArray := prog_11_method_24_code
def yX9_either : MethodName := ⟨RX9, "either", "()I"⟩
abbrev cX9_bothOf : ByteArray := prog_11_method_25_code
def yX9_bothOf : MethodName := ⟨RX9, "bothOf", "()I"⟩
abbrev cX9_compared : ByteArray := prog_11_method_26_code
def yX9_compared : MethodName := ⟨RX9, "compared", "()I"⟩
abbrev cX9_sums : ByteArray := prog_11_method_27_code
def yX9_sums : MethodName := ⟨RX9, "sums", "()I"⟩
abbrev cX9_product : ByteArray := prog_11_method_28_code
def yX9_product : MethodName := ⟨RX9, "product", "()I"⟩
abbrev cX9_nameOf : ByteArray := prog_11_method_29_code
def yX9_nameOf : MethodName := ⟨RX9, "nameOf", "(I)I"⟩
abbrev cX9_one : ByteArray := prog_11_method_30_code
def yX9_one : MethodName := ⟨RX9, "one", "()I"⟩
abbrev cX9_workOut : ByteArray := prog_11_method_31_code
def yX9_workOut : MethodName := ⟨RX9, "workOut", "(II)I"⟩
abbrev cX9_law : ByteArray := prog_11_method_32_code
def yX9_law : MethodName := ⟨RX9, "law", "()I"⟩
abbrev cX9_strengthAt : ByteArray := prog_11_method_33_code
def yX9_strengthAt : MethodName := ⟨RX9, "strengthAt", "([IIIII)I"⟩
abbrev cX9_strength : ByteArray := prog_11_method_34_code
def yX9_strength : MethodName := ⟨RX9, "strength", "(III)I"⟩
abbrev cX9_coughs : ByteArray := prog_11_method_35_code
def yX9_coughs : MethodName := ⟨RX9, "coughs", "()I"⟩
abbrev cX9_isThere : ByteArray := prog_11_method_36_code
def yX9_isThere : MethodName := ⟨RX9, "isThere", "(II)Z"⟩
abbrev cX9_leaves : ByteArray := prog_11_method_37_code
def yX9_leaves : MethodName := ⟨RX9, "leaves", "([II)V"⟩
abbrev cX9_takesFree : ByteArray := prog_11_method_38_code
def yX9_takesFree : MethodName := ⟨RX9, "takesFree", "([II)V"⟩
abbrev cX9_pushes : ByteArray := prog_11_method_39_code
def yX9_pushes : MethodName := ⟨RX9, "pushes", "([IIII)V"⟩
abbrev cX9_restGoes : ByteArray := prog_11_method_40_code
def yX9_restGoes : MethodName := ⟨RX9, "restGoes", "([IIII)V"⟩
abbrev cX9_comfortIn : ByteArray := prog_11_method_41_code
def yX9_comfortIn : MethodName := ⟨RX9, "comfortIn", "([III)I"⟩
abbrev cX9_hourGoes : ByteArray := prog_11_method_42_code
def yX9_hourGoes : MethodName := ⟨RX9, "hourGoes", "([IIII)V"⟩
abbrev cX9_starts : ByteArray := prog_11_method_43_code
def yX9_starts : MethodName := ⟨RX9, "starts", "(I)V"⟩
abbrev cX9_go : ByteArray := prog_11_method_44_code
def yX9_go : MethodName := ⟨RX9, "go", "(II)I"⟩
abbrev cX9_led : ByteArray := prog_11_method_45_code
def yX9_led : MethodName := ⟨RX9, "led", "(II)I"⟩
abbrev cX9_judge : ByteArray := prog_11_method_46_code
def yX9_judge : MethodName := ⟨RX9, "judge", "(II)I"⟩
abbrev cX9_isAsItWas : ByteArray := prog_11_method_47_code
def yX9_isAsItWas : MethodName := ⟨RX9, "isAsItWas", "(I)Z"⟩
abbrev cX9_match : ByteArray := prog_11_method_48_code
def yX9_match : MethodName := ⟨RX9, "match", "()I"⟩
abbrev cX9_thinks : ByteArray := prog_11_method_49_code
def yX9_thinks : MethodName := ⟨RX9, "thinks", "(I)V"⟩
abbrev cX9_goesOn : ByteArray := prog_11_method_50_code
def yX9_goesOn : MethodName := ⟨RX9, "goesOn", "(II)V"⟩
abbrev cX9_then : ByteArray := prog_11_method_51_code
def yX9_then : MethodName := ⟨RX9, "then", "(IIII)I"⟩
abbrev cX9_quiet : ByteArray := prog_11_method_52_code
def yX9_quiet : MethodName := ⟨RX9, "quiet", "(I)I"⟩
abbrev cX9_swaps : ByteArray := prog_11_method_53_code
def yX9_swaps : MethodName := ⟨RX9, "swaps", "(II)V"⟩
abbrev cX9_seat : ByteArray := prog_11_method_54_code
def yX9_seat : MethodName := ⟨RX9, "seat", "(II)I"⟩
abbrev cX9_allThatComes : ByteArray := prog_11_method_55_code
def yX9_allThatComes : MethodName := ⟨RX9, "allThatComes", "(I)I"⟩
abbrev cX9_change : ByteArray := prog_11_method_56_code
def yX9_change : MethodName := ⟨RX9, "change", "(I)I"⟩
abbrev cX9_isCalm : ByteArray := prog_11_method_57_code
def yX9_isCalm : MethodName := ⟨RX9, "isCalm", "(III)Z"⟩
abbrev cX9_wider : ByteArray := prog_11_method_58_code
def yX9_wider : MethodName := ⟨RX9, "wider", "(II)I"⟩
abbrev cX9_least : ByteArray := prog_11_method_59_code
def yX9_least : MethodName := ⟨RX9, "least", "(II)I"⟩
abbrev cX9_both : ByteArray := prog_11_method_60_code
def yX9_both : MethodName := ⟨RX9, "both", "(II)I"⟩
abbrev cX9_sells : ByteArray := prog_11_method_61_code
def yX9_sells : MethodName := ⟨RX9, "sells", "(II)I"⟩
abbrev cX9_looksAt : ByteArray := prog_11_method_62_code
def yX9_looksAt : MethodName := ⟨RX9, "looksAt", "(I)V"⟩
abbrev cX9_deals : ByteArray := prog_11_method_63_code
def yX9_deals : MethodName := ⟨RX9, "deals", "(II)I"⟩
abbrev cX9_sell : ByteArray := prog_11_method_64_code
def yX9_sell : MethodName := ⟨RX9, "sell", "(I)I"⟩
abbrev cX9_copies : ByteArray := prog_11_method_65_code
def yX9_copies : MethodName := ⟨RX9, "copies", "([I[I)V"⟩
abbrev cX9_image : ByteArray := prog_11_method_66_code
def yX9_image : MethodName := ⟨RX9, "image", "()I"⟩
abbrev cX9_back : ByteArray := prog_11_method_67_code
def yX9_back : MethodName := ⟨RX9, "back", "()I"⟩
abbrev cX9_isBody : ByteArray := prog_11_method_68_code
def yX9_isBody : MethodName := ⟨RX9, "isBody", "(I)Z"⟩
abbrev cX9_kindOf : ByteArray := prog_11_method_69_code
def yX9_kindOf : MethodName := ⟨RX9, "kindOf", "(I)I"⟩
abbrev cX9_body : ByteArray := prog_11_method_70_code
def yX9_body : MethodName := ⟨RX9, "body", "(I)I"⟩
abbrev cX9_above : ByteArray := prog_11_method_71_code
def yX9_above : MethodName := ⟨RX9, "above", "(I)I"⟩
abbrev cX9_begins : ByteArray := prog_11_method_72_code
def yX9_begins : MethodName := ⟨RX9, "begins", "(I)V"⟩
abbrev cX9_holdsAs : ByteArray := prog_11_method_73_code
def yX9_holdsAs : MethodName := ⟨RX9, "holdsAs", "(II)I"⟩
abbrev cX9_pushesAs : ByteArray := prog_11_method_74_code
def yX9_pushesAs : MethodName := ⟨RX9, "pushesAs", "(II)I"⟩
abbrev cX9_yieldsAs : ByteArray := prog_11_method_75_code
def yX9_yieldsAs : MethodName := ⟨RX9, "yieldsAs", "(II)I"⟩
abbrev cX9_tradesAs : ByteArray := prog_11_method_76_code
def yX9_tradesAs : MethodName := ⟨RX9, "tradesAs", "(II)I"⟩
abbrev cX9_act : ByteArray := prog_11_method_77_code
def yX9_act : MethodName := ⟨RX9, "act", "(III)I"⟩
abbrev cX9_trace : ByteArray := prog_11_method_78_code
def yX9_trace : MethodName := ⟨RX9, "trace", "(I)I"⟩
abbrev cX9_isShelf : ByteArray := prog_11_method_79_code
def yX9_isShelf : MethodName := ⟨RX9, "isShelf", "(I)Z"⟩
abbrev cX9_keep : ByteArray := prog_11_method_80_code
def yX9_keep : MethodName := ⟨RX9, "keep", "(II)I"⟩
abbrev cX9_row : ByteArray := prog_11_method_81_code
def yX9_row : MethodName := ⟨RX9, "row", "(III)I"⟩
abbrev cX9_refusal : ByteArray := prog_11_method_82_code
def yX9_refusal : MethodName := ⟨RX9, "refusal", "(II)I"⟩
abbrev cX9_asSort : ByteArray := prog_11_method_83_code
def yX9_asSort : MethodName := ⟨RX9, "asSort", "(IJ)J"⟩
abbrev cX9_put : ByteArray := prog_11_method_84_code
def yX9_put : MethodName := ⟨RX9, "put", "(IIJ)I"⟩
abbrev cX9_element : ByteArray := prog_11_method_85_code
def yX9_element : MethodName := ⟨RX9, "element", "(II)J"⟩
abbrev cX9_shift : ByteArray := prog_11_method_86_code
def yX9_shift : MethodName := ⟨RX9, "shift", "(IIIII)I"⟩
abbrev cX9_taken : ByteArray := prog_11_method_87_code
def yX9_taken : MethodName := ⟨RX9, "taken", "(II)I"⟩
abbrev cX9_count : ByteArray := prog_11_method_88_code
def yX9_count : MethodName := ⟨RX9, "count", "(I)I"⟩
def RJ9 : String := "java/lang/Math"
abbrev cJ9_abs_0f7a4 : ByteArray := prog_12_method_59_code
def yJ9_abs_0f7a4 : MethodName := ⟨RJ9, "abs", "(I)I"⟩
abbrev cJ9_max_7cf53 : ByteArray := prog_12_method_65_code
def yJ9_max_7cf53 : MethodName := ⟨RJ9, "max", "(II)I"⟩
abbrev cJ9_min_7cf53 : ByteArray := prog_12_method_69_code
def yJ9_min_7cf53 : MethodName := ⟨RJ9, "min", "(II)I"⟩
def RJ10 : String := "java/lang/System"
def RJ7 : String := "java/util/Arrays"
abbrev cJ7_fill_d0a16 : ByteArray := prog_14_method_101_code
def yJ7_fill_d0a16 : MethodName := ⟨RJ7, "fill", "([JJ)V"⟩
abbrev cJ7_fill_53178 : ByteArray := prog_14_method_103_code
def yJ7_fill_53178 : MethodName := ⟨RJ7, "fill", "([II)V"⟩
def RL : String := "TwoElbowsLaw"
abbrev cL_law : ByteArray := code
def yL_law : MethodName := ⟨RL, "law", "([I)Z"⟩
abbrev vwCl : List vw_C := [(RX0, TX0, 6), (RX1, TX1, 15), (RX2, TX2, 5), (RX3, TX3, 6), (RX4, TX4, 3), (RX5, TX5, 4), (RX6, TX6, 3), (RX7, TX7, 4), (RX8, TX8, 12), (RX9, TX9, 54)]
