-- ===== PART A: goes FIRST, ahead of the names: the tables' words, and 'selects' of the private methods out of them =====
/-- a private method of a class that the tables say can be made, by its rows of tables_1 -/
def lw_okq (q : MethodName × Nat) : Prop := (q.1.cls ≠ "java/lang/invoke/MethodHandle" ∧ q.1.cls ≠ "java/lang/invoke/VarHandle") ∧ Cond.instantiable q.1.cls q.2 ∈ tables_1 ∧ Cond.privateMethod q.1 ∈ tables_1 ∧ Cond.instanceMethod q.1 ∈ tables_1
theorem lw_p0 : lw_okq (⟨"MoveUp$Bench", "findReach", "()V"⟩, 13) := ⟨⟨by decide +kernel, by decide +kernel⟩, List.mem_of_getElem? (i := 32) (by decide +kernel), List.mem_of_getElem? (i := 120) (by decide +kernel), List.mem_of_getElem? (i := 121) (by decide +kernel)⟩
theorem lw_p1 : lw_okq (⟨"MoveUp$Past", "save", "(LMoveUp$Bench;I)V"⟩, 6) := ⟨⟨by decide +kernel, by decide +kernel⟩, List.mem_of_getElem? (i := 201) (by decide +kernel), List.mem_of_getElem? (i := 555) (by decide +kernel), List.mem_of_getElem? (i := 556) (by decide +kernel)⟩
theorem lw_p2 : lw_okq (⟨"MoveUp$Row", "placeFor", "(I)I"⟩, 10) := ⟨⟨by decide +kernel, by decide +kernel⟩, List.mem_of_getElem? (i := 277) (by decide +kernel), List.mem_of_getElem? (i := 573) (by decide +kernel), List.mem_of_getElem? (i := 574) (by decide +kernel)⟩
theorem lw_p3 : lw_okq (⟨"MoveUp$Seats", "tellAsker", "()V"⟩, 3) := ⟨⟨by decide +kernel, by decide +kernel⟩, List.mem_of_getElem? (i := 325) (by decide +kernel), List.mem_of_getElem? (i := 590) (by decide +kernel), List.mem_of_getElem? (i := 591) (by decide +kernel)⟩
theorem lw_p4 : lw_okq (⟨"MoveUp$Row", "apart", "(I)I"⟩, 10) := ⟨⟨by decide +kernel, by decide +kernel⟩, List.mem_of_getElem? (i := 277) (by decide +kernel), List.mem_of_getElem? (i := 598) (by decide +kernel), List.mem_of_getElem? (i := 599) (by decide +kernel)⟩
theorem lw_p5 : lw_okq (⟨"MoveUp$Seats", "value", "(II)I"⟩, 3) := ⟨⟨by decide +kernel, by decide +kernel⟩, List.mem_of_getElem? (i := 325) (by decide +kernel), List.mem_of_getElem? (i := 615) (by decide +kernel), List.mem_of_getElem? (i := 616) (by decide +kernel)⟩
theorem lw_p6 : lw_okq (⟨"MoveUp$Seats", "warmInches", "(I)I"⟩, 3) := ⟨⟨by decide +kernel, by decide +kernel⟩, List.mem_of_getElem? (i := 325) (by decide +kernel), List.mem_of_getElem? (i := 627) (by decide +kernel), List.mem_of_getElem? (i := 628) (by decide +kernel)⟩
theorem lw_p7 : lw_okq (⟨"MoveUp$Law", "run", "(II[I)I"⟩, 7) := ⟨⟨by decide +kernel, by decide +kernel⟩, List.mem_of_getElem? (i := 42) (by decide +kernel), List.mem_of_getElem? (i := 638) (by decide +kernel), List.mem_of_getElem? (i := 639) (by decide +kernel)⟩
theorem lw_p8 : lw_okq (⟨"MoveUp$Acts", "countStanding", "()V"⟩, 6) := ⟨⟨by decide +kernel, by decide +kernel⟩, List.mem_of_getElem? (i := 438) (by decide +kernel), List.mem_of_getElem? (i := 650) (by decide +kernel), List.mem_of_getElem? (i := 651) (by decide +kernel)⟩
theorem lw_p9 : lw_okq (⟨"MoveUp$Room", "weigh", "(II)V"⟩, 9) := ⟨⟨by decide +kernel, by decide +kernel⟩, List.mem_of_getElem? (i := 341) (by decide +kernel), List.mem_of_getElem? (i := 685) (by decide +kernel), List.mem_of_getElem? (i := 686) (by decide +kernel)⟩
theorem lw_p10 : lw_okq (⟨"MoveUp$Room", "takesWithKeep", "(II)I"⟩, 9) := ⟨⟨by decide +kernel, by decide +kernel⟩, List.mem_of_getElem? (i := 341) (by decide +kernel), List.mem_of_getElem? (i := 689) (by decide +kernel), List.mem_of_getElem? (i := 690) (by decide +kernel)⟩
theorem lw_p11 : lw_okq (⟨"MoveUp$Room", "weightOf", "(III)I"⟩, 9) := ⟨⟨by decide +kernel, by decide +kernel⟩, List.mem_of_getElem? (i := 341) (by decide +kernel), List.mem_of_getElem? (i := 698) (by decide +kernel), List.mem_of_getElem? (i := 699) (by decide +kernel)⟩
theorem lw_p12 : lw_okq (⟨"MoveUp$Room", "settle", "(I)V"⟩, 9) := ⟨⟨by decide +kernel, by decide +kernel⟩, List.mem_of_getElem? (i := 341) (by decide +kernel), List.mem_of_getElem? (i := 710) (by decide +kernel), List.mem_of_getElem? (i := 711) (by decide +kernel)⟩
theorem lw_p13 : lw_okq (⟨"MoveUp$Reader", "split", "()V"⟩, 11) := ⟨⟨by decide +kernel, by decide +kernel⟩, List.mem_of_getElem? (i := 228) (by decide +kernel), List.mem_of_getElem? (i := 734) (by decide +kernel), List.mem_of_getElem? (i := 735) (by decide +kernel)⟩
theorem lw_p14 : lw_okq (⟨"MoveUp$Reader", "tokenOf", "(II)I"⟩, 11) := ⟨⟨by decide +kernel, by decide +kernel⟩, List.mem_of_getElem? (i := 228) (by decide +kernel), List.mem_of_getElem? (i := 744) (by decide +kernel), List.mem_of_getElem? (i := 745) (by decide +kernel)⟩
theorem lw_p15 : lw_okq (⟨"MoveUp$Reader", "wordOf", "(II)I"⟩, 11) := ⟨⟨by decide +kernel, by decide +kernel⟩, List.mem_of_getElem? (i := 228) (by decide +kernel), List.mem_of_getElem? (i := 748) (by decide +kernel), List.mem_of_getElem? (i := 749) (by decide +kernel)⟩
def lw_privs_1 : List (MethodName × Nat) := [(⟨"MoveUp$Bench", "findReach", "()V"⟩, 13), (⟨"MoveUp$Past", "save", "(LMoveUp$Bench;I)V"⟩, 6), (⟨"MoveUp$Row", "placeFor", "(I)I"⟩, 10), (⟨"MoveUp$Seats", "tellAsker", "()V"⟩, 3), (⟨"MoveUp$Row", "apart", "(I)I"⟩, 10), (⟨"MoveUp$Seats", "value", "(II)I"⟩, 3), (⟨"MoveUp$Seats", "warmInches", "(I)I"⟩, 3), (⟨"MoveUp$Law", "run", "(II[I)I"⟩, 7), (⟨"MoveUp$Acts", "countStanding", "()V"⟩, 6), (⟨"MoveUp$Room", "weigh", "(II)V"⟩, 9), (⟨"MoveUp$Room", "takesWithKeep", "(II)I"⟩, 9), (⟨"MoveUp$Room", "weightOf", "(III)I"⟩, 9), (⟨"MoveUp$Room", "settle", "(I)V"⟩, 9), (⟨"MoveUp$Reader", "split", "()V"⟩, 11), (⟨"MoveUp$Reader", "tokenOf", "(II)I"⟩, 11), (⟨"MoveUp$Reader", "wordOf", "(II)I"⟩, 11)]
theorem lw_r1 : ∀ q ∈ lw_privs_1, lw_okq q := List.forall_mem_cons.mpr ⟨lw_p0, List.forall_mem_cons.mpr ⟨lw_p1, List.forall_mem_cons.mpr ⟨lw_p2, List.forall_mem_cons.mpr ⟨lw_p3, List.forall_mem_cons.mpr ⟨lw_p4, List.forall_mem_cons.mpr ⟨lw_p5, List.forall_mem_cons.mpr ⟨lw_p6, List.forall_mem_cons.mpr ⟨lw_p7, List.forall_mem_cons.mpr ⟨lw_p8, List.forall_mem_cons.mpr ⟨lw_p9, List.forall_mem_cons.mpr ⟨lw_p10, List.forall_mem_cons.mpr ⟨lw_p11, List.forall_mem_cons.mpr ⟨lw_p12, List.forall_mem_cons.mpr ⟨lw_p13, List.forall_mem_cons.mpr ⟨lw_p14, List.forall_mem_cons.mpr ⟨lw_p15, fun _ h => absurd h List.not_mem_nil⟩⟩⟩⟩⟩⟩⟩⟩⟩⟩⟩⟩⟩⟩⟩⟩
theorem lw_p16 : lw_okq (⟨"MoveUp$Reader", "addToken", "(II)V"⟩, 11) := ⟨⟨by decide +kernel, by decide +kernel⟩, List.mem_of_getElem? (i := 228) (by decide +kernel), List.mem_of_getElem? (i := 857) (by decide +kernel), List.mem_of_getElem? (i := 858) (by decide +kernel)⟩
theorem lw_p17 : lw_okq (⟨"MoveUp$Reader", "readDay", "(I)V"⟩, 11) := ⟨⟨by decide +kernel, by decide +kernel⟩, List.mem_of_getElem? (i := 228) (by decide +kernel), List.mem_of_getElem? (i := 861) (by decide +kernel), List.mem_of_getElem? (i := 862) (by decide +kernel)⟩
theorem lw_p18 : lw_okq (⟨"MoveUp$Reader", "fail", "(I)V"⟩, 11) := ⟨⟨by decide +kernel, by decide +kernel⟩, List.mem_of_getElem? (i := 228) (by decide +kernel), List.mem_of_getElem? (i := 865) (by decide +kernel), List.mem_of_getElem? (i := 866) (by decide +kernel)⟩
theorem lw_p19 : lw_okq (⟨"MoveUp$Reader", "step", "()V"⟩, 11) := ⟨⟨by decide +kernel, by decide +kernel⟩, List.mem_of_getElem? (i := 228) (by decide +kernel), List.mem_of_getElem? (i := 869) (by decide +kernel), List.mem_of_getElem? (i := 870) (by decide +kernel)⟩
theorem lw_p20 : lw_okq (⟨"MoveUp$Reader", "readNumber", "(I)I"⟩, 11) := ⟨⟨by decide +kernel, by decide +kernel⟩, List.mem_of_getElem? (i := 228) (by decide +kernel), List.mem_of_getElem? (i := 873) (by decide +kernel), List.mem_of_getElem? (i := 874) (by decide +kernel)⟩
theorem lw_p21 : lw_okq (⟨"MoveUp$Reader", "take", "(I)V"⟩, 11) := ⟨⟨by decide +kernel, by decide +kernel⟩, List.mem_of_getElem? (i := 228) (by decide +kernel), List.mem_of_getElem? (i := 877) (by decide +kernel), List.mem_of_getElem? (i := 878) (by decide +kernel)⟩
theorem lw_p22 : lw_okq (⟨"MoveUp$Reader", "readLaw", "()V"⟩, 11) := ⟨⟨by decide +kernel, by decide +kernel⟩, List.mem_of_getElem? (i := 228) (by decide +kernel), List.mem_of_getElem? (i := 885) (by decide +kernel), List.mem_of_getElem? (i := 886) (by decide +kernel)⟩
theorem lw_p23 : lw_okq (⟨"MoveUp$Reader", "readSum", "()V"⟩, 11) := ⟨⟨by decide +kernel, by decide +kernel⟩, List.mem_of_getElem? (i := 228) (by decide +kernel), List.mem_of_getElem? (i := 890) (by decide +kernel), List.mem_of_getElem? (i := 891) (by decide +kernel)⟩
theorem lw_p24 : lw_okq (⟨"MoveUp$Reader", "readProduct", "()V"⟩, 11) := ⟨⟨by decide +kernel, by decide +kernel⟩, List.mem_of_getElem? (i := 228) (by decide +kernel), List.mem_of_getElem? (i := 894) (by decide +kernel), List.mem_of_getElem? (i := 895) (by decide +kernel)⟩
theorem lw_p25 : lw_okq (⟨"MoveUp$Reader", "isTerm", "(I)Z"⟩, 11) := ⟨⟨by decide +kernel, by decide +kernel⟩, List.mem_of_getElem? (i := 228) (by decide +kernel), List.mem_of_getElem? (i := 898) (by decide +kernel), List.mem_of_getElem? (i := 899) (by decide +kernel)⟩
theorem lw_p26 : lw_okq (⟨"MoveUp$Reader", "readClaims", "(II)V"⟩, 11) := ⟨⟨by decide +kernel, by decide +kernel⟩, List.mem_of_getElem? (i := 228) (by decide +kernel), List.mem_of_getElem? (i := 906) (by decide +kernel), List.mem_of_getElem? (i := 907) (by decide +kernel)⟩
theorem lw_p27 : lw_okq (⟨"MoveUp$Reader", "readClaim", "(I)V"⟩, 11) := ⟨⟨by decide +kernel, by decide +kernel⟩, List.mem_of_getElem? (i := 228) (by decide +kernel), List.mem_of_getElem? (i := 910) (by decide +kernel), List.mem_of_getElem? (i := 911) (by decide +kernel)⟩
theorem lw_p28 : lw_okq (⟨"MoveUp$Filling", "fewest", "([III)I"⟩, 8) := ⟨⟨by decide +kernel, by decide +kernel⟩, List.mem_of_getElem? (i := 378) (by decide +kernel), List.mem_of_getElem? (i := 1029) (by decide +kernel), List.mem_of_getElem? (i := 1030) (by decide +kernel)⟩
theorem lw_p29 : lw_okq (⟨"MoveUp$Filling", "isClear", "([II)Z"⟩, 8) := ⟨⟨by decide +kernel, by decide +kernel⟩, List.mem_of_getElem? (i := 378) (by decide +kernel), List.mem_of_getElem? (i := 1033) (by decide +kernel), List.mem_of_getElem? (i := 1034) (by decide +kernel)⟩
theorem lw_p30 : lw_okq (⟨"MoveUp$Filling", "most", "(II)I"⟩, 8) := ⟨⟨by decide +kernel, by decide +kernel⟩, List.mem_of_getElem? (i := 378) (by decide +kernel), List.mem_of_getElem? (i := 1038) (by decide +kernel), List.mem_of_getElem? (i := 1039) (by decide +kernel)⟩
theorem lw_p31 : lw_okq (⟨"MoveUp$Filling", "mean", "(II)I"⟩, 8) := ⟨⟨by decide +kernel, by decide +kernel⟩, List.mem_of_getElem? (i := 378) (by decide +kernel), List.mem_of_getElem? (i := 1042) (by decide +kernel), List.mem_of_getElem? (i := 1043) (by decide +kernel)⟩
def lw_privs_2 : List (MethodName × Nat) := [(⟨"MoveUp$Reader", "addToken", "(II)V"⟩, 11), (⟨"MoveUp$Reader", "readDay", "(I)V"⟩, 11), (⟨"MoveUp$Reader", "fail", "(I)V"⟩, 11), (⟨"MoveUp$Reader", "step", "()V"⟩, 11), (⟨"MoveUp$Reader", "readNumber", "(I)I"⟩, 11), (⟨"MoveUp$Reader", "take", "(I)V"⟩, 11), (⟨"MoveUp$Reader", "readLaw", "()V"⟩, 11), (⟨"MoveUp$Reader", "readSum", "()V"⟩, 11), (⟨"MoveUp$Reader", "readProduct", "()V"⟩, 11), (⟨"MoveUp$Reader", "isTerm", "(I)Z"⟩, 11), (⟨"MoveUp$Reader", "readClaims", "(II)V"⟩, 11), (⟨"MoveUp$Reader", "readClaim", "(I)V"⟩, 11), (⟨"MoveUp$Filling", "fewest", "([III)I"⟩, 8), (⟨"MoveUp$Filling", "isClear", "([II)Z"⟩, 8), (⟨"MoveUp$Filling", "most", "(II)I"⟩, 8), (⟨"MoveUp$Filling", "mean", "(II)I"⟩, 8)]
theorem lw_r2 : ∀ q ∈ lw_privs_2, lw_okq q := List.forall_mem_cons.mpr ⟨lw_p16, List.forall_mem_cons.mpr ⟨lw_p17, List.forall_mem_cons.mpr ⟨lw_p18, List.forall_mem_cons.mpr ⟨lw_p19, List.forall_mem_cons.mpr ⟨lw_p20, List.forall_mem_cons.mpr ⟨lw_p21, List.forall_mem_cons.mpr ⟨lw_p22, List.forall_mem_cons.mpr ⟨lw_p23, List.forall_mem_cons.mpr ⟨lw_p24, List.forall_mem_cons.mpr ⟨lw_p25, List.forall_mem_cons.mpr ⟨lw_p26, List.forall_mem_cons.mpr ⟨lw_p27, List.forall_mem_cons.mpr ⟨lw_p28, List.forall_mem_cons.mpr ⟨lw_p29, List.forall_mem_cons.mpr ⟨lw_p30, List.forall_mem_cons.mpr ⟨lw_p31, fun _ h => absurd h List.not_mem_nil⟩⟩⟩⟩⟩⟩⟩⟩⟩⟩⟩⟩⟩⟩⟩⟩
theorem lw_p32 : lw_okq (⟨"MoveUp$Filling", "meanOf", "(II)I"⟩, 8) := ⟨⟨by decide +kernel, by decide +kernel⟩, List.mem_of_getElem? (i := 378) (by decide +kernel), List.mem_of_getElem? (i := 1047) (by decide +kernel), List.mem_of_getElem? (i := 1048) (by decide +kernel)⟩
theorem lw_p33 : lw_okq (⟨"MoveUp$Arrivals", "sitsSo", "(II)Z"⟩, 7) := ⟨⟨by decide +kernel, by decide +kernel⟩, List.mem_of_getElem? (i := 410) (by decide +kernel), List.mem_of_getElem? (i := 1084) (by decide +kernel), List.mem_of_getElem? (i := 1085) (by decide +kernel)⟩
theorem lw_p34 : lw_okq (⟨"MoveUp$Past", "load", "(LMoveUp$Bench;I)V"⟩, 6) := ⟨⟨by decide +kernel, by decide +kernel⟩, List.mem_of_getElem? (i := 201) (by decide +kernel), List.mem_of_getElem? (i := 1135) (by decide +kernel), List.mem_of_getElem? (i := 1136) (by decide +kernel)⟩
theorem lw_p35 : lw_okq (⟨"MoveUpModel", "isIn", "(III)Z"⟩, 71) := ⟨⟨by decide +kernel, by decide +kernel⟩, List.mem_of_getElem? (i := 1179) (by decide +kernel), List.mem_of_getElem? (i := 1408) (by decide +kernel), List.mem_of_getElem? (i := 1409) (by decide +kernel)⟩
theorem lw_p36 : lw_okq (⟨"MoveUpModel", "length", "()I"⟩, 71) := ⟨⟨by decide +kernel, by decide +kernel⟩, List.mem_of_getElem? (i := 1179) (by decide +kernel), List.mem_of_getElem? (i := 1416) (by decide +kernel), List.mem_of_getElem? (i := 1417) (by decide +kernel)⟩
theorem lw_p37 : lw_okq (⟨"MoveUpModel", "sits", "(I)Z"⟩, 71) := ⟨⟨by decide +kernel, by decide +kernel⟩, List.mem_of_getElem? (i := 1179) (by decide +kernel), List.mem_of_getElem? (i := 1420) (by decide +kernel), List.mem_of_getElem? (i := 1421) (by decide +kernel)⟩
theorem lw_p38 : lw_okq (⟨"MoveUpModel", "inchOf", "(I)I"⟩, 71) := ⟨⟨by decide +kernel, by decide +kernel⟩, List.mem_of_getElem? (i := 1179) (by decide +kernel), List.mem_of_getElem? (i := 1424) (by decide +kernel), List.mem_of_getElem? (i := 1425) (by decide +kernel)⟩
theorem lw_p39 : lw_okq (⟨"MoveUpModel", "isPerson", "(I)Z"⟩, 71) := ⟨⟨by decide +kernel, by decide +kernel⟩, List.mem_of_getElem? (i := 1179) (by decide +kernel), List.mem_of_getElem? (i := 1436) (by decide +kernel), List.mem_of_getElem? (i := 1437) (by decide +kernel)⟩
theorem lw_p40 : lw_okq (⟨"MoveUpModel", "types", "(I)V"⟩, 71) := ⟨⟨by decide +kernel, by decide +kernel⟩, List.mem_of_getElem? (i := 1179) (by decide +kernel), List.mem_of_getElem? (i := 1444) (by decide +kernel), List.mem_of_getElem? (i := 1445) (by decide +kernel)⟩
theorem lw_p41 : lw_okq (⟨"MoveUpModel", "reads", "()V"⟩, 71) := ⟨⟨by decide +kernel, by decide +kernel⟩, List.mem_of_getElem? (i := 1179) (by decide +kernel), List.mem_of_getElem? (i := 1456) (by decide +kernel), List.mem_of_getElem? (i := 1457) (by decide +kernel)⟩
theorem lw_p42 : lw_okq (⟨"MoveUpModel", "raw", "(I)I"⟩, 71) := ⟨⟨by decide +kernel, by decide +kernel⟩, List.mem_of_getElem? (i := 1179) (by decide +kernel), List.mem_of_getElem? (i := 1460) (by decide +kernel), List.mem_of_getElem? (i := 1461) (by decide +kernel)⟩
theorem lw_p43 : lw_okq (⟨"MoveUpModel", "isLetter", "(I)Z"⟩, 71) := ⟨⟨by decide +kernel, by decide +kernel⟩, List.mem_of_getElem? (i := 1179) (by decide +kernel), List.mem_of_getElem? (i := 1464) (by decide +kernel), List.mem_of_getElem? (i := 1465) (by decide +kernel)⟩
theorem lw_p44 : lw_okq (⟨"MoveUpModel", "wordAt", "(II)I"⟩, 71) := ⟨⟨by decide +kernel, by decide +kernel⟩, List.mem_of_getElem? (i := 1179) (by decide +kernel), List.mem_of_getElem? (i := 1468) (by decide +kernel), List.mem_of_getElem? (i := 1469) (by decide +kernel)⟩
theorem lw_p45 : lw_okq (⟨"MoveUpModel", "isDigit", "(I)Z"⟩, 71) := ⟨⟨by decide +kernel, by decide +kernel⟩, List.mem_of_getElem? (i := 1179) (by decide +kernel), List.mem_of_getElem? (i := 1472) (by decide +kernel), List.mem_of_getElem? (i := 1473) (by decide +kernel)⟩
theorem lw_p46 : lw_okq (⟨"MoveUpModel", "isMarkSign", "(I)Z"⟩, 71) := ⟨⟨by decide +kernel, by decide +kernel⟩, List.mem_of_getElem? (i := 1179) (by decide +kernel), List.mem_of_getElem? (i := 1476) (by decide +kernel), List.mem_of_getElem? (i := 1477) (by decide +kernel)⟩
theorem lw_p47 : lw_okq (⟨"MoveUpModel", "readDay", "()I"⟩, 71) := ⟨⟨by decide +kernel, by decide +kernel⟩, List.mem_of_getElem? (i := 1179) (by decide +kernel), List.mem_of_getElem? (i := 1480) (by decide +kernel), List.mem_of_getElem? (i := 1481) (by decide +kernel)⟩
def lw_privs_3 : List (MethodName × Nat) := [(⟨"MoveUp$Filling", "meanOf", "(II)I"⟩, 8), (⟨"MoveUp$Arrivals", "sitsSo", "(II)Z"⟩, 7), (⟨"MoveUp$Past", "load", "(LMoveUp$Bench;I)V"⟩, 6), (⟨"MoveUpModel", "isIn", "(III)Z"⟩, 71), (⟨"MoveUpModel", "length", "()I"⟩, 71), (⟨"MoveUpModel", "sits", "(I)Z"⟩, 71), (⟨"MoveUpModel", "inchOf", "(I)I"⟩, 71), (⟨"MoveUpModel", "isPerson", "(I)Z"⟩, 71), (⟨"MoveUpModel", "types", "(I)V"⟩, 71), (⟨"MoveUpModel", "reads", "()V"⟩, 71), (⟨"MoveUpModel", "raw", "(I)I"⟩, 71), (⟨"MoveUpModel", "isLetter", "(I)Z"⟩, 71), (⟨"MoveUpModel", "wordAt", "(II)I"⟩, 71), (⟨"MoveUpModel", "isDigit", "(I)Z"⟩, 71), (⟨"MoveUpModel", "isMarkSign", "(I)Z"⟩, 71), (⟨"MoveUpModel", "readDay", "()I"⟩, 71)]
theorem lw_r3 : ∀ q ∈ lw_privs_3, lw_okq q := List.forall_mem_cons.mpr ⟨lw_p32, List.forall_mem_cons.mpr ⟨lw_p33, List.forall_mem_cons.mpr ⟨lw_p34, List.forall_mem_cons.mpr ⟨lw_p35, List.forall_mem_cons.mpr ⟨lw_p36, List.forall_mem_cons.mpr ⟨lw_p37, List.forall_mem_cons.mpr ⟨lw_p38, List.forall_mem_cons.mpr ⟨lw_p39, List.forall_mem_cons.mpr ⟨lw_p40, List.forall_mem_cons.mpr ⟨lw_p41, List.forall_mem_cons.mpr ⟨lw_p42, List.forall_mem_cons.mpr ⟨lw_p43, List.forall_mem_cons.mpr ⟨lw_p44, List.forall_mem_cons.mpr ⟨lw_p45, List.forall_mem_cons.mpr ⟨lw_p46, List.forall_mem_cons.mpr ⟨lw_p47, fun _ h => absurd h List.not_mem_nil⟩⟩⟩⟩⟩⟩⟩⟩⟩⟩⟩⟩⟩⟩⟩⟩
theorem lw_p48 : lw_okq (⟨"MoveUpModel", "errs", "(I)I"⟩, 71) := ⟨⟨by decide +kernel, by decide +kernel⟩, List.mem_of_getElem? (i := 1179) (by decide +kernel), List.mem_of_getElem? (i := 1484) (by decide +kernel), List.mem_of_getElem? (i := 1485) (by decide +kernel)⟩
theorem lw_p49 : lw_okq (⟨"MoveUpModel", "readDayLine", "(I)I"⟩, 71) := ⟨⟨by decide +kernel, by decide +kernel⟩, List.mem_of_getElem? (i := 1179) (by decide +kernel), List.mem_of_getElem? (i := 1488) (by decide +kernel), List.mem_of_getElem? (i := 1489) (by decide +kernel)⟩
theorem lw_p50 : lw_okq (⟨"MoveUpModel", "readNumber", "(II)I"⟩, 71) := ⟨⟨by decide +kernel, by decide +kernel⟩, List.mem_of_getElem? (i := 1179) (by decide +kernel), List.mem_of_getElem? (i := 1492) (by decide +kernel), List.mem_of_getElem? (i := 1493) (by decide +kernel)⟩
theorem lw_p51 : lw_okq (⟨"MoveUpModel", "isWord", "(I)Z"⟩, 71) := ⟨⟨by decide +kernel, by decide +kernel⟩, List.mem_of_getElem? (i := 1179) (by decide +kernel), List.mem_of_getElem? (i := 1496) (by decide +kernel), List.mem_of_getElem? (i := 1497) (by decide +kernel)⟩
theorem lw_p52 : lw_okq (⟨"MoveUpModel", "isSign", "(I)Z"⟩, 71) := ⟨⟨by decide +kernel, by decide +kernel⟩, List.mem_of_getElem? (i := 1179) (by decide +kernel), List.mem_of_getElem? (i := 1500) (by decide +kernel), List.mem_of_getElem? (i := 1501) (by decide +kernel)⟩
theorem lw_p53 : lw_okq (⟨"MoveUpModel", "readLaw", "()I"⟩, 71) := ⟨⟨by decide +kernel, by decide +kernel⟩, List.mem_of_getElem? (i := 1179) (by decide +kernel), List.mem_of_getElem? (i := 1504) (by decide +kernel), List.mem_of_getElem? (i := 1505) (by decide +kernel)⟩
theorem lw_p54 : lw_okq (⟨"MoveUpModel", "isLineWord", "()Z"⟩, 71) := ⟨⟨by decide +kernel, by decide +kernel⟩, List.mem_of_getElem? (i := 1179) (by decide +kernel), List.mem_of_getElem? (i := 1508) (by decide +kernel), List.mem_of_getElem? (i := 1509) (by decide +kernel)⟩
theorem lw_p55 : lw_okq (⟨"MoveUpModel", "readSum", "()I"⟩, 71) := ⟨⟨by decide +kernel, by decide +kernel⟩, List.mem_of_getElem? (i := 1179) (by decide +kernel), List.mem_of_getElem? (i := 1512) (by decide +kernel), List.mem_of_getElem? (i := 1513) (by decide +kernel)⟩
theorem lw_p56 : lw_okq (⟨"MoveUpModel", "readProduct", "()I"⟩, 71) := ⟨⟨by decide +kernel, by decide +kernel⟩, List.mem_of_getElem? (i := 1179) (by decide +kernel), List.mem_of_getElem? (i := 1516) (by decide +kernel), List.mem_of_getElem? (i := 1517) (by decide +kernel)⟩
theorem lw_p57 : lw_okq (⟨"MoveUpModel", "readUnit", "()I"⟩, 71) := ⟨⟨by decide +kernel, by decide +kernel⟩, List.mem_of_getElem? (i := 1179) (by decide +kernel), List.mem_of_getElem? (i := 1520) (by decide +kernel), List.mem_of_getElem? (i := 1521) (by decide +kernel)⟩
theorem lw_p58 : lw_okq (⟨"MoveUpModel", "canAsk", "(I)Z"⟩, 71) := ⟨⟨by decide +kernel, by decide +kernel⟩, List.mem_of_getElem? (i := 1179) (by decide +kernel), List.mem_of_getElem? (i := 1524) (by decide +kernel), List.mem_of_getElem? (i := 1525) (by decide +kernel)⟩
theorem lw_p59 : lw_okq (⟨"MoveUpModel", "emits", "(II)V"⟩, 71) := ⟨⟨by decide +kernel, by decide +kernel⟩, List.mem_of_getElem? (i := 1179) (by decide +kernel), List.mem_of_getElem? (i := 1528) (by decide +kernel), List.mem_of_getElem? (i := 1529) (by decide +kernel)⟩
theorem lw_p60 : lw_okq (⟨"MoveUpModel", "readAny", "()I"⟩, 71) := ⟨⟨by decide +kernel, by decide +kernel⟩, List.mem_of_getElem? (i := 1179) (by decide +kernel), List.mem_of_getElem? (i := 1532) (by decide +kernel), List.mem_of_getElem? (i := 1533) (by decide +kernel)⟩
theorem lw_p61 : lw_okq (⟨"MoveUpModel", "waits", "(I)V"⟩, 71) := ⟨⟨by decide +kernel, by decide +kernel⟩, List.mem_of_getElem? (i := 1179) (by decide +kernel), List.mem_of_getElem? (i := 1536) (by decide +kernel), List.mem_of_getElem? (i := 1537) (by decide +kernel)⟩
theorem lw_p62 : lw_okq (⟨"MoveUpModel", "readCompared", "()I"⟩, 71) := ⟨⟨by decide +kernel, by decide +kernel⟩, List.mem_of_getElem? (i := 1179) (by decide +kernel), List.mem_of_getElem? (i := 1540) (by decide +kernel), List.mem_of_getElem? (i := 1541) (by decide +kernel)⟩
theorem lw_p63 : lw_okq (⟨"MoveUpModel", "settles", "(I)V"⟩, 71) := ⟨⟨by decide +kernel, by decide +kernel⟩, List.mem_of_getElem? (i := 1179) (by decide +kernel), List.mem_of_getElem? (i := 1544) (by decide +kernel), List.mem_of_getElem? (i := 1545) (by decide +kernel)⟩
def lw_privs_4 : List (MethodName × Nat) := [(⟨"MoveUpModel", "errs", "(I)I"⟩, 71), (⟨"MoveUpModel", "readDayLine", "(I)I"⟩, 71), (⟨"MoveUpModel", "readNumber", "(II)I"⟩, 71), (⟨"MoveUpModel", "isWord", "(I)Z"⟩, 71), (⟨"MoveUpModel", "isSign", "(I)Z"⟩, 71), (⟨"MoveUpModel", "readLaw", "()I"⟩, 71), (⟨"MoveUpModel", "isLineWord", "()Z"⟩, 71), (⟨"MoveUpModel", "readSum", "()I"⟩, 71), (⟨"MoveUpModel", "readProduct", "()I"⟩, 71), (⟨"MoveUpModel", "readUnit", "()I"⟩, 71), (⟨"MoveUpModel", "canAsk", "(I)Z"⟩, 71), (⟨"MoveUpModel", "emits", "(II)V"⟩, 71), (⟨"MoveUpModel", "readAny", "()I"⟩, 71), (⟨"MoveUpModel", "waits", "(I)V"⟩, 71), (⟨"MoveUpModel", "readCompared", "()I"⟩, 71), (⟨"MoveUpModel", "settles", "(I)V"⟩, 71)]
theorem lw_r4 : ∀ q ∈ lw_privs_4, lw_okq q := List.forall_mem_cons.mpr ⟨lw_p48, List.forall_mem_cons.mpr ⟨lw_p49, List.forall_mem_cons.mpr ⟨lw_p50, List.forall_mem_cons.mpr ⟨lw_p51, List.forall_mem_cons.mpr ⟨lw_p52, List.forall_mem_cons.mpr ⟨lw_p53, List.forall_mem_cons.mpr ⟨lw_p54, List.forall_mem_cons.mpr ⟨lw_p55, List.forall_mem_cons.mpr ⟨lw_p56, List.forall_mem_cons.mpr ⟨lw_p57, List.forall_mem_cons.mpr ⟨lw_p58, List.forall_mem_cons.mpr ⟨lw_p59, List.forall_mem_cons.mpr ⟨lw_p60, List.forall_mem_cons.mpr ⟨lw_p61, List.forall_mem_cons.mpr ⟨lw_p62, List.forall_mem_cons.mpr ⟨lw_p63, fun _ h => absurd h List.not_mem_nil⟩⟩⟩⟩⟩⟩⟩⟩⟩⟩⟩⟩⟩⟩⟩⟩
theorem lw_p64 : lw_okq (⟨"MoveUpModel", "takesDay", "(I)V"⟩, 71) := ⟨⟨by decide +kernel, by decide +kernel⟩, List.mem_of_getElem? (i := 1179) (by decide +kernel), List.mem_of_getElem? (i := 1548) (by decide +kernel), List.mem_of_getElem? (i := 1549) (by decide +kernel)⟩
theorem lw_p65 : lw_okq (⟨"MoveUpModel", "takesLaw", "(I)V"⟩, 71) := ⟨⟨by decide +kernel, by decide +kernel⟩, List.mem_of_getElem? (i := 1179) (by decide +kernel), List.mem_of_getElem? (i := 1552) (by decide +kernel), List.mem_of_getElem? (i := 1553) (by decide +kernel)⟩
theorem lw_p66 : lw_okq (⟨"MoveUpModel", "everyone", "()I"⟩, 71) := ⟨⟨by decide +kernel, by decide +kernel⟩, List.mem_of_getElem? (i := 1179) (by decide +kernel), List.mem_of_getElem? (i := 1565) (by decide +kernel), List.mem_of_getElem? (i := 1566) (by decide +kernel)⟩
theorem lw_p67 : lw_okq (⟨"MoveUpModel", "lists", "(I)V"⟩, 71) := ⟨⟨by decide +kernel, by decide +kernel⟩, List.mem_of_getElem? (i := 1179) (by decide +kernel), List.mem_of_getElem? (i := 1569) (by decide +kernel), List.mem_of_getElem? (i := 1570) (by decide +kernel)⟩
theorem lw_p68 : lw_okq (⟨"MoveUpModel", "takesOf", "(I)I"⟩, 71) := ⟨⟨by decide +kernel, by decide +kernel⟩, List.mem_of_getElem? (i := 1179) (by decide +kernel), List.mem_of_getElem? (i := 1573) (by decide +kernel), List.mem_of_getElem? (i := 1574) (by decide +kernel)⟩
theorem lw_p69 : lw_okq (⟨"MoveUpModel", "seats", "(IIIII)V"⟩, 71) := ⟨⟨by decide +kernel, by decide +kernel⟩, List.mem_of_getElem? (i := 1179) (by decide +kernel), List.mem_of_getElem? (i := 1577) (by decide +kernel), List.mem_of_getElem? (i := 1578) (by decide +kernel)⟩
theorem lw_p70 : lw_okq (⟨"MoveUpModel", "asksFor", "(I)V"⟩, 71) := ⟨⟨by decide +kernel, by decide +kernel⟩, List.mem_of_getElem? (i := 1179) (by decide +kernel), List.mem_of_getElem? (i := 1581) (by decide +kernel), List.mem_of_getElem? (i := 1582) (by decide +kernel)⟩
theorem lw_p71 : lw_okq (⟨"MoveUpModel", "canSit", "(I)Z"⟩, 71) := ⟨⟨by decide +kernel, by decide +kernel⟩, List.mem_of_getElem? (i := 1179) (by decide +kernel), List.mem_of_getElem? (i := 1585) (by decide +kernel), List.mem_of_getElem? (i := 1586) (by decide +kernel)⟩
theorem lw_p72 : lw_okq (⟨"MoveUpModel", "isOverRest", "(II)Z"⟩, 71) := ⟨⟨by decide +kernel, by decide +kernel⟩, List.mem_of_getElem? (i := 1179) (by decide +kernel), List.mem_of_getElem? (i := 1589) (by decide +kernel), List.mem_of_getElem? (i := 1590) (by decide +kernel)⟩
theorem lw_p73 : lw_okq (⟨"MoveUpModel", "leftOf", "(I)I"⟩, 71) := ⟨⟨by decide +kernel, by decide +kernel⟩, List.mem_of_getElem? (i := 1179) (by decide +kernel), List.mem_of_getElem? (i := 1593) (by decide +kernel), List.mem_of_getElem? (i := 1594) (by decide +kernel)⟩
theorem lw_p74 : lw_okq (⟨"MoveUpModel", "apartOf", "(IIII)I"⟩, 71) := ⟨⟨by decide +kernel, by decide +kernel⟩, List.mem_of_getElem? (i := 1179) (by decide +kernel), List.mem_of_getElem? (i := 1597) (by decide +kernel), List.mem_of_getElem? (i := 1598) (by decide +kernel)⟩
theorem lw_p75 : lw_okq (⟨"MoveUpModel", "greater", "(II)I"⟩, 71) := ⟨⟨by decide +kernel, by decide +kernel⟩, List.mem_of_getElem? (i := 1179) (by decide +kernel), List.mem_of_getElem? (i := 1601) (by decide +kernel), List.mem_of_getElem? (i := 1602) (by decide +kernel)⟩
theorem lw_p76 : lw_okq (⟨"MoveUpModel", "tellsOf", "(I)I"⟩, 71) := ⟨⟨by decide +kernel, by decide +kernel⟩, List.mem_of_getElem? (i := 1179) (by decide +kernel), List.mem_of_getElem? (i := 1605) (by decide +kernel), List.mem_of_getElem? (i := 1606) (by decide +kernel)⟩
theorem lw_p77 : lw_okq (⟨"MoveUpModel", "asksHim", "()V"⟩, 71) := ⟨⟨by decide +kernel, by decide +kernel⟩, List.mem_of_getElem? (i := 1179) (by decide +kernel), List.mem_of_getElem? (i := 1609) (by decide +kernel), List.mem_of_getElem? (i := 1610) (by decide +kernel)⟩
theorem lw_p78 : lw_okq (⟨"MoveUpModel", "warmAt", "(I)I"⟩, 71) := ⟨⟨by decide +kernel, by decide +kernel⟩, List.mem_of_getElem? (i := 1179) (by decide +kernel), List.mem_of_getElem? (i := 1613) (by decide +kernel), List.mem_of_getElem? (i := 1614) (by decide +kernel)⟩
theorem lw_p79 : lw_okq (⟨"MoveUpModel", "isFriend", "(I)Z"⟩, 71) := ⟨⟨by decide +kernel, by decide +kernel⟩, List.mem_of_getElem? (i := 1179) (by decide +kernel), List.mem_of_getElem? (i := 1617) (by decide +kernel), List.mem_of_getElem? (i := 1618) (by decide +kernel)⟩
def lw_privs_5 : List (MethodName × Nat) := [(⟨"MoveUpModel", "takesDay", "(I)V"⟩, 71), (⟨"MoveUpModel", "takesLaw", "(I)V"⟩, 71), (⟨"MoveUpModel", "everyone", "()I"⟩, 71), (⟨"MoveUpModel", "lists", "(I)V"⟩, 71), (⟨"MoveUpModel", "takesOf", "(I)I"⟩, 71), (⟨"MoveUpModel", "seats", "(IIIII)V"⟩, 71), (⟨"MoveUpModel", "asksFor", "(I)V"⟩, 71), (⟨"MoveUpModel", "canSit", "(I)Z"⟩, 71), (⟨"MoveUpModel", "isOverRest", "(II)Z"⟩, 71), (⟨"MoveUpModel", "leftOf", "(I)I"⟩, 71), (⟨"MoveUpModel", "apartOf", "(IIII)I"⟩, 71), (⟨"MoveUpModel", "greater", "(II)I"⟩, 71), (⟨"MoveUpModel", "tellsOf", "(I)I"⟩, 71), (⟨"MoveUpModel", "asksHim", "()V"⟩, 71), (⟨"MoveUpModel", "warmAt", "(I)I"⟩, 71), (⟨"MoveUpModel", "isFriend", "(I)Z"⟩, 71)]
theorem lw_r5 : ∀ q ∈ lw_privs_5, lw_okq q := List.forall_mem_cons.mpr ⟨lw_p64, List.forall_mem_cons.mpr ⟨lw_p65, List.forall_mem_cons.mpr ⟨lw_p66, List.forall_mem_cons.mpr ⟨lw_p67, List.forall_mem_cons.mpr ⟨lw_p68, List.forall_mem_cons.mpr ⟨lw_p69, List.forall_mem_cons.mpr ⟨lw_p70, List.forall_mem_cons.mpr ⟨lw_p71, List.forall_mem_cons.mpr ⟨lw_p72, List.forall_mem_cons.mpr ⟨lw_p73, List.forall_mem_cons.mpr ⟨lw_p74, List.forall_mem_cons.mpr ⟨lw_p75, List.forall_mem_cons.mpr ⟨lw_p76, List.forall_mem_cons.mpr ⟨lw_p77, List.forall_mem_cons.mpr ⟨lw_p78, List.forall_mem_cons.mpr ⟨lw_p79, fun _ h => absurd h List.not_mem_nil⟩⟩⟩⟩⟩⟩⟩⟩⟩⟩⟩⟩⟩⟩⟩⟩
theorem lw_p80 : lw_okq (⟨"MoveUpModel", "lineOf", "(I)I"⟩, 71) := ⟨⟨by decide +kernel, by decide +kernel⟩, List.mem_of_getElem? (i := 1179) (by decide +kernel), List.mem_of_getElem? (i := 1621) (by decide +kernel), List.mem_of_getElem? (i := 1622) (by decide +kernel)⟩
theorem lw_p81 : lw_okq (⟨"MoveUpModel", "runs", "(III)I"⟩, 71) := ⟨⟨by decide +kernel, by decide +kernel⟩, List.mem_of_getElem? (i := 1179) (by decide +kernel), List.mem_of_getElem? (i := 1625) (by decide +kernel), List.mem_of_getElem? (i := 1626) (by decide +kernel)⟩
theorem lw_p82 : lw_okq (⟨"MoveUpModel", "twoOf", "(III)I"⟩, 71) := ⟨⟨by decide +kernel, by decide +kernel⟩, List.mem_of_getElem? (i := 1179) (by decide +kernel), List.mem_of_getElem? (i := 1629) (by decide +kernel), List.mem_of_getElem? (i := 1630) (by decide +kernel)⟩
theorem lw_p83 : lw_okq (⟨"MoveUpModel", "isAside", "(I)Z"⟩, 71) := ⟨⟨by decide +kernel, by decide +kernel⟩, List.mem_of_getElem? (i := 1179) (by decide +kernel), List.mem_of_getElem? (i := 1637) (by decide +kernel), List.mem_of_getElem? (i := 1638) (by decide +kernel)⟩
theorem lw_p84 : lw_okq (⟨"MoveUpModel", "keepsAhead", "()V"⟩, 71) := ⟨⟨by decide +kernel, by decide +kernel⟩, List.mem_of_getElem? (i := 1179) (by decide +kernel), List.mem_of_getElem? (i := 1641) (by decide +kernel), List.mem_of_getElem? (i := 1642) (by decide +kernel)⟩
theorem lw_p85 : lw_okq (⟨"MoveUpModel", "comes", "(I)I"⟩, 71) := ⟨⟨by decide +kernel, by decide +kernel⟩, List.mem_of_getElem? (i := 1179) (by decide +kernel), List.mem_of_getElem? (i := 1645) (by decide +kernel), List.mem_of_getElem? (i := 1646) (by decide +kernel)⟩
theorem lw_p86 : lw_okq (⟨"MoveUpModel", "bestInch", "()I"⟩, 71) := ⟨⟨by decide +kernel, by decide +kernel⟩, List.mem_of_getElem? (i := 1179) (by decide +kernel), List.mem_of_getElem? (i := 1649) (by decide +kernel), List.mem_of_getElem? (i := 1650) (by decide +kernel)⟩
theorem lw_p87 : lw_okq (⟨"MoveUpModel", "notes", "(III)V"⟩, 71) := ⟨⟨by decide +kernel, by decide +kernel⟩, List.mem_of_getElem? (i := 1179) (by decide +kernel), List.mem_of_getElem? (i := 1653) (by decide +kernel), List.mem_of_getElem? (i := 1654) (by decide +kernel)⟩
theorem lw_p88 : lw_okq (⟨"MoveUpModel", "goes", "(I)V"⟩, 71) := ⟨⟨by decide +kernel, by decide +kernel⟩, List.mem_of_getElem? (i := 1179) (by decide +kernel), List.mem_of_getElem? (i := 1661) (by decide +kernel), List.mem_of_getElem? (i := 1662) (by decide +kernel)⟩
theorem lw_p89 : lw_okq (⟨"MoveUpModel", "begs", "(I)I"⟩, 71) := ⟨⟨by decide +kernel, by decide +kernel⟩, List.mem_of_getElem? (i := 1179) (by decide +kernel), List.mem_of_getElem? (i := 1669) (by decide +kernel), List.mem_of_getElem? (i := 1670) (by decide +kernel)⟩
theorem lw_p90 : lw_okq (⟨"MoveUpModel", "findsRoom", "(II)Z"⟩, 71) := ⟨⟨by decide +kernel, by decide +kernel⟩, List.mem_of_getElem? (i := 1179) (by decide +kernel), List.mem_of_getElem? (i := 1673) (by decide +kernel), List.mem_of_getElem? (i := 1674) (by decide +kernel)⟩
theorem lw_p91 : lw_okq (⟨"MoveUpModel", "leastBy", "(II)I"⟩, 71) := ⟨⟨by decide +kernel, by decide +kernel⟩, List.mem_of_getElem? (i := 1179) (by decide +kernel), List.mem_of_getElem? (i := 1678) (by decide +kernel), List.mem_of_getElem? (i := 1679) (by decide +kernel)⟩
theorem lw_p92 : lw_okq (⟨"MoveUpModel", "itemsFor", "(II)V"⟩, 71) := ⟨⟨by decide +kernel, by decide +kernel⟩, List.mem_of_getElem? (i := 1179) (by decide +kernel), List.mem_of_getElem? (i := 1682) (by decide +kernel), List.mem_of_getElem? (i := 1683) (by decide +kernel)⟩
theorem lw_p93 : lw_okq (⟨"MoveUpModel", "costAt", "(II)I"⟩, 71) := ⟨⟨by decide +kernel, by decide +kernel⟩, List.mem_of_getElem? (i := 1179) (by decide +kernel), List.mem_of_getElem? (i := 1686) (by decide +kernel), List.mem_of_getElem? (i := 1687) (by decide +kernel)⟩
theorem lw_p94 : lw_okq (⟨"MoveUpModel", "without", "(I)I"⟩, 71) := ⟨⟨by decide +kernel, by decide +kernel⟩, List.mem_of_getElem? (i := 1179) (by decide +kernel), List.mem_of_getElem? (i := 1690) (by decide +kernel), List.mem_of_getElem? (i := 1691) (by decide +kernel)⟩
theorem lw_p95 : lw_okq (⟨"MoveUpModel", "costOf", "(II)I"⟩, 71) := ⟨⟨by decide +kernel, by decide +kernel⟩, List.mem_of_getElem? (i := 1179) (by decide +kernel), List.mem_of_getElem? (i := 1694) (by decide +kernel), List.mem_of_getElem? (i := 1695) (by decide +kernel)⟩
def lw_privs_6 : List (MethodName × Nat) := [(⟨"MoveUpModel", "lineOf", "(I)I"⟩, 71), (⟨"MoveUpModel", "runs", "(III)I"⟩, 71), (⟨"MoveUpModel", "twoOf", "(III)I"⟩, 71), (⟨"MoveUpModel", "isAside", "(I)Z"⟩, 71), (⟨"MoveUpModel", "keepsAhead", "()V"⟩, 71), (⟨"MoveUpModel", "comes", "(I)I"⟩, 71), (⟨"MoveUpModel", "bestInch", "()I"⟩, 71), (⟨"MoveUpModel", "notes", "(III)V"⟩, 71), (⟨"MoveUpModel", "goes", "(I)V"⟩, 71), (⟨"MoveUpModel", "begs", "(I)I"⟩, 71), (⟨"MoveUpModel", "findsRoom", "(II)Z"⟩, 71), (⟨"MoveUpModel", "leastBy", "(II)I"⟩, 71), (⟨"MoveUpModel", "itemsFor", "(II)V"⟩, 71), (⟨"MoveUpModel", "costAt", "(II)I"⟩, 71), (⟨"MoveUpModel", "without", "(I)I"⟩, 71), (⟨"MoveUpModel", "costOf", "(II)I"⟩, 71)]
theorem lw_r6 : ∀ q ∈ lw_privs_6, lw_okq q := List.forall_mem_cons.mpr ⟨lw_p80, List.forall_mem_cons.mpr ⟨lw_p81, List.forall_mem_cons.mpr ⟨lw_p82, List.forall_mem_cons.mpr ⟨lw_p83, List.forall_mem_cons.mpr ⟨lw_p84, List.forall_mem_cons.mpr ⟨lw_p85, List.forall_mem_cons.mpr ⟨lw_p86, List.forall_mem_cons.mpr ⟨lw_p87, List.forall_mem_cons.mpr ⟨lw_p88, List.forall_mem_cons.mpr ⟨lw_p89, List.forall_mem_cons.mpr ⟨lw_p90, List.forall_mem_cons.mpr ⟨lw_p91, List.forall_mem_cons.mpr ⟨lw_p92, List.forall_mem_cons.mpr ⟨lw_p93, List.forall_mem_cons.mpr ⟨lw_p94, List.forall_mem_cons.mpr ⟨lw_p95, fun _ h => absurd h List.not_mem_nil⟩⟩⟩⟩⟩⟩⟩⟩⟩⟩⟩⟩⟩⟩⟩⟩
theorem lw_p96 : lw_okq (⟨"MoveUpModel", "held", "(III)I"⟩, 71) := ⟨⟨by decide +kernel, by decide +kernel⟩, List.mem_of_getElem? (i := 1179) (by decide +kernel), List.mem_of_getElem? (i := 1698) (by decide +kernel), List.mem_of_getElem? (i := 1699) (by decide +kernel)⟩
theorem lw_p97 : lw_okq (⟨"MoveUpModel", "leastBehind", "(II)I"⟩, 71) := ⟨⟨by decide +kernel, by decide +kernel⟩, List.mem_of_getElem? (i := 1179) (by decide +kernel), List.mem_of_getElem? (i := 1702) (by decide +kernel), List.mem_of_getElem? (i := 1703) (by decide +kernel)⟩
theorem lw_p98 : lw_okq (⟨"MoveUpModel", "canBeside", "(IIII)Z"⟩, 71) := ⟨⟨by decide +kernel, by decide +kernel⟩, List.mem_of_getElem? (i := 1179) (by decide +kernel), List.mem_of_getElem? (i := 1706) (by decide +kernel), List.mem_of_getElem? (i := 1707) (by decide +kernel)⟩
theorem lw_p99 : lw_okq (⟨"MoveUpModel", "goesBy", "()I"⟩, 71) := ⟨⟨by decide +kernel, by decide +kernel⟩, List.mem_of_getElem? (i := 1179) (by decide +kernel), List.mem_of_getElem? (i := 1714) (by decide +kernel), List.mem_of_getElem? (i := 1715) (by decide +kernel)⟩
theorem lw_p100 : lw_okq (⟨"MoveUpModel", "doesLine", "(I)Z"⟩, 71) := ⟨⟨by decide +kernel, by decide +kernel⟩, List.mem_of_getElem? (i := 1179) (by decide +kernel), List.mem_of_getElem? (i := 1718) (by decide +kernel), List.mem_of_getElem? (i := 1719) (by decide +kernel)⟩
theorem lw_p101 : lw_okq (⟨"MoveUpModel", "standsNow", "(I)V"⟩, 71) := ⟨⟨by decide +kernel, by decide +kernel⟩, List.mem_of_getElem? (i := 1179) (by decide +kernel), List.mem_of_getElem? (i := 1722) (by decide +kernel), List.mem_of_getElem? (i := 1723) (by decide +kernel)⟩
theorem lw_p102 : lw_okq (⟨"MoveUpModel", "thinks", "()V"⟩, 71) := ⟨⟨by decide +kernel, by decide +kernel⟩, List.mem_of_getElem? (i := 1179) (by decide +kernel), List.mem_of_getElem? (i := 1730) (by decide +kernel), List.mem_of_getElem? (i := 1731) (by decide +kernel)⟩
theorem lw_p103 : lw_okq (⟨"MoveUpModel", "endsThought", "()V"⟩, 71) := ⟨⟨by decide +kernel, by decide +kernel⟩, List.mem_of_getElem? (i := 1179) (by decide +kernel), List.mem_of_getElem? (i := 1734) (by decide +kernel), List.mem_of_getElem? (i := 1735) (by decide +kernel)⟩
theorem lw_p104 : lw_okq (⟨"MoveUpModel", "placeOf", "(I)I"⟩, 71) := ⟨⟨by decide +kernel, by decide +kernel⟩, List.mem_of_getElem? (i := 1179) (by decide +kernel), List.mem_of_getElem? (i := 1742) (by decide +kernel), List.mem_of_getElem? (i := 1743) (by decide +kernel)⟩
theorem lw_p105 : lw_okq (⟨"MoveUpModel", "whoAt", "(I)I"⟩, 71) := ⟨⟨by decide +kernel, by decide +kernel⟩, List.mem_of_getElem? (i := 1179) (by decide +kernel), List.mem_of_getElem? (i := 1750) (by decide +kernel), List.mem_of_getElem? (i := 1751) (by decide +kernel)⟩
theorem lw_p106 : lw_okq (⟨"MoveUpModel", "roomFor", "(I)I"⟩, 71) := ⟨⟨by decide +kernel, by decide +kernel⟩, List.mem_of_getElem? (i := 1179) (by decide +kernel), List.mem_of_getElem? (i := 1762) (by decide +kernel), List.mem_of_getElem? (i := 1763) (by decide +kernel)⟩
theorem lw_p107 : lw_okq (⟨"MoveUpModel", "areAlike", "(II)Z"⟩, 71) := ⟨⟨by decide +kernel, by decide +kernel⟩, List.mem_of_getElem? (i := 1179) (by decide +kernel), List.mem_of_getElem? (i := 1774) (by decide +kernel), List.mem_of_getElem? (i := 1775) (by decide +kernel)⟩
theorem lw_p108 : lw_okq (⟨"MoveUpModel", "fillByLaw", "(II)I"⟩, 71) := ⟨⟨by decide +kernel, by decide +kernel⟩, List.mem_of_getElem? (i := 1179) (by decide +kernel), List.mem_of_getElem? (i := 1778) (by decide +kernel), List.mem_of_getElem? (i := 1779) (by decide +kernel)⟩
theorem lw_p109 : lw_okq (⟨"MoveUpModel", "findsStretches", "(II)V"⟩, 71) := ⟨⟨by decide +kernel, by decide +kernel⟩, List.mem_of_getElem? (i := 1179) (by decide +kernel), List.mem_of_getElem? (i := 1782) (by decide +kernel), List.mem_of_getElem? (i := 1783) (by decide +kernel)⟩
theorem lw_p110 : lw_okq (⟨"MoveUpModel", "findsStretch", "(IIII)V"⟩, 71) := ⟨⟨by decide +kernel, by decide +kernel⟩, List.mem_of_getElem? (i := 1179) (by decide +kernel), List.mem_of_getElem? (i := 1786) (by decide +kernel), List.mem_of_getElem? (i := 1787) (by decide +kernel)⟩
theorem lw_p111 : lw_okq (⟨"MoveUpModel", "ofStretch", "([III)I"⟩, 71) := ⟨⟨by decide +kernel, by decide +kernel⟩, List.mem_of_getElem? (i := 1179) (by decide +kernel), List.mem_of_getElem? (i := 1790) (by decide +kernel), List.mem_of_getElem? (i := 1791) (by decide +kernel)⟩
def lw_privs_7 : List (MethodName × Nat) := [(⟨"MoveUpModel", "held", "(III)I"⟩, 71), (⟨"MoveUpModel", "leastBehind", "(II)I"⟩, 71), (⟨"MoveUpModel", "canBeside", "(IIII)Z"⟩, 71), (⟨"MoveUpModel", "goesBy", "()I"⟩, 71), (⟨"MoveUpModel", "doesLine", "(I)Z"⟩, 71), (⟨"MoveUpModel", "standsNow", "(I)V"⟩, 71), (⟨"MoveUpModel", "thinks", "()V"⟩, 71), (⟨"MoveUpModel", "endsThought", "()V"⟩, 71), (⟨"MoveUpModel", "placeOf", "(I)I"⟩, 71), (⟨"MoveUpModel", "whoAt", "(I)I"⟩, 71), (⟨"MoveUpModel", "roomFor", "(I)I"⟩, 71), (⟨"MoveUpModel", "areAlike", "(II)Z"⟩, 71), (⟨"MoveUpModel", "fillByLaw", "(II)I"⟩, 71), (⟨"MoveUpModel", "findsStretches", "(II)V"⟩, 71), (⟨"MoveUpModel", "findsStretch", "(IIII)V"⟩, 71), (⟨"MoveUpModel", "ofStretch", "([III)I"⟩, 71)]
theorem lw_r7 : ∀ q ∈ lw_privs_7, lw_okq q := List.forall_mem_cons.mpr ⟨lw_p96, List.forall_mem_cons.mpr ⟨lw_p97, List.forall_mem_cons.mpr ⟨lw_p98, List.forall_mem_cons.mpr ⟨lw_p99, List.forall_mem_cons.mpr ⟨lw_p100, List.forall_mem_cons.mpr ⟨lw_p101, List.forall_mem_cons.mpr ⟨lw_p102, List.forall_mem_cons.mpr ⟨lw_p103, List.forall_mem_cons.mpr ⟨lw_p104, List.forall_mem_cons.mpr ⟨lw_p105, List.forall_mem_cons.mpr ⟨lw_p106, List.forall_mem_cons.mpr ⟨lw_p107, List.forall_mem_cons.mpr ⟨lw_p108, List.forall_mem_cons.mpr ⟨lw_p109, List.forall_mem_cons.mpr ⟨lw_p110, List.forall_mem_cons.mpr ⟨lw_p111, fun _ h => absurd h List.not_mem_nil⟩⟩⟩⟩⟩⟩⟩⟩⟩⟩⟩⟩⟩⟩⟩⟩
theorem lw_p112 : lw_okq (⟨"MoveUpModel", "stretch", "(II)I"⟩, 71) := ⟨⟨by decide +kernel, by decide +kernel⟩, List.mem_of_getElem? (i := 1179) (by decide +kernel), List.mem_of_getElem? (i := 1794) (by decide +kernel), List.mem_of_getElem? (i := 1795) (by decide +kernel)⟩
theorem lw_p113 : lw_okq (⟨"MoveUpModel", "fills", "(I)V"⟩, 71) := ⟨⟨by decide +kernel, by decide +kernel⟩, List.mem_of_getElem? (i := 1179) (by decide +kernel), List.mem_of_getElem? (i := 1798) (by decide +kernel), List.mem_of_getElem? (i := 1799) (by decide +kernel)⟩
theorem lw_p114 : lw_okq (⟨"MoveUpModel", "findsBare", "(II)V"⟩, 71) := ⟨⟨by decide +kernel, by decide +kernel⟩, List.mem_of_getElem? (i := 1179) (by decide +kernel), List.mem_of_getElem? (i := 1806) (by decide +kernel), List.mem_of_getElem? (i := 1807) (by decide +kernel)⟩
theorem lw_p115 : lw_okq (⟨"MoveUpModel", "findsAround", "(III)V"⟩, 71) := ⟨⟨by decide +kernel, by decide +kernel⟩, List.mem_of_getElem? (i := 1179) (by decide +kernel), List.mem_of_getElem? (i := 1810) (by decide +kernel), List.mem_of_getElem? (i := 1811) (by decide +kernel)⟩
theorem lw_p116 : lw_okq (⟨"MoveUpModel", "fewestBy", "(III)I"⟩, 71) := ⟨⟨by decide +kernel, by decide +kernel⟩, List.mem_of_getElem? (i := 1179) (by decide +kernel), List.mem_of_getElem? (i := 1814) (by decide +kernel), List.mem_of_getElem? (i := 1815) (by decide +kernel)⟩
theorem lw_p117 : lw_okq (⟨"MoveUpModel", "sittingSet", "()I"⟩, 71) := ⟨⟨by decide +kernel, by decide +kernel⟩, List.mem_of_getElem? (i := 1179) (by decide +kernel), List.mem_of_getElem? (i := 1830) (by decide +kernel), List.mem_of_getElem? (i := 1831) (by decide +kernel)⟩
theorem lw_p118 : lw_okq (⟨"MoveUpModel", "onesOf", "(I)I"⟩, 71) := ⟨⟨by decide +kernel, by decide +kernel⟩, List.mem_of_getElem? (i := 1179) (by decide +kernel), List.mem_of_getElem? (i := 1834) (by decide +kernel), List.mem_of_getElem? (i := 1835) (by decide +kernel)⟩
theorem lw_p119 : lw_okq (⟨"MoveUpModel", "findsOrders", "()V"⟩, 71) := ⟨⟨by decide +kernel, by decide +kernel⟩, List.mem_of_getElem? (i := 1179) (by decide +kernel), List.mem_of_getElem? (i := 1838) (by decide +kernel), List.mem_of_getElem? (i := 1839) (by decide +kernel)⟩
theorem lw_p120 : lw_okq (⟨"MoveUpModel", "canCome", "(II)Z"⟩, 71) := ⟨⟨by decide +kernel, by decide +kernel⟩, List.mem_of_getElem? (i := 1179) (by decide +kernel), List.mem_of_getElem? (i := 1842) (by decide +kernel), List.mem_of_getElem? (i := 1843) (by decide +kernel)⟩
theorem lw_p121 : lw_okq (⟨"MoveUpModel", "nextOf", "(I)I"⟩, 71) := ⟨⟨by decide +kernel, by decide +kernel⟩, List.mem_of_getElem? (i := 1179) (by decide +kernel), List.mem_of_getElem? (i := 1846) (by decide +kernel), List.mem_of_getElem? (i := 1847) (by decide +kernel)⟩
theorem lw_p122 : lw_okq (⟨"MoveUpModel", "kept", "(I)I"⟩, 71) := ⟨⟨by decide +kernel, by decide +kernel⟩, List.mem_of_getElem? (i := 1179) (by decide +kernel), List.mem_of_getElem? (i := 1854) (by decide +kernel), List.mem_of_getElem? (i := 1855) (by decide +kernel)⟩
theorem lw_p123 : lw_okq (⟨"MoveUpModel", "keepsBench", "()V"⟩, 71) := ⟨⟨by decide +kernel, by decide +kernel⟩, List.mem_of_getElem? (i := 1179) (by decide +kernel), List.mem_of_getElem? (i := 1858) (by decide +kernel), List.mem_of_getElem? (i := 1859) (by decide +kernel)⟩
theorem lw_p124 : lw_okq (⟨"MoveUpModel", "keepsLaw", "(I)V"⟩, 71) := ⟨⟨by decide +kernel, by decide +kernel⟩, List.mem_of_getElem? (i := 1179) (by decide +kernel), List.mem_of_getElem? (i := 1862) (by decide +kernel), List.mem_of_getElem? (i := 1863) (by decide +kernel)⟩
theorem lw_p125 : lw_okq (⟨"MoveUpModel", "freeInches", "()I"⟩, 71) := ⟨⟨by decide +kernel, by decide +kernel⟩, List.mem_of_getElem? (i := 1179) (by decide +kernel), List.mem_of_getElem? (i := 1870) (by decide +kernel), List.mem_of_getElem? (i := 1871) (by decide +kernel)⟩
theorem lw_p126 : lw_okq (⟨"MoveUpModel", "restMany", "()I"⟩, 71) := ⟨⟨by decide +kernel, by decide +kernel⟩, List.mem_of_getElem? (i := 1179) (by decide +kernel), List.mem_of_getElem? (i := 1874) (by decide +kernel), List.mem_of_getElem? (i := 1875) (by decide +kernel)⟩
theorem lw_p127 : lw_okq (⟨"MoveUpModel", "whoIs", "(I)I"⟩, 71) := ⟨⟨by decide +kernel, by decide +kernel⟩, List.mem_of_getElem? (i := 1179) (by decide +kernel), List.mem_of_getElem? (i := 1878) (by decide +kernel), List.mem_of_getElem? (i := 1879) (by decide +kernel)⟩
def lw_privs_8 : List (MethodName × Nat) := [(⟨"MoveUpModel", "stretch", "(II)I"⟩, 71), (⟨"MoveUpModel", "fills", "(I)V"⟩, 71), (⟨"MoveUpModel", "findsBare", "(II)V"⟩, 71), (⟨"MoveUpModel", "findsAround", "(III)V"⟩, 71), (⟨"MoveUpModel", "fewestBy", "(III)I"⟩, 71), (⟨"MoveUpModel", "sittingSet", "()I"⟩, 71), (⟨"MoveUpModel", "onesOf", "(I)I"⟩, 71), (⟨"MoveUpModel", "findsOrders", "()V"⟩, 71), (⟨"MoveUpModel", "canCome", "(II)Z"⟩, 71), (⟨"MoveUpModel", "nextOf", "(I)I"⟩, 71), (⟨"MoveUpModel", "kept", "(I)I"⟩, 71), (⟨"MoveUpModel", "keepsBench", "()V"⟩, 71), (⟨"MoveUpModel", "keepsLaw", "(I)V"⟩, 71), (⟨"MoveUpModel", "freeInches", "()I"⟩, 71), (⟨"MoveUpModel", "restMany", "()I"⟩, 71), (⟨"MoveUpModel", "whoIs", "(I)I"⟩, 71)]
theorem lw_r8 : ∀ q ∈ lw_privs_8, lw_okq q := List.forall_mem_cons.mpr ⟨lw_p112, List.forall_mem_cons.mpr ⟨lw_p113, List.forall_mem_cons.mpr ⟨lw_p114, List.forall_mem_cons.mpr ⟨lw_p115, List.forall_mem_cons.mpr ⟨lw_p116, List.forall_mem_cons.mpr ⟨lw_p117, List.forall_mem_cons.mpr ⟨lw_p118, List.forall_mem_cons.mpr ⟨lw_p119, List.forall_mem_cons.mpr ⟨lw_p120, List.forall_mem_cons.mpr ⟨lw_p121, List.forall_mem_cons.mpr ⟨lw_p122, List.forall_mem_cons.mpr ⟨lw_p123, List.forall_mem_cons.mpr ⟨lw_p124, List.forall_mem_cons.mpr ⟨lw_p125, List.forall_mem_cons.mpr ⟨lw_p126, List.forall_mem_cons.mpr ⟨lw_p127, fun _ h => absurd h List.not_mem_nil⟩⟩⟩⟩⟩⟩⟩⟩⟩⟩⟩⟩⟩⟩⟩⟩
def lw_privs : List (MethodName × Nat) := lw_privs_1 ++ (lw_privs_2 ++ (lw_privs_3 ++ (lw_privs_4 ++ (lw_privs_5 ++ (lw_privs_6 ++ (lw_privs_7 ++ (lw_privs_8)))))))
def lw_tbl : List Cond := k2_sels lw_privs ++ tables_1
theorem lw_privs_ok : ∀ q ∈ lw_privs, lw_okq q := by
  show ∀ q ∈ lw_privs_1 ++ (lw_privs_2 ++ (lw_privs_3 ++ (lw_privs_4 ++ (lw_privs_5 ++ (lw_privs_6 ++ (lw_privs_7 ++ (lw_privs_8))))))), lw_okq q
  exact List.forall_mem_append.mpr ⟨lw_r1, List.forall_mem_append.mpr ⟨lw_r2, List.forall_mem_append.mpr ⟨lw_r3, List.forall_mem_append.mpr ⟨lw_r4, List.forall_mem_append.mpr ⟨lw_r5, List.forall_mem_append.mpr ⟨lw_r6, List.forall_mem_append.mpr ⟨lw_r7, lw_r8⟩⟩⟩⟩⟩⟩⟩
def RX0 : String := "MoveUp$Acts"
def TX0 : u_T := fun k => match k with
  | 0 => ("MoveUp$Acts", "stood", "I", false)
  | 1 => ("MoveUp$Acts", "firstStood", "I", false)
  | 2 => ("MoveUp$Acts", "bench", "LMoveUp$Bench;", true)
  | 3 => ("MoveUp$Acts", "row", "LMoveUp$Row;", true)
  | 4 => ("MoveUp$Acts", "seats", "LMoveUp$Seats;", true)
  | _ => ("MoveUp$Acts", "rooms", "LMoveUp$Room;", true)
def tyX0 : Nat → FieldType := fun k => match k with
  | 0 => .int
  | 1 => .int
  | 2 => .object "MoveUp$Bench"
  | 3 => .object "MoveUp$Row"
  | 4 => .object "MoveUp$Seats"
  | _ => .object "MoveUp$Room"
theorem nmX0 : ∀ a, a < 6 → ∀ b, b < 6 → a ≠ b → (TX0 a).2.1 ≠ (TX0 b).2.1 := by decide +kernel
theorem tyX0_ok : ∀ k, k < 6 → parseFieldDescriptor (TX0 k).2.2.1 = some (tyX0 k) := by decide +kernel
abbrev cX0_comes : ByteArray := prog_2_method_2_code
def yX0_comes : MethodName := ⟨RX0, "comes", "(I)I"⟩
abbrev cX0_goes : ByteArray := prog_2_method_3_code
def yX0_goes : MethodName := ⟨RX0, "goes", "(I)V"⟩
abbrev cX0_begs : ByteArray := prog_2_method_4_code
def yX0_begs : MethodName := ⟨RX0, "begs", "(I)I"⟩
abbrev cX0_countStanding : ByteArray := prog_2_method_5_code
def yX0_countStanding : MethodName := ⟨RX0, "countStanding", "()V"⟩
abbrev cX0_passHour : ByteArray := prog_2_method_6_code
def yX0_passHour : MethodName := ⟨RX0, "passHour", "()I"⟩
abbrev cX0_skipTo : ByteArray := prog_2_method_7_code
def yX0_skipTo : MethodName := ⟨RX0, "skipTo", "(I)V"⟩
abbrev cX0_countNone : ByteArray := prog_2_method_8_code
def yX0_countNone : MethodName := ⟨RX0, "countNone", "()V"⟩
def RX1 : String := "MoveUp$Arrivals"
def TX1 : u_T := fun k => match k with
  | 0 => ("MoveUp$Arrivals", "bench", "LMoveUp$Bench;", true)
  | 1 => ("MoveUp$Arrivals", "row", "LMoveUp$Row;", true)
  | 2 => ("MoveUp$Arrivals", "seats", "LMoveUp$Seats;", true)
  | 3 => ("MoveUp$Arrivals", "who", "[I", true)
  | 4 => ("MoveUp$Arrivals", "ways", "[I", true)
  | 5 => ("MoveUp$Arrivals", "nextOnes", "[I", true)
  | _ => ("MoveUp$Arrivals", "count", "I", false)
def tyX1 : Nat → FieldType := fun k => match k with
  | 0 => .object "MoveUp$Bench"
  | 1 => .object "MoveUp$Row"
  | 2 => .object "MoveUp$Seats"
  | 3 => .array .int
  | 4 => .array .int
  | 5 => .array .int
  | _ => .int
theorem nmX1 : ∀ a, a < 7 → ∀ b, b < 7 → a ≠ b → (TX1 a).2.1 ≠ (TX1 b).2.1 := by decide +kernel
theorem tyX1_ok : ∀ k, k < 7 → parseFieldDescriptor (TX1 k).2.2.1 = some (tyX1 k) := by decide +kernel
abbrev cX1_gatherAll : ByteArray := prog_3_method_2_code
def yX1_gatherAll : MethodName := ⟨RX1, "gatherAll", "()Z"⟩
abbrev cX1_findNextOnes : ByteArray := prog_3_method_3_code
def yX1_findNextOnes : MethodName := ⟨RX1, "findNextOnes", "()V"⟩
abbrev cX1_countWays : ByteArray := prog_3_method_4_code
def yX1_countWays : MethodName := ⟨RX1, "countWays", "()V"⟩
abbrev cX1_sitsSo : ByteArray := prog_3_method_5_code
def yX1_sitsSo : MethodName := ⟨RX1, "sitsSo", "(II)Z"⟩
abbrev cX1_howMany : ByteArray := prog_3_method_6_code
def yX1_howMany : MethodName := ⟨RX1, "howMany", "()I"⟩
abbrev cX1_inFirst : ByteArray := prog_3_method_7_code
def yX1_inFirst : MethodName := ⟨RX1, "inFirst", "(I)I"⟩
def RX2 : String := "MoveUp$Bench"
def TX2 : u_T := fun k => match k with
  | 0 => ("MoveUp$Bench", "length", "I", false)
  | 1 => ("MoveUp$Bench", "people", "I", false)
  | 2 => ("MoveUp$Bench", "hour", "I", false)
  | 3 => ("MoveUp$Bench", "lines", "I", false)
  | 4 => ("MoveUp$Bench", "rest", "[I", true)
  | 5 => ("MoveUp$Bench", "reach", "[I", true)
  | 6 => ("MoveUp$Bench", "warm", "[I", true)
  | 7 => ("MoveUp$Bench", "told", "[[I", true)
  | 8 => ("MoveUp$Bench", "seat", "[I", true)
  | 9 => ("MoveUp$Bench", "book", "[[I", true)
  | 10 => ("MoveUp$Bench", "sitting", "LMoveUp$Law;", true)
  | 11 => ("MoveUp$Bench", "moving", "LMoveUp$Law;", true)
  | _ => ("MoveUp$Bench", "day", "LMoveUp$Day;", true)
def tyX2 : Nat → FieldType := fun k => match k with
  | 0 => .int
  | 1 => .int
  | 2 => .int
  | 3 => .int
  | 4 => .array .int
  | 5 => .array .int
  | 6 => .array .int
  | 7 => .array (.array .int)
  | 8 => .array .int
  | 9 => .array (.array .int)
  | 10 => .object "MoveUp$Law"
  | 11 => .object "MoveUp$Law"
  | _ => .object "MoveUp$Day"
theorem nmX2 : ∀ a, a < 13 → ∀ b, b < 13 → a ≠ b → (TX2 a).2.1 ≠ (TX2 b).2.1 := by decide +kernel
theorem tyX2_ok : ∀ k, k < 13 → parseFieldDescriptor (TX2 k).2.2.1 = some (tyX2 k) := by decide +kernel
abbrev cX2_clear : ByteArray := prog_4_method_2_code
def yX2_clear : MethodName := ⟨RX2, "clear", "(I)V"⟩
abbrev cX2_copyFrom : ByteArray := prog_4_method_3_code
def yX2_copyFrom : MethodName := ⟨RX2, "copyFrom", "(LMoveUp$Bench;)V"⟩
abbrev cX2_putRest : ByteArray := prog_4_method_4_code
def yX2_putRest : MethodName := ⟨RX2, "putRest", "(IZ)V"⟩
abbrev cX2_findReach : ByteArray := prog_4_method_5_code
def yX2_findReach : MethodName := ⟨RX2, "findReach", "()V"⟩
abbrev cX2_isPerson : ByteArray := prog_4_method_6_code
def yX2_isPerson : MethodName := ⟨RX2, "isPerson", "(I)Z"⟩
abbrev cX2_isSeated : ByteArray := prog_4_method_7_code
def yX2_isSeated : MethodName := ⟨RX2, "isSeated", "(I)Z"⟩
abbrev cX2_isAside : ByteArray := prog_4_method_8_code
def yX2_isAside : MethodName := ⟨RX2, "isAside", "(I)Z"⟩
abbrev cX2_takes : ByteArray := prog_4_method_9_code
def yX2_takes : MethodName := ⟨RX2, "takes", "(I)I"⟩
abbrev cX2_isClear : ByteArray := prog_4_method_10_code
def yX2_isClear : MethodName := ⟨RX2, "isClear", "(II)Z"⟩
abbrev cX2_fits : ByteArray := prog_4_method_11_code
def yX2_fits : MethodName := ⟨RX2, "fits", "(II)Z"⟩
abbrev cX2_apart : ByteArray := prog_4_method_12_code
def yX2_apart : MethodName := ⟨RX2, "apart", "(II)I"⟩
abbrev cX2_isSatOver : ByteArray := prog_4_method_13_code
def yX2_isSatOver : MethodName := ⟨RX2, "isSatOver", "(I)Z"⟩
abbrev cX2_whoIsAt : ByteArray := prog_4_method_14_code
def yX2_whoIsAt : MethodName := ⟨RX2, "whoIsAt", "(I)I"⟩
abbrev cX2_rank : ByteArray := prog_4_method_15_code
def yX2_rank : MethodName := ⟨RX2, "rank", "(I)I"⟩
abbrev cX2_whoIsNth : ByteArray := prog_4_method_16_code
def yX2_whoIsNth : MethodName := ⟨RX2, "whoIsNth", "(I)I"⟩
abbrev cX2_seated : ByteArray := prog_4_method_17_code
def yX2_seated : MethodName := ⟨RX2, "seated", "()I"⟩
abbrev cX2_free : ByteArray := prog_4_method_18_code
def yX2_free : MethodName := ⟨RX2, "free", "()I"⟩
abbrev cX2_rests : ByteArray := prog_4_method_19_code
def yX2_rests : MethodName := ⟨RX2, "rests", "()I"⟩
abbrev cX2_warmSeats : ByteArray := prog_4_method_20_code
def yX2_warmSeats : MethodName := ⟨RX2, "warmSeats", "(I)V"⟩
abbrev cX2_write : ByteArray := prog_4_method_21_code
def yX2_write : MethodName := ⟨RX2, "write", "(III)V"⟩
def RX3 : String := "MoveUp$Day"
def TX3 : u_T := fun k => match k with
  | 0 => ("MoveUp$Day", "lines", "I", false)
  | 1 => ("MoveUp$Day", "act", "[I", true)
  | 2 => ("MoveUp$Day", "who", "[I", true)
  | _ => ("MoveUp$Day", "hour", "[I", true)
def tyX3 : Nat → FieldType := fun k => match k with
  | 0 => .int
  | 1 => .array .int
  | 2 => .array .int
  | _ => .array .int
theorem nmX3 : ∀ a, a < 4 → ∀ b, b < 4 → a ≠ b → (TX3 a).2.1 ≠ (TX3 b).2.1 := by decide +kernel
theorem tyX3_ok : ∀ k, k < 4 → parseFieldDescriptor (TX3 k).2.2.1 = some (tyX3 k) := by decide +kernel
abbrev cX3_copyFrom : ByteArray := prog_5_method_2_code
def yX3_copyFrom : MethodName := ⟨RX3, "copyFrom", "(LMoveUp$Day;)V"⟩
abbrev cX3_add : ByteArray := prog_5_method_3_code
def yX3_add : MethodName := ⟨RX3, "add", "(III)V"⟩
abbrev cX3_nextHour : ByteArray := prog_5_method_4_code
def yX3_nextHour : MethodName := ⟨RX3, "nextHour", "(I)I"⟩
def RX4 : String := "MoveUp$Filling"
def TX4 : u_T := fun k => match k with
  | 0 => ("MoveUp$Filling", "bench", "LMoveUp$Bench;", true)
  | 1 => ("MoveUp$Filling", "row", "LMoveUp$Row;", true)
  | 2 => ("MoveUp$Filling", "oneRest", "[I", true)
  | 3 => ("MoveUp$Filling", "fewestFrom", "[I", true)
  | 4 => ("MoveUp$Filling", "means", "[[I", true)
  | 5 => ("MoveUp$Filling", "rightParts", "[I", true)
  | 6 => ("MoveUp$Filling", "wide", "I", false)
  | _ => ("MoveUp$Filling", "keep", "I", false)
def tyX4 : Nat → FieldType := fun k => match k with
  | 0 => .object "MoveUp$Bench"
  | 1 => .object "MoveUp$Row"
  | 2 => .array .int
  | 3 => .array .int
  | 4 => .array (.array .int)
  | 5 => .array .int
  | 6 => .int
  | _ => .int
theorem nmX4 : ∀ a, a < 8 → ∀ b, b < 8 → a ≠ b → (TX4 a).2.1 ≠ (TX4 b).2.1 := by decide +kernel
theorem tyX4_ok : ∀ k, k < 8 → parseFieldDescriptor (TX4 k).2.2.1 = some (tyX4 k) := by decide +kernel
abbrev cX4_ofAlike : ByteArray := prog_6_method_2_code
def yX4_ofAlike : MethodName := ⟨RX4, "ofAlike", "(II)V"⟩
abbrev cX4_total : ByteArray := prog_6_method_3_code
def yX4_total : MethodName := ⟨RX4, "total", "(I)I"⟩
abbrev cX4_bestInchForRest : ByteArray := prog_6_method_4_code
def yX4_bestInchForRest : MethodName := ⟨RX4, "bestInchForRest", "()I"⟩
abbrev cX4_isClear : ByteArray := prog_6_method_5_code
def yX4_isClear : MethodName := ⟨RX4, "isClear", "([II)Z"⟩
abbrev cX4_fewest : ByteArray := prog_6_method_6_code
def yX4_fewest : MethodName := ⟨RX4, "fewest", "([III)I"⟩
abbrev cX4_most : ByteArray := prog_6_method_7_code
def yX4_most : MethodName := ⟨RX4, "most", "(II)I"⟩
abbrev cX4_mean : ByteArray := prog_6_method_8_code
def yX4_mean : MethodName := ⟨RX4, "mean", "(II)I"⟩
abbrev cX4_meanOf : ByteArray := prog_6_method_9_code
def yX4_meanOf : MethodName := ⟨RX4, "meanOf", "(II)I"⟩
def RX5 : String := "MoveUp$Law"
def TX5 : u_T := fun k => match k with
  | 0 => ("MoveUp$Law", "lines", "I", false)
  | 1 => ("MoveUp$Law", "size", "I", false)
  | 2 => ("MoveUp$Law", "code", "[I", true)
  | 3 => ("MoveUp$Law", "from", "[I", true)
  | 4 => ("MoveUp$Law", "when", "[I", true)
  | 5 => ("MoveUp$Law", "stop", "[I", true)
  | _ => ("MoveUp$Law", "stack", "[I", true)
def tyX5 : Nat → FieldType := fun k => match k with
  | 0 => .int
  | 1 => .int
  | 2 => .array .int
  | 3 => .array .int
  | 4 => .array .int
  | 5 => .array .int
  | _ => .array .int
theorem nmX5 : ∀ a, a < 7 → ∀ b, b < 7 → a ≠ b → (TX5 a).2.1 ≠ (TX5 b).2.1 := by decide +kernel
theorem tyX5_ok : ∀ k, k < 7 → parseFieldDescriptor (TX5 k).2.2.1 = some (tyX5 k) := by decide +kernel
abbrev cX5_clear : ByteArray := prog_7_method_2_code
def yX5_clear : MethodName := ⟨RX5, "clear", "()V"⟩
abbrev cX5_copyFrom : ByteArray := prog_7_method_3_code
def yX5_copyFrom : MethodName := ⟨RX5, "copyFrom", "(LMoveUp$Law;)V"⟩
abbrev cX5_add : ByteArray := prog_7_method_4_code
def yX5_add : MethodName := ⟨RX5, "add", "(I)V"⟩
abbrev cX5_value : ByteArray := prog_7_method_5_code
def yX5_value : MethodName := ⟨RX5, "value", "([II)I"⟩
abbrev cX5_run : ByteArray := prog_7_method_6_code
def yX5_run : MethodName := ⟨RX5, "run", "(II[I)I"⟩
abbrev cX5_joined : ByteArray := prog_7_method_7_code
def yX5_joined : MethodName := ⟨RX5, "joined", "(III)I"⟩
def RX6 : String := "MoveUp$Past"
def TX6 : u_T := fun k => match k with
  | 0 => ("MoveUp$Past", "count", "I", false)
  | 1 => ("MoveUp$Past", "next", "I", false)
  | 2 => ("MoveUp$Past", "seat", "[[I", true)
  | 3 => ("MoveUp$Past", "warm", "[[I", true)
  | 4 => ("MoveUp$Past", "hour", "[I", true)
  | _ => ("MoveUp$Past", "lines", "[I", true)
def tyX6 : Nat → FieldType := fun k => match k with
  | 0 => .int
  | 1 => .int
  | 2 => .array (.array .int)
  | 3 => .array (.array .int)
  | 4 => .array .int
  | _ => .array .int
theorem nmX6 : ∀ a, a < 6 → ∀ b, b < 6 → a ≠ b → (TX6 a).2.1 ≠ (TX6 b).2.1 := by decide +kernel
theorem tyX6_ok : ∀ k, k < 6 → parseFieldDescriptor (TX6 k).2.2.1 = some (tyX6 k) := by decide +kernel
abbrev cX6_forget : ByteArray := prog_8_method_2_code
def yX6_forget : MethodName := ⟨RX6, "forget", "()V"⟩
abbrev cX6_keepNow : ByteArray := prog_8_method_3_code
def yX6_keepNow : MethodName := ⟨RX6, "keepNow", "(LMoveUp$Bench;)V"⟩
abbrev cX6_goBack : ByteArray := prog_8_method_4_code
def yX6_goBack : MethodName := ⟨RX6, "goBack", "(LMoveUp$Bench;)Z"⟩
abbrev cX6_keepThought : ByteArray := prog_8_method_5_code
def yX6_keepThought : MethodName := ⟨RX6, "keepThought", "(LMoveUp$Bench;)V"⟩
abbrev cX6_endThought : ByteArray := prog_8_method_6_code
def yX6_endThought : MethodName := ⟨RX6, "endThought", "(LMoveUp$Bench;)V"⟩
abbrev cX6_save : ByteArray := prog_8_method_7_code
def yX6_save : MethodName := ⟨RX6, "save", "(LMoveUp$Bench;I)V"⟩
abbrev cX6_load : ByteArray := prog_8_method_8_code
def yX6_load : MethodName := ⟨RX6, "load", "(LMoveUp$Bench;I)V"⟩
def RX7 : String := "MoveUp$Reader"
def TX7 : u_T := fun k => match k with
  | 0 => ("MoveUp$Reader", "size", "I", false)
  | 1 => ("MoveUp$Reader", "fault", "I", false)
  | 2 => ("MoveUp$Reader", "faultPlace", "I", false)
  | 3 => ("MoveUp$Reader", "law", "LMoveUp$Law;", true)
  | 4 => ("MoveUp$Reader", "day", "LMoveUp$Day;", true)
  | 5 => ("MoveUp$Reader", "kind", "I", false)
  | 6 => ("MoveUp$Reader", "tokens", "I", false)
  | 7 => ("MoveUp$Reader", "next", "I", false)
  | 8 => ("MoveUp$Reader", "tape", "[I", true)
  | 9 => ("MoveUp$Reader", "token", "[I", true)
  | _ => ("MoveUp$Reader", "place", "[I", true)
def tyX7 : Nat → FieldType := fun k => match k with
  | 0 => .int
  | 1 => .int
  | 2 => .int
  | 3 => .object "MoveUp$Law"
  | 4 => .object "MoveUp$Day"
  | 5 => .int
  | 6 => .int
  | 7 => .int
  | 8 => .array .int
  | 9 => .array .int
  | _ => .array .int
theorem nmX7 : ∀ a, a < 11 → ∀ b, b < 11 → a ≠ b → (TX7 a).2.1 ≠ (TX7 b).2.1 := by decide +kernel
theorem tyX7_ok : ∀ k, k < 11 → parseFieldDescriptor (TX7 k).2.2.1 = some (tyX7 k) := by decide +kernel
abbrev cX7_append : ByteArray := prog_9_method_2_code
def yX7_append : MethodName := ⟨RX7, "append", "(I)V"⟩
abbrev cX7_reads : ByteArray := prog_9_method_3_code
def yX7_reads : MethodName := ⟨RX7, "reads", "(II)Z"⟩
abbrev cX7_split : ByteArray := prog_9_method_4_code
def yX7_split : MethodName := ⟨RX7, "split", "()V"⟩
abbrev cX7_addToken : ByteArray := prog_9_method_5_code
def yX7_addToken : MethodName := ⟨RX7, "addToken", "(II)V"⟩
abbrev cX7_isLetter : ByteArray := prog_9_method_6_code
def yX7_isLetter : MethodName := ⟨RX7, "isLetter", "(I)Z"⟩
abbrev cX7_isDigit : ByteArray := prog_9_method_7_code
def yX7_isDigit : MethodName := ⟨RX7, "isDigit", "(I)Z"⟩
abbrev cX7_tokenOf : ByteArray := prog_9_method_8_code
def yX7_tokenOf : MethodName := ⟨RX7, "tokenOf", "(II)I"⟩
abbrev cX7_wordOf : ByteArray := prog_9_method_9_code
def yX7_wordOf : MethodName := ⟨RX7, "wordOf", "(II)I"⟩
abbrev cX7_fail : ByteArray := prog_9_method_10_code
def yX7_fail : MethodName := ⟨RX7, "fail", "(I)V"⟩
abbrev cX7_step : ByteArray := prog_9_method_11_code
def yX7_step : MethodName := ⟨RX7, "step", "()V"⟩
abbrev cX7_take : ByteArray := prog_9_method_12_code
def yX7_take : MethodName := ⟨RX7, "take", "(I)V"⟩
abbrev cX7_readLaw : ByteArray := prog_9_method_13_code
def yX7_readLaw : MethodName := ⟨RX7, "readLaw", "()V"⟩
abbrev cX7_readClaims : ByteArray := prog_9_method_14_code
def yX7_readClaims : MethodName := ⟨RX7, "readClaims", "(II)V"⟩
abbrev cX7_readClaim : ByteArray := prog_9_method_15_code
def yX7_readClaim : MethodName := ⟨RX7, "readClaim", "(I)V"⟩
abbrev cX7_readSum : ByteArray := prog_9_method_16_code
def yX7_readSum : MethodName := ⟨RX7, "readSum", "()V"⟩
abbrev cX7_readProduct : ByteArray := prog_9_method_17_code
def yX7_readProduct : MethodName := ⟨RX7, "readProduct", "()V"⟩
abbrev cX7_isTerm : ByteArray := prog_9_method_18_code
def yX7_isTerm : MethodName := ⟨RX7, "isTerm", "(I)Z"⟩
abbrev cX7_readDay : ByteArray := prog_9_method_19_code
def yX7_readDay : MethodName := ⟨RX7, "readDay", "(I)V"⟩
abbrev cX7_readNumber : ByteArray := prog_9_method_20_code
def yX7_readNumber : MethodName := ⟨RX7, "readNumber", "(I)I"⟩
def RX8 : String := "MoveUp$Room"
def TX8 : u_T := fun k => match k with
  | 0 => ("MoveUp$Room", "inch", "[I", true)
  | 1 => ("MoveUp$Room", "bench", "LMoveUp$Bench;", true)
  | 2 => ("MoveUp$Room", "row", "LMoveUp$Row;", true)
  | 3 => ("MoveUp$Room", "terms", "[I", true)
  | 4 => ("MoveUp$Room", "costs", "[[I", true)
  | 5 => ("MoveUp$Room", "exact", "[[I", true)
  | 6 => ("MoveUp$Room", "least", "[[I", true)
  | 7 => ("MoveUp$Room", "line", "[I", true)
  | _ => ("MoveUp$Room", "found", "I", false)
def tyX8 : Nat → FieldType := fun k => match k with
  | 0 => .array .int
  | 1 => .object "MoveUp$Bench"
  | 2 => .object "MoveUp$Row"
  | 3 => .array .int
  | 4 => .array (.array .int)
  | 5 => .array (.array .int)
  | 6 => .array (.array .int)
  | 7 => .array .int
  | _ => .int
theorem nmX8 : ∀ a, a < 9 → ∀ b, b < 9 → a ≠ b → (TX8 a).2.1 ≠ (TX8 b).2.1 := by decide +kernel
theorem tyX8_ok : ∀ k, k < 9 → parseFieldDescriptor (TX8 k).2.2.1 = some (tyX8 k) := by decide +kernel
abbrev cX8_cost : ByteArray := prog_10_method_2_code
def yX8_cost : MethodName := ⟨RX8, "cost", "()I"⟩
abbrev cX8_moved : ByteArray := prog_10_method_3_code
def yX8_moved : MethodName := ⟨RX8, "moved", "()I"⟩
abbrev cX8_reckonCosts : ByteArray := prog_10_method_4_code
def yX8_reckonCosts : MethodName := ⟨RX8, "reckonCosts", "()V"⟩
abbrev cX8_find : ByteArray := prog_10_method_5_code
def yX8_find : MethodName := ⟨RX8, "find", "(II)Z"⟩
abbrev cX8_weigh : ByteArray := prog_10_method_6_code
def yX8_weigh : MethodName := ⟨RX8, "weigh", "(II)V"⟩
abbrev cX8_takesWithKeep : ByteArray := prog_10_method_7_code
def yX8_takesWithKeep : MethodName := ⟨RX8, "takesWithKeep", "(II)I"⟩
abbrev cX8_weightOf : ByteArray := prog_10_method_8_code
def yX8_weightOf : MethodName := ⟨RX8, "weightOf", "(III)I"⟩
abbrev cX8_settle : ByteArray := prog_10_method_9_code
def yX8_settle : MethodName := ⟨RX8, "settle", "(I)V"⟩
def RX9 : String := "MoveUp$Row"
def TX9 : u_T := fun k => match k with
  | 0 => ("MoveUp$Row", "size", "I", false)
  | 1 => ("MoveUp$Row", "at", "[I", true)
  | 2 => ("MoveUp$Row", "end", "[I", true)
  | 3 => ("MoveUp$Row", "keep", "[I", true)
  | 4 => ("MoveUp$Row", "group", "[I", true)
  | 5 => ("MoveUp$Row", "who", "[I", true)
  | 6 => ("MoveUp$Row", "askerWide", "I", false)
  | 7 => ("MoveUp$Row", "askerKeep", "I", false)
  | 8 => ("MoveUp$Row", "askerBag", "I", false)
  | _ => ("MoveUp$Row", "askerGroup", "I", false)
def tyX9 : Nat → FieldType := fun k => match k with
  | 0 => .int
  | 1 => .array .int
  | 2 => .array .int
  | 3 => .array .int
  | 4 => .array .int
  | 5 => .array .int
  | 6 => .int
  | 7 => .int
  | 8 => .int
  | _ => .int
theorem nmX9 : ∀ a, a < 10 → ∀ b, b < 10 → a ≠ b → (TX9 a).2.1 ≠ (TX9 b).2.1 := by decide +kernel
theorem tyX9_ok : ∀ k, k < 10 → parseFieldDescriptor (TX9 k).2.2.1 = some (tyX9 k) := by decide +kernel
abbrev cX9_gather : ByteArray := prog_11_method_2_code
def yX9_gather : MethodName := ⟨RX9, "gather", "(LMoveUp$Bench;I)V"⟩
abbrev cX9_askFor : ByteArray := prog_11_method_3_code
def yX9_askFor : MethodName := ⟨RX9, "askFor", "(LMoveUp$Bench;I)V"⟩
abbrev cX9_askForAlike : ByteArray := prog_11_method_4_code
def yX9_askForAlike : MethodName := ⟨RX9, "askForAlike", "(II)V"⟩
abbrev cX9_seatAsker : ByteArray := prog_11_method_5_code
def yX9_seatAsker : MethodName := ⟨RX9, "seatAsker", "(I)V"⟩
abbrev cX9_placeFor : ByteArray := prog_11_method_6_code
def yX9_placeFor : MethodName := ⟨RX9, "placeFor", "(I)I"⟩
abbrev cX9_isFriend : ByteArray := prog_11_method_7_code
def yX9_isFriend : MethodName := ⟨RX9, "isFriend", "(I)Z"⟩
abbrev cX9_apart : ByteArray := prog_11_method_8_code
def yX9_apart : MethodName := ⟨RX9, "apart", "(I)I"⟩
abbrev cX9_gapStart : ByteArray := prog_11_method_9_code
def yX9_gapStart : MethodName := ⟨RX9, "gapStart", "(I)I"⟩
abbrev cX9_gapEnd : ByteArray := prog_11_method_10_code
def yX9_gapEnd : MethodName := ⟨RX9, "gapEnd", "(II)I"⟩
abbrev cX9_lowest : ByteArray := prog_11_method_11_code
def yX9_lowest : MethodName := ⟨RX9, "lowest", "(I)I"⟩
abbrev cX9_highest : ByteArray := prog_11_method_12_code
def yX9_highest : MethodName := ⟨RX9, "highest", "(II)I"⟩
abbrev cX9_gapOf : ByteArray := prog_11_method_13_code
def yX9_gapOf : MethodName := ⟨RX9, "gapOf", "(I)I"⟩
def RX10 : String := "MoveUp$Seats"
def TX10 : u_T := fun k => match k with
  | 0 => ("MoveUp$Seats", "bench", "LMoveUp$Bench;", true)
  | 1 => ("MoveUp$Seats", "row", "LMoveUp$Row;", true)
  | _ => ("MoveUp$Seats", "terms", "[I", true)
def tyX10 : Nat → FieldType := fun k => match k with
  | 0 => .object "MoveUp$Bench"
  | 1 => .object "MoveUp$Row"
  | _ => .array .int
theorem nmX10 : ∀ a, a < 3 → ∀ b, b < 3 → a ≠ b → (TX10 a).2.1 ≠ (TX10 b).2.1 := by decide +kernel
theorem tyX10_ok : ∀ k, k < 3 → parseFieldDescriptor (TX10 k).2.2.1 = some (tyX10 k) := by decide +kernel
abbrev cX10_isPlace : ByteArray := prog_12_method_2_code
def yX10_isPlace : MethodName := ⟨RX10, "isPlace", "(I)Z"⟩
abbrev cX10_valueAt : ByteArray := prog_12_method_3_code
def yX10_valueAt : MethodName := ⟨RX10, "valueAt", "(I)I"⟩
abbrev cX10_best : ByteArray := prog_12_method_4_code
def yX10_best : MethodName := ⟨RX10, "best", "()I"⟩
abbrev cX10_fillByLaw : ByteArray := prog_12_method_5_code
def yX10_fillByLaw : MethodName := ⟨RX10, "fillByLaw", "(II)I"⟩
abbrev cX10_tellAsker : ByteArray := prog_12_method_6_code
def yX10_tellAsker : MethodName := ⟨RX10, "tellAsker", "()V"⟩
abbrev cX10_value : ByteArray := prog_12_method_7_code
def yX10_value : MethodName := ⟨RX10, "value", "(II)I"⟩
abbrev cX10_warmInches : ByteArray := prog_12_method_8_code
def yX10_warmInches : MethodName := ⟨RX10, "warmInches", "(I)I"⟩
def RX11 : String := "MoveUp"
def TX11 : u_T := fun k => match k with
  | 0 => ("MoveUp", "bench", "LMoveUp$Bench;", true)
  | 1 => ("MoveUp", "image", "LMoveUp$Bench;", true)
  | 2 => ("MoveUp", "past", "LMoveUp$Past;", true)
  | 3 => ("MoveUp", "reader", "LMoveUp$Reader;", true)
  | 4 => ("MoveUp", "row", "LMoveUp$Row;", true)
  | 5 => ("MoveUp", "seats", "LMoveUp$Seats;", true)
  | 6 => ("MoveUp", "rooms", "LMoveUp$Room;", true)
  | 7 => ("MoveUp", "filling", "LMoveUp$Filling;", true)
  | 8 => ("MoveUp", "arrivals", "LMoveUp$Arrivals;", true)
  | 9 => ("MoveUp", "acts", "LMoveUp$Acts;", true)
  | _ => ("MoveUp", "imageTaken", "Z", false)
def tyX11 : Nat → FieldType := fun k => match k with
  | 0 => .object "MoveUp$Bench"
  | 1 => .object "MoveUp$Bench"
  | 2 => .object "MoveUp$Past"
  | 3 => .object "MoveUp$Reader"
  | 4 => .object "MoveUp$Row"
  | 5 => .object "MoveUp$Seats"
  | 6 => .object "MoveUp$Room"
  | 7 => .object "MoveUp$Filling"
  | 8 => .object "MoveUp$Arrivals"
  | 9 => .object "MoveUp$Acts"
  | _ => .boolean
theorem nmX11 : ∀ a, a < 11 → ∀ b, b < 11 → a ≠ b → (TX11 a).2.1 ≠ (TX11 b).2.1 := by decide +kernel
theorem tyX11_ok : ∀ k, k < 11 → parseFieldDescriptor (TX11 k).2.2.1 = some (tyX11 k) := by decide +kernel
abbrev cX11_bench : ByteArray := prog_1_method_2_code
def yX11_bench : MethodName := ⟨RX11, "bench", "(I)Z"⟩
abbrev cX11_rest : ByteArray := prog_1_method_3_code
def yX11_rest : MethodName := ⟨RX11, "rest", "(IZ)Z"⟩
abbrev cX11_person : ByteArray := prog_1_method_4_code
def yX11_person : MethodName := ⟨RX11, "person", "(IIIII)I"⟩
abbrev cX11_set : ByteArray := prog_1_method_5_code
def yX11_set : MethodName := ⟨RX11, "set", "(III)Z"⟩
abbrev cX11_come : ByteArray := prog_1_method_6_code
def yX11_come : MethodName := ⟨RX11, "come", "(I)I"⟩
abbrev cX11_go : ByteArray := prog_1_method_7_code
def yX11_go : MethodName := ⟨RX11, "go", "(I)Z"⟩
abbrev cX11_beg : ByteArray := prog_1_method_8_code
def yX11_beg : MethodName := ⟨RX11, "beg", "(I)I"⟩
abbrev cX11_feed : ByteArray := prog_1_method_9_code
def yX11_feed : MethodName := ⟨RX11, "feed", "(IIIII)I"⟩
abbrev cX11_end : ByteArray := prog_1_method_10_code
def yX11_end : MethodName := ⟨RX11, "end", "(I)Z"⟩
abbrev cX11_text : ByteArray := prog_1_method_11_code
def yX11_text : MethodName := ⟨RX11, "text", "(I)I"⟩
abbrev cX11_fault : ByteArray := prog_1_method_12_code
def yX11_fault : MethodName := ⟨RX11, "fault", "(I)I"⟩
abbrev cX11_hours : ByteArray := prog_1_method_13_code
def yX11_hours : MethodName := ⟨RX11, "hours", "(I)I"⟩
abbrev cX11_of : ByteArray := prog_1_method_14_code
def yX11_of : MethodName := ⟨RX11, "of", "(II)I"⟩
abbrev cX11_at : ByteArray := prog_1_method_15_code
def yX11_at : MethodName := ⟨RX11, "at", "(II)I"⟩
abbrev cX11_tells : ByteArray := prog_1_method_16_code
def yX11_tells : MethodName := ⟨RX11, "tells", "(II)I"⟩
abbrev cX11_book : ByteArray := prog_1_method_17_code
def yX11_book : MethodName := ⟨RX11, "book", "(II)I"⟩
abbrev cX11_room : ByteArray := prog_1_method_18_code
def yX11_room : MethodName := ⟨RX11, "room", "(II)I"⟩
abbrev cX11_rise : ByteArray := prog_1_method_19_code
def yX11_rise : MethodName := ⟨RX11, "rise", "(II)I"⟩
abbrev cX11_fill : ByteArray := prog_1_method_20_code
def yX11_fill : MethodName := ⟨RX11, "fill", "(III)I"⟩
abbrev cX11_bestRest : ByteArray := prog_1_method_21_code
def yX11_bestRest : MethodName := ⟨RX11, "bestRest", "(II)I"⟩
abbrev cX11_block : ByteArray := prog_1_method_22_code
def yX11_block : MethodName := ⟨RX11, "block", "(III)I"⟩
abbrev cX11_orders : ByteArray := prog_1_method_23_code
def yX11_orders : MethodName := ⟨RX11, "orders", "(I)I"⟩
abbrev cX11_gives : ByteArray := prog_1_method_24_code
def yX11_gives : MethodName := ⟨RX11, "gives", "(II)I"⟩
abbrev cX11_stands : ByteArray := prog_1_method_25_code
def yX11_stands : MethodName := ⟨RX11, "stands", "(I)I"⟩
abbrev cX11_undo : ByteArray := prog_1_method_26_code
def yX11_undo : MethodName := ⟨RX11, "undo", "()Z"⟩
abbrev cX11_image : ByteArray := prog_1_method_27_code
def yX11_image : MethodName := ⟨RX11, "image", "(Z)Z"⟩
abbrev cX11_look : ByteArray := prog_1_method_28_code
def yX11_look : MethodName := ⟨RX11, "look", "(I)I"⟩
abbrev cX11_allowed : ByteArray := prog_1_method_29_code
def yX11_allowed : MethodName := ⟨RX11, "allowed", "(II)Z"⟩
def RX12 : String := "MoveUpModel"
def TX12 : u_T := fun k => match k with
  | 0 => ("MoveUpModel", "told", "I", false)
  | 1 => ("MoveUpModel", "now", "[I", true)
  | 2 => ("MoveUpModel", "rows", "[I", true)
  | 3 => ("MoveUpModel", "undoable", "I", false)
  | 4 => ("MoveUpModel", "waiting", "[I", true)
  | 5 => ("MoveUpModel", "isThought", "Z", false)
  | 6 => ("MoveUpModel", "lengthBut", "I", false)
  | 7 => ("MoveUpModel", "isRest", "[Z", true)
  | 8 => ("MoveUpModel", "people", "I", false)
  | 9 => ("MoveUpModel", "wideOf", "[I", true)
  | 10 => ("MoveUpModel", "keepOf", "[I", true)
  | 11 => ("MoveUpModel", "bagOf", "[I", true)
  | 12 => ("MoveUpModel", "groupOf", "[I", true)
  | 13 => ("MoveUpModel", "movesOf", "[I", true)
  | 14 => ("MoveUpModel", "book", "[I", true)
  | 15 => ("MoveUpModel", "tape", "[I", true)
  | 16 => ("MoveUpModel", "taped", "I", false)
  | 17 => ("MoveUpModel", "spot", "I", false)
  | 18 => ("MoveUpModel", "from", "I", false)
  | 19 => ("MoveUpModel", "token", "I", false)
  | 20 => ("MoveUpModel", "value", "I", false)
  | 21 => ("MoveUpModel", "words", "[I", true)
  | 22 => ("MoveUpModel", "lineMany", "[I", true)
  | 23 => ("MoveUpModel", "lineFrom", "[I", true)
  | 24 => ("MoveUpModel", "lineWhen", "[I", true)
  | 25 => ("MoveUpModel", "lineTo", "[I", true)
  | 26 => ("MoveUpModel", "op", "[I", true)
  | 27 => ("MoveUpModel", "arg", "[I", true)
  | 28 => ("MoveUpModel", "which", "I", false)
  | 29 => ("MoveUpModel", "codes", "I", false)
  | 30 => ("MoveUpModel", "open", "I", false)
  | 31 => ("MoveUpModel", "pending", "[I", true)
  | 32 => ("MoveUpModel", "pendings", "I", false)
  | 33 => ("MoveUpModel", "readFault", "I", false)
  | 34 => ("MoveUpModel", "readPlace", "I", false)
  | 35 => ("MoveUpModel", "faultKind", "I", false)
  | 36 => ("MoveUpModel", "faultPlace", "I", false)
  | 37 => ("MoveUpModel", "dayMany", "I", false)
  | 38 => ("MoveUpModel", "day", "[I", true)
  | 39 => ("MoveUpModel", "asked", "[I", true)
  | 40 => ("MoveUpModel", "stack", "[I", true)
  | 41 => ("MoveUpModel", "starts", "[I", true)
  | 42 => ("MoveUpModel", "behind", "[I", true)
  | 43 => ("MoveUpModel", "keeps", "[I", true)
  | 44 => ("MoveUpModel", "groups", "[I", true)
  | 45 => ("MoveUpModel", "whoSits", "[I", true)
  | 46 => ("MoveUpModel", "many", "I", false)
  | 47 => ("MoveUpModel", "askWide", "I", false)
  | 48 => ("MoveUpModel", "askKeep", "I", false)
  | 49 => ("MoveUpModel", "askBag", "I", false)
  | 50 => ("MoveUpModel", "askGroup", "I", false)
  | 51 => ("MoveUpModel", "standMany", "I", false)
  | 52 => ("MoveUpModel", "standFirst", "I", false)
  | 53 => ("MoveUpModel", "itemWho", "[I", true)
  | 54 => ("MoveUpModel", "itemInch", "[I", true)
  | 55 => ("MoveUpModel", "leastFrom", "[I", true)
  | 56 => ("MoveUpModel", "roomInch", "[I", true)
  | 57 => ("MoveUpModel", "roomCost", "I", false)
  | 58 => ("MoveUpModel", "fewest", "[I", true)
  | 59 => ("MoveUpModel", "most", "[I", true)
  | 60 => ("MoveUpModel", "mean", "[I", true)
  | 61 => ("MoveUpModel", "sumFewest", "I", false)
  | 62 => ("MoveUpModel", "sumMost", "I", false)
  | 63 => ("MoveUpModel", "sumMean", "I", false)
  | 64 => ("MoveUpModel", "bare", "[I", true)
  | 65 => ("MoveUpModel", "ordersFrom", "[I", true)
  | 66 => ("MoveUpModel", "sitting", "I", false)
  | 67 => ("MoveUpModel", "isTaking", "Z", false)
  | 68 => ("MoveUpModel", "hasImage", "Z", false)
  | 69 => ("MoveUpModel", "keptAt", "I", false)
  | _ => ("MoveUpModel", "images", "[I", true)
def tyX12 : Nat → FieldType := fun k => match k with
  | 0 => .int
  | 1 => .array .int
  | 2 => .array .int
  | 3 => .int
  | 4 => .array .int
  | 5 => .boolean
  | 6 => .int
  | 7 => .array .boolean
  | 8 => .int
  | 9 => .array .int
  | 10 => .array .int
  | 11 => .array .int
  | 12 => .array .int
  | 13 => .array .int
  | 14 => .array .int
  | 15 => .array .int
  | 16 => .int
  | 17 => .int
  | 18 => .int
  | 19 => .int
  | 20 => .int
  | 21 => .array .int
  | 22 => .array .int
  | 23 => .array .int
  | 24 => .array .int
  | 25 => .array .int
  | 26 => .array .int
  | 27 => .array .int
  | 28 => .int
  | 29 => .int
  | 30 => .int
  | 31 => .array .int
  | 32 => .int
  | 33 => .int
  | 34 => .int
  | 35 => .int
  | 36 => .int
  | 37 => .int
  | 38 => .array .int
  | 39 => .array .int
  | 40 => .array .int
  | 41 => .array .int
  | 42 => .array .int
  | 43 => .array .int
  | 44 => .array .int
  | 45 => .array .int
  | 46 => .int
  | 47 => .int
  | 48 => .int
  | 49 => .int
  | 50 => .int
  | 51 => .int
  | 52 => .int
  | 53 => .array .int
  | 54 => .array .int
  | 55 => .array .int
  | 56 => .array .int
  | 57 => .int
  | 58 => .array .int
  | 59 => .array .int
  | 60 => .array .int
  | 61 => .int
  | 62 => .int
  | 63 => .int
  | 64 => .array .int
  | 65 => .array .int
  | 66 => .int
  | 67 => .boolean
  | 68 => .boolean
  | 69 => .int
  | _ => .array .int
theorem nmX12 : ∀ a, a < 71 → ∀ b, b < 71 → a ≠ b → (TX12 a).2.1 ≠ (TX12 b).2.1 := by decide +kernel
theorem tyX12_ok : ∀ k, k < 71 → parseFieldDescriptor (TX12 k).2.2.1 = some (tyX12 k) := by decide +kernel
abbrev cX12_isIn : ByteArray := prog_14_method_3_code
def yX12_isIn : MethodName := ⟨RX12, "isIn", "(III)Z"⟩
abbrev cX12_held : ByteArray := prog_14_method_4_code
def yX12_held : MethodName := ⟨RX12, "held", "(III)I"⟩
abbrev cX12_without : ByteArray := prog_14_method_5_code
def yX12_without : MethodName := ⟨RX12, "without", "(I)I"⟩
abbrev cX12_greater : ByteArray := prog_14_method_6_code
def yX12_greater : MethodName := ⟨RX12, "greater", "(II)I"⟩
abbrev cX12_keepsAhead : ByteArray := prog_14_method_7_code
def yX12_keepsAhead : MethodName := ⟨RX12, "keepsAhead", "()V"⟩
abbrev cX12_undo : ByteArray := prog_14_method_8_code
def yX12_undo : MethodName := ⟨RX12, "undo", "()Z"⟩
abbrev cX12_thinks : ByteArray := prog_14_method_9_code
def yX12_thinks : MethodName := ⟨RX12, "thinks", "()V"⟩
abbrev cX12_endsThought : ByteArray := prog_14_method_10_code
def yX12_endsThought : MethodName := ⟨RX12, "endsThought", "()V"⟩
abbrev cX12_length : ByteArray := prog_14_method_11_code
def yX12_length : MethodName := ⟨RX12, "length", "()I"⟩
abbrev cX12_isPerson : ByteArray := prog_14_method_12_code
def yX12_isPerson : MethodName := ⟨RX12, "isPerson", "(I)Z"⟩
abbrev cX12_sits : ByteArray := prog_14_method_13_code
def yX12_sits : MethodName := ⟨RX12, "sits", "(I)Z"⟩
abbrev cX12_inchOf : ByteArray := prog_14_method_14_code
def yX12_inchOf : MethodName := ⟨RX12, "inchOf", "(I)I"⟩
abbrev cX12_takesOf : ByteArray := prog_14_method_15_code
def yX12_takesOf : MethodName := ⟨RX12, "takesOf", "(I)I"⟩
abbrev cX12_bench : ByteArray := prog_14_method_16_code
def yX12_bench : MethodName := ⟨RX12, "bench", "(I)Z"⟩
abbrev cX12_rest : ByteArray := prog_14_method_17_code
def yX12_rest : MethodName := ⟨RX12, "rest", "(IZ)Z"⟩
abbrev cX12_person : ByteArray := prog_14_method_18_code
def yX12_person : MethodName := ⟨RX12, "person", "(IIIII)I"⟩
abbrev cX12_set : ByteArray := prog_14_method_19_code
def yX12_set : MethodName := ⟨RX12, "set", "(III)Z"⟩
abbrev cX12_types : ByteArray := prog_14_method_20_code
def yX12_types : MethodName := ⟨RX12, "types", "(I)V"⟩
abbrev cX12_feed : ByteArray := prog_14_method_21_code
def yX12_feed : MethodName := ⟨RX12, "feed", "(IIIII)I"⟩
abbrev cX12_end : ByteArray := prog_14_method_22_code
def yX12_end : MethodName := ⟨RX12, "end", "(I)Z"⟩
abbrev cX12_raw : ByteArray := prog_14_method_23_code
def yX12_raw : MethodName := ⟨RX12, "raw", "(I)I"⟩
abbrev cX12_isLetter : ByteArray := prog_14_method_24_code
def yX12_isLetter : MethodName := ⟨RX12, "isLetter", "(I)Z"⟩
abbrev cX12_isDigit : ByteArray := prog_14_method_25_code
def yX12_isDigit : MethodName := ⟨RX12, "isDigit", "(I)Z"⟩
abbrev cX12_isMarkSign : ByteArray := prog_14_method_26_code
def yX12_isMarkSign : MethodName := ⟨RX12, "isMarkSign", "(I)Z"⟩
abbrev cX12_wordAt : ByteArray := prog_14_method_27_code
def yX12_wordAt : MethodName := ⟨RX12, "wordAt", "(II)I"⟩
abbrev cX12_reads : ByteArray := prog_14_method_28_code
def yX12_reads : MethodName := ⟨RX12, "reads", "()V"⟩
abbrev cX12_errs : ByteArray := prog_14_method_29_code
def yX12_errs : MethodName := ⟨RX12, "errs", "(I)I"⟩
abbrev cX12_isWord : ByteArray := prog_14_method_30_code
def yX12_isWord : MethodName := ⟨RX12, "isWord", "(I)Z"⟩
abbrev cX12_isSign : ByteArray := prog_14_method_31_code
def yX12_isSign : MethodName := ⟨RX12, "isSign", "(I)Z"⟩
abbrev cX12_emits : ByteArray := prog_14_method_32_code
def yX12_emits : MethodName := ⟨RX12, "emits", "(II)V"⟩
abbrev cX12_canAsk : ByteArray := prog_14_method_33_code
def yX12_canAsk : MethodName := ⟨RX12, "canAsk", "(I)Z"⟩
abbrev cX12_readUnit : ByteArray := prog_14_method_34_code
def yX12_readUnit : MethodName := ⟨RX12, "readUnit", "()I"⟩
abbrev cX12_readProduct : ByteArray := prog_14_method_35_code
def yX12_readProduct : MethodName := ⟨RX12, "readProduct", "()I"⟩
abbrev cX12_readSum : ByteArray := prog_14_method_36_code
def yX12_readSum : MethodName := ⟨RX12, "readSum", "()I"⟩
abbrev cX12_readCompared : ByteArray := prog_14_method_37_code
def yX12_readCompared : MethodName := ⟨RX12, "readCompared", "()I"⟩
abbrev cX12_waits : ByteArray := prog_14_method_38_code
def yX12_waits : MethodName := ⟨RX12, "waits", "(I)V"⟩
abbrev cX12_settles : ByteArray := prog_14_method_39_code
def yX12_settles : MethodName := ⟨RX12, "settles", "(I)V"⟩
abbrev cX12_readAny : ByteArray := prog_14_method_40_code
def yX12_readAny : MethodName := ⟨RX12, "readAny", "()I"⟩
abbrev cX12_isLineWord : ByteArray := prog_14_method_41_code
def yX12_isLineWord : MethodName := ⟨RX12, "isLineWord", "()Z"⟩
abbrev cX12_readLaw : ByteArray := prog_14_method_42_code
def yX12_readLaw : MethodName := ⟨RX12, "readLaw", "()I"⟩
abbrev cX12_takesLaw : ByteArray := prog_14_method_43_code
def yX12_takesLaw : MethodName := ⟨RX12, "takesLaw", "(I)V"⟩
abbrev cX12_readNumber : ByteArray := prog_14_method_44_code
def yX12_readNumber : MethodName := ⟨RX12, "readNumber", "(II)I"⟩
abbrev cX12_readDayLine : ByteArray := prog_14_method_45_code
def yX12_readDayLine : MethodName := ⟨RX12, "readDayLine", "(I)I"⟩
abbrev cX12_readDay : ByteArray := prog_14_method_46_code
def yX12_readDay : MethodName := ⟨RX12, "readDay", "()I"⟩
abbrev cX12_takesDay : ByteArray := prog_14_method_47_code
def yX12_takesDay : MethodName := ⟨RX12, "takesDay", "(I)V"⟩
abbrev cX12_text : ByteArray := prog_14_method_48_code
def yX12_text : MethodName := ⟨RX12, "text", "(I)I"⟩
abbrev cX12_fault : ByteArray := prog_14_method_49_code
def yX12_fault : MethodName := ⟨RX12, "fault", "(I)I"⟩
abbrev cX12_twoOf : ByteArray := prog_14_method_50_code
def yX12_twoOf : MethodName := ⟨RX12, "twoOf", "(III)I"⟩
abbrev cX12_runs : ByteArray := prog_14_method_51_code
def yX12_runs : MethodName := ⟨RX12, "runs", "(III)I"⟩
abbrev cX12_lineOf : ByteArray := prog_14_method_52_code
def yX12_lineOf : MethodName := ⟨RX12, "lineOf", "(I)I"⟩
abbrev cX12_seats : ByteArray := prog_14_method_53_code
def yX12_seats : MethodName := ⟨RX12, "seats", "(IIIII)V"⟩
abbrev cX12_lists : ByteArray := prog_14_method_54_code
def yX12_lists : MethodName := ⟨RX12, "lists", "(I)V"⟩
abbrev cX12_everyone : ByteArray := prog_14_method_55_code
def yX12_everyone : MethodName := ⟨RX12, "everyone", "()I"⟩
abbrev cX12_asksFor : ByteArray := prog_14_method_56_code
def yX12_asksFor : MethodName := ⟨RX12, "asksFor", "(I)V"⟩
abbrev cX12_apartOf : ByteArray := prog_14_method_57_code
def yX12_apartOf : MethodName := ⟨RX12, "apartOf", "(IIII)I"⟩
abbrev cX12_isOverRest : ByteArray := prog_14_method_58_code
def yX12_isOverRest : MethodName := ⟨RX12, "isOverRest", "(II)Z"⟩
abbrev cX12_leftOf : ByteArray := prog_14_method_59_code
def yX12_leftOf : MethodName := ⟨RX12, "leftOf", "(I)I"⟩
abbrev cX12_canSit : ByteArray := prog_14_method_60_code
def yX12_canSit : MethodName := ⟨RX12, "canSit", "(I)Z"⟩
abbrev cX12_warmAt : ByteArray := prog_14_method_61_code
def yX12_warmAt : MethodName := ⟨RX12, "warmAt", "(I)I"⟩
abbrev cX12_isFriend : ByteArray := prog_14_method_62_code
def yX12_isFriend : MethodName := ⟨RX12, "isFriend", "(I)Z"⟩
abbrev cX12_asksHim : ByteArray := prog_14_method_63_code
def yX12_asksHim : MethodName := ⟨RX12, "asksHim", "()V"⟩
abbrev cX12_tellsOf : ByteArray := prog_14_method_64_code
def yX12_tellsOf : MethodName := ⟨RX12, "tellsOf", "(I)I"⟩
abbrev cX12_bestInch : ByteArray := prog_14_method_65_code
def yX12_bestInch : MethodName := ⟨RX12, "bestInch", "()I"⟩
abbrev cX12_tells : ByteArray := prog_14_method_66_code
def yX12_tells : MethodName := ⟨RX12, "tells", "(II)I"⟩
abbrev cX12_notes : ByteArray := prog_14_method_67_code
def yX12_notes : MethodName := ⟨RX12, "notes", "(III)V"⟩
abbrev cX12_comes : ByteArray := prog_14_method_68_code
def yX12_comes : MethodName := ⟨RX12, "comes", "(I)I"⟩
abbrev cX12_goes : ByteArray := prog_14_method_69_code
def yX12_goes : MethodName := ⟨RX12, "goes", "(I)V"⟩
abbrev cX12_begs : ByteArray := prog_14_method_70_code
def yX12_begs : MethodName := ⟨RX12, "begs", "(I)I"⟩
abbrev cX12_isAside : ByteArray := prog_14_method_71_code
def yX12_isAside : MethodName := ⟨RX12, "isAside", "(I)Z"⟩
abbrev cX12_come : ByteArray := prog_14_method_72_code
def yX12_come : MethodName := ⟨RX12, "come", "(I)I"⟩
abbrev cX12_go : ByteArray := prog_14_method_73_code
def yX12_go : MethodName := ⟨RX12, "go", "(I)Z"⟩
abbrev cX12_beg : ByteArray := prog_14_method_74_code
def yX12_beg : MethodName := ⟨RX12, "beg", "(I)I"⟩
abbrev cX12_standsNow : ByteArray := prog_14_method_75_code
def yX12_standsNow : MethodName := ⟨RX12, "standsNow", "(I)V"⟩
abbrev cX12_doesLine : ByteArray := prog_14_method_76_code
def yX12_doesLine : MethodName := ⟨RX12, "doesLine", "(I)Z"⟩
abbrev cX12_goesBy : ByteArray := prog_14_method_77_code
def yX12_goesBy : MethodName := ⟨RX12, "goesBy", "()I"⟩
abbrev cX12_hours : ByteArray := prog_14_method_78_code
def yX12_hours : MethodName := ⟨RX12, "hours", "(I)I"⟩
abbrev cX12_stands : ByteArray := prog_14_method_79_code
def yX12_stands : MethodName := ⟨RX12, "stands", "(I)I"⟩
abbrev cX12_placeOf : ByteArray := prog_14_method_80_code
def yX12_placeOf : MethodName := ⟨RX12, "placeOf", "(I)I"⟩
abbrev cX12_of : ByteArray := prog_14_method_81_code
def yX12_of : MethodName := ⟨RX12, "of", "(II)I"⟩
abbrev cX12_whoAt : ByteArray := prog_14_method_82_code
def yX12_whoAt : MethodName := ⟨RX12, "whoAt", "(I)I"⟩
abbrev cX12_at : ByteArray := prog_14_method_83_code
def yX12_at : MethodName := ⟨RX12, "at", "(II)I"⟩
abbrev cX12_book : ByteArray := prog_14_method_84_code
def yX12_book : MethodName := ⟨RX12, "book", "(II)I"⟩
abbrev cX12_costOf : ByteArray := prog_14_method_85_code
def yX12_costOf : MethodName := ⟨RX12, "costOf", "(II)I"⟩
abbrev cX12_costAt : ByteArray := prog_14_method_86_code
def yX12_costAt : MethodName := ⟨RX12, "costAt", "(II)I"⟩
abbrev cX12_canBeside : ByteArray := prog_14_method_87_code
def yX12_canBeside : MethodName := ⟨RX12, "canBeside", "(IIII)Z"⟩
abbrev cX12_leastBehind : ByteArray := prog_14_method_88_code
def yX12_leastBehind : MethodName := ⟨RX12, "leastBehind", "(II)I"⟩
abbrev cX12_itemsFor : ByteArray := prog_14_method_89_code
def yX12_itemsFor : MethodName := ⟨RX12, "itemsFor", "(II)V"⟩
abbrev cX12_leastBy : ByteArray := prog_14_method_90_code
def yX12_leastBy : MethodName := ⟨RX12, "leastBy", "(II)I"⟩
abbrev cX12_findsRoom : ByteArray := prog_14_method_91_code
def yX12_findsRoom : MethodName := ⟨RX12, "findsRoom", "(II)Z"⟩
abbrev cX12_roomFor : ByteArray := prog_14_method_92_code
def yX12_roomFor : MethodName := ⟨RX12, "roomFor", "(I)I"⟩
abbrev cX12_room : ByteArray := prog_14_method_93_code
def yX12_room : MethodName := ⟨RX12, "room", "(II)I"⟩
abbrev cX12_rise : ByteArray := prog_14_method_94_code
def yX12_rise : MethodName := ⟨RX12, "rise", "(II)I"⟩
abbrev cX12_stretch : ByteArray := prog_14_method_95_code
def yX12_stretch : MethodName := ⟨RX12, "stretch", "(II)I"⟩
abbrev cX12_ofStretch : ByteArray := prog_14_method_96_code
def yX12_ofStretch : MethodName := ⟨RX12, "ofStretch", "([III)I"⟩
abbrev cX12_findsStretch : ByteArray := prog_14_method_97_code
def yX12_findsStretch : MethodName := ⟨RX12, "findsStretch", "(IIII)V"⟩
abbrev cX12_findsStretches : ByteArray := prog_14_method_98_code
def yX12_findsStretches : MethodName := ⟨RX12, "findsStretches", "(II)V"⟩
abbrev cX12_fills : ByteArray := prog_14_method_99_code
def yX12_fills : MethodName := ⟨RX12, "fills", "(I)V"⟩
abbrev cX12_fillByLaw : ByteArray := prog_14_method_100_code
def yX12_fillByLaw : MethodName := ⟨RX12, "fillByLaw", "(II)I"⟩
abbrev cX12_areAlike : ByteArray := prog_14_method_101_code
def yX12_areAlike : MethodName := ⟨RX12, "areAlike", "(II)Z"⟩
abbrev cX12_fill : ByteArray := prog_14_method_102_code
def yX12_fill : MethodName := ⟨RX12, "fill", "(III)I"⟩
abbrev cX12_findsBare : ByteArray := prog_14_method_103_code
def yX12_findsBare : MethodName := ⟨RX12, "findsBare", "(II)V"⟩
abbrev cX12_fewestBy : ByteArray := prog_14_method_104_code
def yX12_fewestBy : MethodName := ⟨RX12, "fewestBy", "(III)I"⟩
abbrev cX12_findsAround : ByteArray := prog_14_method_105_code
def yX12_findsAround : MethodName := ⟨RX12, "findsAround", "(III)V"⟩
abbrev cX12_bestRest : ByteArray := prog_14_method_106_code
def yX12_bestRest : MethodName := ⟨RX12, "bestRest", "(II)I"⟩
abbrev cX12_block : ByteArray := prog_14_method_107_code
def yX12_block : MethodName := ⟨RX12, "block", "(III)I"⟩
abbrev cX12_gives : ByteArray := prog_14_method_108_code
def yX12_gives : MethodName := ⟨RX12, "gives", "(II)I"⟩
abbrev cX12_canCome : ByteArray := prog_14_method_109_code
def yX12_canCome : MethodName := ⟨RX12, "canCome", "(II)Z"⟩
abbrev cX12_findsOrders : ByteArray := prog_14_method_110_code
def yX12_findsOrders : MethodName := ⟨RX12, "findsOrders", "()V"⟩
abbrev cX12_sittingSet : ByteArray := prog_14_method_111_code
def yX12_sittingSet : MethodName := ⟨RX12, "sittingSet", "()I"⟩
abbrev cX12_onesOf : ByteArray := prog_14_method_112_code
def yX12_onesOf : MethodName := ⟨RX12, "onesOf", "(I)I"⟩
abbrev cX12_nextOf : ByteArray := prog_14_method_113_code
def yX12_nextOf : MethodName := ⟨RX12, "nextOf", "(I)I"⟩
abbrev cX12_orders : ByteArray := prog_14_method_114_code
def yX12_orders : MethodName := ⟨RX12, "orders", "(I)I"⟩
abbrev cX12_kept : ByteArray := prog_14_method_115_code
def yX12_kept : MethodName := ⟨RX12, "kept", "(I)I"⟩
abbrev cX12_keepsLaw : ByteArray := prog_14_method_116_code
def yX12_keepsLaw : MethodName := ⟨RX12, "keepsLaw", "(I)V"⟩
abbrev cX12_keepsBench : ByteArray := prog_14_method_117_code
def yX12_keepsBench : MethodName := ⟨RX12, "keepsBench", "()V"⟩
abbrev cX12_image : ByteArray := prog_14_method_118_code
def yX12_image : MethodName := ⟨RX12, "image", "(Z)Z"⟩
abbrev cX12_freeInches : ByteArray := prog_14_method_119_code
def yX12_freeInches : MethodName := ⟨RX12, "freeInches", "()I"⟩
abbrev cX12_restMany : ByteArray := prog_14_method_120_code
def yX12_restMany : MethodName := ⟨RX12, "restMany", "()I"⟩
abbrev cX12_whoIs : ByteArray := prog_14_method_121_code
def yX12_whoIs : MethodName := ⟨RX12, "whoIs", "(I)I"⟩
abbrev cX12_look : ByteArray := prog_14_method_122_code
def yX12_look : MethodName := ⟨RX12, "look", "(I)I"⟩
def RJ6 : String := "java/lang/Integer"
abbrev cJ6_numberOfTrailingZeros_0f7a4 : ByteArray := prog_16_method_48_code
def yJ6_numberOfTrailingZeros_0f7a4 : MethodName := ⟨RJ6, "numberOfTrailingZeros", "(I)I"⟩
def RJ0 : String := "java/lang/String"
abbrev cJ0_length_8abf5 : ByteArray := prog_18_method_54_code
def yJ0_length_8abf5 : MethodName := ⟨RJ0, "length", "()I"⟩
abbrev cJ0_charAt_5068e : ByteArray := prog_18_method_56_code
def yJ0_charAt_5068e : MethodName := ⟨RJ0, "charAt", "(I)C"⟩
abbrev cJ0_indexOf_0f7a4 : ByteArray := prog_18_method_79_code
def yJ0_indexOf_0f7a4 : MethodName := ⟨RJ0, "indexOf", "(I)I"⟩
abbrev cJ0_indexOf_7cf53 : ByteArray := prog_18_method_80_code
def yJ0_indexOf_7cf53 : MethodName := ⟨RJ0, "indexOf", "(II)I"⟩
abbrev cJ0_coder_7d493 : ByteArray := prog_18_method_152_code
def yJ0_coder_7d493 : MethodName := ⟨RJ0, "coder", "()B"⟩
abbrev cJ0_isLatin1_aae02 : ByteArray := prog_18_method_154_code
def yJ0_isLatin1_aae02 : MethodName := ⟨RJ0, "isLatin1", "()Z"⟩
abbrev cJ0_checkIndex_df160 : ByteArray := prog_18_method_155_code
def yJ0_checkIndex_df160 : MethodName := ⟨RJ0, "checkIndex", "(II)V"⟩
def RJ1 : String := "java/lang/StringLatin1"
abbrev cJ1_charAt_3b067 : ByteArray := prog_19_method_2_code
def yJ1_charAt_3b067 : MethodName := ⟨RJ1, "charAt", "([BI)C"⟩
abbrev cJ1_canEncode_9a6ad : ByteArray := prog_19_method_4_code
def yJ1_canEncode_9a6ad : MethodName := ⟨RJ1, "canEncode", "(I)Z"⟩
abbrev cJ1_indexOf_4cfef : ByteArray := prog_19_method_22_code
def yJ1_indexOf_4cfef : MethodName := ⟨RJ1, "indexOf", "([BIII)I"⟩
abbrev cJ1_indexOfChar_4cfef : ByteArray := prog_19_method_23_code
def yJ1_indexOfChar_4cfef : MethodName := ⟨RJ1, "indexOfChar", "([BIII)I"⟩
def RJ7 : String := "java/util/Arrays"
abbrev cJ7_rangeCheck_23922 : ByteArray := prog_22_method_30_code
def yJ7_rangeCheck_23922 : MethodName := ⟨RJ7, "rangeCheck", "(III)V"⟩
abbrev cJ7_fill_53178 : ByteArray := prog_22_method_103_code
def yJ7_fill_53178 : MethodName := ⟨RJ7, "fill", "([II)V"⟩
abbrev cJ7_fill_fda19 : ByteArray := prog_22_method_104_code
def yJ7_fill_fda19 : MethodName := ⟨RJ7, "fill", "([IIII)V"⟩
def RJ3 : String := "jdk/internal/util/Preconditions"
abbrev cJ3_checkIndex_8e157 : ByteArray := prog_23_method_11_code
def yJ3_checkIndex_8e157 : MethodName := ⟨RJ3, "checkIndex", "(IILjava/util/function/BiFunction;)I"⟩
