-- ===== PART A: goes FIRST, ahead of the names: the tables' words, and 'selects' of the private methods out of them =====
/-- a private method of a class that the tables say can be made, by its rows of tables_1 -/
def lw_okq (q : MethodName × Nat) : Prop := (q.1.cls ≠ "java/lang/invoke/MethodHandle" ∧ q.1.cls ≠ "java/lang/invoke/VarHandle") ∧ Cond.instantiable q.1.cls q.2 ∈ tables_1 ∧ Cond.privateMethod q.1 ∈ tables_1 ∧ Cond.instanceMethod q.1 ∈ tables_1
theorem lw_p0 : lw_okq (⟨"CordLoft$Tokens", "skipBlanks", "(LCordLoft$Tape;)V"⟩, 9) := ⟨⟨by decide +kernel, by decide +kernel⟩, List.mem_of_getElem? (i := 45) (by decide +kernel), List.mem_of_getElem? (i := 463) (by decide +kernel), List.mem_of_getElem? (i := 464) (by decide +kernel)⟩
theorem lw_p1 : lw_okq (⟨"CordLoft$Tokens", "take", "(LCordLoft$Tape;I)I"⟩, 9) := ⟨⟨by decide +kernel, by decide +kernel⟩, List.mem_of_getElem? (i := 45) (by decide +kernel), List.mem_of_getElem? (i := 471) (by decide +kernel), List.mem_of_getElem? (i := 472) (by decide +kernel)⟩
theorem lw_p2 : lw_okq (⟨"CordLoft$Tokens", "takeWord", "(LCordLoft$Tape;I)I"⟩, 9) := ⟨⟨by decide +kernel, by decide +kernel⟩, List.mem_of_getElem? (i := 45) (by decide +kernel), List.mem_of_getElem? (i := 478) (by decide +kernel), List.mem_of_getElem? (i := 479) (by decide +kernel)⟩
theorem lw_p3 : lw_okq (⟨"CordLoft$Tokens", "takeNumber", "(LCordLoft$Tape;I)I"⟩, 9) := ⟨⟨by decide +kernel, by decide +kernel⟩, List.mem_of_getElem? (i := 45) (by decide +kernel), List.mem_of_getElem? (i := 530) (by decide +kernel), List.mem_of_getElem? (i := 531) (by decide +kernel)⟩
theorem lw_p4 : lw_okq (⟨"CordLoft$Reader", "readLine", "()Z"⟩, 6) := ⟨⟨by decide +kernel, by decide +kernel⟩, List.mem_of_getElem? (i := 84) (by decide +kernel), List.mem_of_getElem? (i := 618) (by decide +kernel), List.mem_of_getElem? (i := 619) (by decide +kernel)⟩
theorem lw_p5 : lw_okq (⟨"CordLoft$Reader", "readLamp", "()Z"⟩, 6) := ⟨⟨by decide +kernel, by decide +kernel⟩, List.mem_of_getElem? (i := 84) (by decide +kernel), List.mem_of_getElem? (i := 622) (by decide +kernel), List.mem_of_getElem? (i := 623) (by decide +kernel)⟩
theorem lw_p6 : lw_okq (⟨"CordLoft$Reader", "refuse", "(I)Z"⟩, 6) := ⟨⟨by decide +kernel, by decide +kernel⟩, List.mem_of_getElem? (i := 84) (by decide +kernel), List.mem_of_getElem? (i := 626) (by decide +kernel), List.mem_of_getElem? (i := 627) (by decide +kernel)⟩
theorem lw_p7 : lw_okq (⟨"CordLoft$Reader", "readNumber", "(I)Z"⟩, 6) := ⟨⟨by decide +kernel, by decide +kernel⟩, List.mem_of_getElem? (i := 84) (by decide +kernel), List.mem_of_getElem? (i := 639) (by decide +kernel), List.mem_of_getElem? (i := 640) (by decide +kernel)⟩
theorem lw_p8 : lw_okq (⟨"CordLoft$Reader", "readCord", "()Z"⟩, 6) := ⟨⟨by decide +kernel, by decide +kernel⟩, List.mem_of_getElem? (i := 84) (by decide +kernel), List.mem_of_getElem? (i := 643) (by decide +kernel), List.mem_of_getElem? (i := 644) (by decide +kernel)⟩
theorem lw_p9 : lw_okq (⟨"CordLoft$Reader", "expect", "(I)Z"⟩, 6) := ⟨⟨by decide +kernel, by decide +kernel⟩, List.mem_of_getElem? (i := 84) (by decide +kernel), List.mem_of_getElem? (i := 655) (by decide +kernel), List.mem_of_getElem? (i := 656) (by decide +kernel)⟩
theorem lw_p10 : lw_okq (⟨"CordLoft$Reader", "readTurned", "(I)Z"⟩, 6) := ⟨⟨by decide +kernel, by decide +kernel⟩, List.mem_of_getElem? (i := 84) (by decide +kernel), List.mem_of_getElem? (i := 659) (by decide +kernel), List.mem_of_getElem? (i := 660) (by decide +kernel)⟩
theorem lw_p11 : lw_okq (⟨"CordLoft$Reader", "knownLamp", "()I"⟩, 6) := ⟨⟨by decide +kernel, by decide +kernel⟩, List.mem_of_getElem? (i := 84) (by decide +kernel), List.mem_of_getElem? (i := 663) (by decide +kernel), List.mem_of_getElem? (i := 664) (by decide +kernel)⟩
theorem lw_p12 : lw_okq (⟨"CordLoft$Reader", "readNext", "()Z"⟩, 6) := ⟨⟨by decide +kernel, by decide +kernel⟩, List.mem_of_getElem? (i := 84) (by decide +kernel), List.mem_of_getElem? (i := 667) (by decide +kernel), List.mem_of_getElem? (i := 668) (by decide +kernel)⟩
theorem lw_p13 : lw_okq (⟨"CordLoft$Reader", "beginOnce", "()Z"⟩, 6) := ⟨⟨by decide +kernel, by decide +kernel⟩, List.mem_of_getElem? (i := 84) (by decide +kernel), List.mem_of_getElem? (i := 671) (by decide +kernel), List.mem_of_getElem? (i := 672) (by decide +kernel)⟩
theorem lw_p14 : lw_okq (⟨"CordLoft$Reader", "readJoined", "(II)Z"⟩, 6) := ⟨⟨by decide +kernel, by decide +kernel⟩, List.mem_of_getElem? (i := 84) (by decide +kernel), List.mem_of_getElem? (i := 675) (by decide +kernel), List.mem_of_getElem? (i := 676) (by decide +kernel)⟩
theorem lw_p15 : lw_okq (⟨"CordLoft$Reader", "readOne", "(I)Z"⟩, 6) := ⟨⟨by decide +kernel, by decide +kernel⟩, List.mem_of_getElem? (i := 84) (by decide +kernel), List.mem_of_getElem? (i := 679) (by decide +kernel), List.mem_of_getElem? (i := 680) (by decide +kernel)⟩
def lw_privs_1 : List (MethodName × Nat) := [(⟨"CordLoft$Tokens", "skipBlanks", "(LCordLoft$Tape;)V"⟩, 9), (⟨"CordLoft$Tokens", "take", "(LCordLoft$Tape;I)I"⟩, 9), (⟨"CordLoft$Tokens", "takeWord", "(LCordLoft$Tape;I)I"⟩, 9), (⟨"CordLoft$Tokens", "takeNumber", "(LCordLoft$Tape;I)I"⟩, 9), (⟨"CordLoft$Reader", "readLine", "()Z"⟩, 6), (⟨"CordLoft$Reader", "readLamp", "()Z"⟩, 6), (⟨"CordLoft$Reader", "refuse", "(I)Z"⟩, 6), (⟨"CordLoft$Reader", "readNumber", "(I)Z"⟩, 6), (⟨"CordLoft$Reader", "readCord", "()Z"⟩, 6), (⟨"CordLoft$Reader", "expect", "(I)Z"⟩, 6), (⟨"CordLoft$Reader", "readTurned", "(I)Z"⟩, 6), (⟨"CordLoft$Reader", "knownLamp", "()I"⟩, 6), (⟨"CordLoft$Reader", "readNext", "()Z"⟩, 6), (⟨"CordLoft$Reader", "beginOnce", "()Z"⟩, 6), (⟨"CordLoft$Reader", "readJoined", "(II)Z"⟩, 6), (⟨"CordLoft$Reader", "readOne", "(I)Z"⟩, 6)]
theorem lw_r1 : ∀ q ∈ lw_privs_1, lw_okq q := List.forall_mem_cons.mpr ⟨lw_p0, List.forall_mem_cons.mpr ⟨lw_p1, List.forall_mem_cons.mpr ⟨lw_p2, List.forall_mem_cons.mpr ⟨lw_p3, List.forall_mem_cons.mpr ⟨lw_p4, List.forall_mem_cons.mpr ⟨lw_p5, List.forall_mem_cons.mpr ⟨lw_p6, List.forall_mem_cons.mpr ⟨lw_p7, List.forall_mem_cons.mpr ⟨lw_p8, List.forall_mem_cons.mpr ⟨lw_p9, List.forall_mem_cons.mpr ⟨lw_p10, List.forall_mem_cons.mpr ⟨lw_p11, List.forall_mem_cons.mpr ⟨lw_p12, List.forall_mem_cons.mpr ⟨lw_p13, List.forall_mem_cons.mpr ⟨lw_p14, List.forall_mem_cons.mpr ⟨lw_p15, fun _ h => absurd h List.not_mem_nil⟩⟩⟩⟩⟩⟩⟩⟩⟩⟩⟩⟩⟩⟩⟩⟩
theorem lw_p16 : lw_okq (⟨"CordLoft$Reader", "readUnit", "(I)Z"⟩, 6) := ⟨⟨by decide +kernel, by decide +kernel⟩, List.mem_of_getElem? (i := 84) (by decide +kernel), List.mem_of_getElem? (i := 687) (by decide +kernel), List.mem_of_getElem? (i := 688) (by decide +kernel)⟩
theorem lw_p17 : lw_okq (⟨"CordLoft", "isFree", "(I)Z"⟩, 15) := ⟨⟨by decide +kernel, by decide +kernel⟩, List.mem_of_getElem? (i := 22) (by decide +kernel), List.mem_of_getElem? (i := 749) (by decide +kernel), List.mem_of_getElem? (i := 750) (by decide +kernel)⟩
theorem lw_p18 : lw_okq (⟨"CordLoft$Acts", "dropOldest", "()V"⟩, 3) := ⟨⟨by decide +kernel, by decide +kernel⟩, List.mem_of_getElem? (i := 229) (by decide +kernel), List.mem_of_getElem? (i := 763) (by decide +kernel), List.mem_of_getElem? (i := 764) (by decide +kernel)⟩
theorem lw_p19 : lw_okq (⟨"CordLoft", "isTied", "(I)Z"⟩, 15) := ⟨⟨by decide +kernel, by decide +kernel⟩, List.mem_of_getElem? (i := 22) (by decide +kernel), List.mem_of_getElem? (i := 779) (by decide +kernel), List.mem_of_getElem? (i := 780) (by decide +kernel)⟩
theorem lw_p20 : lw_okq (⟨"CordLoft$Plan", "duskWorth", "(IIII)I"⟩, 17) := ⟨⟨by decide +kernel, by decide +kernel⟩, List.mem_of_getElem? (i := 111) (by decide +kernel), List.mem_of_getElem? (i := 800) (by decide +kernel), List.mem_of_getElem? (i := 801) (by decide +kernel)⟩
theorem lw_p21 : lw_okq (⟨"CordLoft$Formula", "givenFor", "(I)I"⟩, 5) := ⟨⟨by decide +kernel, by decide +kernel⟩, List.mem_of_getElem? (i := 117) (by decide +kernel), List.mem_of_getElem? (i := 812) (by decide +kernel), List.mem_of_getElem? (i := 813) (by decide +kernel)⟩
theorem lw_p22 : lw_okq (⟨"CordLoft", "freeCords", "()I"⟩, 15) := ⟨⟨by decide +kernel, by decide +kernel⟩, List.mem_of_getElem? (i := 22) (by decide +kernel), List.mem_of_getElem? (i := 906) (by decide +kernel), List.mem_of_getElem? (i := 907) (by decide +kernel)⟩
theorem lw_p23 : lw_okq (⟨"CordLoft$Sets", "restOf", "(I)I"⟩, 7) := ⟨⟨by decide +kernel, by decide +kernel⟩, List.mem_of_getElem? (i := 281) (by decide +kernel), List.mem_of_getElem? (i := 915) (by decide +kernel), List.mem_of_getElem? (i := 916) (by decide +kernel)⟩
theorem lw_p24 : lw_okq (⟨"CordLoft$Paths", "come", "(III)V"⟩, 8) := ⟨⟨by decide +kernel, by decide +kernel⟩, List.mem_of_getElem? (i := 326) (by decide +kernel), List.mem_of_getElem? (i := 982) (by decide +kernel), List.mem_of_getElem? (i := 983) (by decide +kernel)⟩
theorem lw_p25 : lw_okq (⟨"CordLoft$Sets", "valueBehind", "(LCordLoft$Plan;LCordLoft$State;I)I"⟩, 7) := ⟨⟨by decide +kernel, by decide +kernel⟩, List.mem_of_getElem? (i := 281) (by decide +kernel), List.mem_of_getElem? (i := 1003) (by decide +kernel), List.mem_of_getElem? (i := 1004) (by decide +kernel)⟩
theorem lw_p26 : lw_okq (⟨"CordLoft$Sets", "leastExchanged", "(LCordLoft$Plan;III)I"⟩, 7) := ⟨⟨by decide +kernel, by decide +kernel⟩, List.mem_of_getElem? (i := 281) (by decide +kernel), List.mem_of_getElem? (i := 1044) (by decide +kernel), List.mem_of_getElem? (i := 1045) (by decide +kernel)⟩
theorem lw_p27 : lw_okq (⟨"CordLoft", "lampsTurnedBy", "(I)I"⟩, 15) := ⟨⟨by decide +kernel, by decide +kernel⟩, List.mem_of_getElem? (i := 22) (by decide +kernel), List.mem_of_getElem? (i := 1080) (by decide +kernel), List.mem_of_getElem? (i := 1081) (by decide +kernel)⟩
theorem lw_p28 : lw_okq (⟨"CordLoft$Sight", "isFitting", "(LCordLoft$Plan;I)Z"⟩, 9) := ⟨⟨by decide +kernel, by decide +kernel⟩, List.mem_of_getElem? (i := 360) (by decide +kernel), List.mem_of_getElem? (i := 1157) (by decide +kernel), List.mem_of_getElem? (i := 1158) (by decide +kernel)⟩
theorem lw_p29 : lw_okq (⟨"CordLoftModel", "four", "(I)V"⟩, 71) := ⟨⟨by decide +kernel, by decide +kernel⟩, List.mem_of_getElem? (i := 1199) (by decide +kernel), List.mem_of_getElem? (i := 1423) (by decide +kernel), List.mem_of_getElem? (i := 1424) (by decide +kernel)⟩
theorem lw_p30 : lw_okq (⟨"CordLoftModel", "readAll", "()V"⟩, 71) := ⟨⟨by decide +kernel, by decide +kernel⟩, List.mem_of_getElem? (i := 1199) (by decide +kernel), List.mem_of_getElem? (i := 1435) (by decide +kernel), List.mem_of_getElem? (i := 1436) (by decide +kernel)⟩
theorem lw_p31 : lw_okq (⟨"CordLoftModel", "token", "()V"⟩, 71) := ⟨⟨by decide +kernel, by decide +kernel⟩, List.mem_of_getElem? (i := 1199) (by decide +kernel), List.mem_of_getElem? (i := 1439) (by decide +kernel), List.mem_of_getElem? (i := 1440) (by decide +kernel)⟩
def lw_privs_2 : List (MethodName × Nat) := [(⟨"CordLoft$Reader", "readUnit", "(I)Z"⟩, 6), (⟨"CordLoft", "isFree", "(I)Z"⟩, 15), (⟨"CordLoft$Acts", "dropOldest", "()V"⟩, 3), (⟨"CordLoft", "isTied", "(I)Z"⟩, 15), (⟨"CordLoft$Plan", "duskWorth", "(IIII)I"⟩, 17), (⟨"CordLoft$Formula", "givenFor", "(I)I"⟩, 5), (⟨"CordLoft", "freeCords", "()I"⟩, 15), (⟨"CordLoft$Sets", "restOf", "(I)I"⟩, 7), (⟨"CordLoft$Paths", "come", "(III)V"⟩, 8), (⟨"CordLoft$Sets", "valueBehind", "(LCordLoft$Plan;LCordLoft$State;I)I"⟩, 7), (⟨"CordLoft$Sets", "leastExchanged", "(LCordLoft$Plan;III)I"⟩, 7), (⟨"CordLoft", "lampsTurnedBy", "(I)I"⟩, 15), (⟨"CordLoft$Sight", "isFitting", "(LCordLoft$Plan;I)Z"⟩, 9), (⟨"CordLoftModel", "four", "(I)V"⟩, 71), (⟨"CordLoftModel", "readAll", "()V"⟩, 71), (⟨"CordLoftModel", "token", "()V"⟩, 71)]
theorem lw_r2 : ∀ q ∈ lw_privs_2, lw_okq q := List.forall_mem_cons.mpr ⟨lw_p16, List.forall_mem_cons.mpr ⟨lw_p17, List.forall_mem_cons.mpr ⟨lw_p18, List.forall_mem_cons.mpr ⟨lw_p19, List.forall_mem_cons.mpr ⟨lw_p20, List.forall_mem_cons.mpr ⟨lw_p21, List.forall_mem_cons.mpr ⟨lw_p22, List.forall_mem_cons.mpr ⟨lw_p23, List.forall_mem_cons.mpr ⟨lw_p24, List.forall_mem_cons.mpr ⟨lw_p25, List.forall_mem_cons.mpr ⟨lw_p26, List.forall_mem_cons.mpr ⟨lw_p27, List.forall_mem_cons.mpr ⟨lw_p28, List.forall_mem_cons.mpr ⟨lw_p29, List.forall_mem_cons.mpr ⟨lw_p30, List.forall_mem_cons.mpr ⟨lw_p31, fun _ h => absurd h List.not_mem_nil⟩⟩⟩⟩⟩⟩⟩⟩⟩⟩⟩⟩⟩⟩⟩⟩
theorem lw_p32 : lw_okq (⟨"CordLoftModel", "here", "(I)I"⟩, 71) := ⟨⟨by decide +kernel, by decide +kernel⟩, List.mem_of_getElem? (i := 1199) (by decide +kernel), List.mem_of_getElem? (i := 1443) (by decide +kernel), List.mem_of_getElem? (i := 1444) (by decide +kernel)⟩
theorem lw_p33 : lw_okq (⟨"CordLoftModel", "readLine", "()V"⟩, 71) := ⟨⟨by decide +kernel, by decide +kernel⟩, List.mem_of_getElem? (i := 1199) (by decide +kernel), List.mem_of_getElem? (i := 1456) (by decide +kernel), List.mem_of_getElem? (i := 1457) (by decide +kernel)⟩
theorem lw_p34 : lw_okq (⟨"CordLoftModel", "isWord", "(J)Z"⟩, 71) := ⟨⟨by decide +kernel, by decide +kernel⟩, List.mem_of_getElem? (i := 1199) (by decide +kernel), List.mem_of_getElem? (i := 1461) (by decide +kernel), List.mem_of_getElem? (i := 1462) (by decide +kernel)⟩
theorem lw_p35 : lw_okq (⟨"CordLoftModel", "readLamp", "()V"⟩, 71) := ⟨⟨by decide +kernel, by decide +kernel⟩, List.mem_of_getElem? (i := 1199) (by decide +kernel), List.mem_of_getElem? (i := 1465) (by decide +kernel), List.mem_of_getElem? (i := 1466) (by decide +kernel)⟩
theorem lw_p36 : lw_okq (⟨"CordLoftModel", "newName", "(II)V"⟩, 71) := ⟨⟨by decide +kernel, by decide +kernel⟩, List.mem_of_getElem? (i := 1199) (by decide +kernel), List.mem_of_getElem? (i := 1469) (by decide +kernel), List.mem_of_getElem? (i := 1470) (by decide +kernel)⟩
theorem lw_p37 : lw_okq (⟨"CordLoftModel", "isName", "()Z"⟩, 71) := ⟨⟨by decide +kernel, by decide +kernel⟩, List.mem_of_getElem? (i := 1199) (by decide +kernel), List.mem_of_getElem? (i := 1473) (by decide +kernel), List.mem_of_getElem? (i := 1474) (by decide +kernel)⟩
theorem lw_p38 : lw_okq (⟨"CordLoftModel", "isOwn", "()Z"⟩, 71) := ⟨⟨by decide +kernel, by decide +kernel⟩, List.mem_of_getElem? (i := 1199) (by decide +kernel), List.mem_of_getElem? (i := 1477) (by decide +kernel), List.mem_of_getElem? (i := 1478) (by decide +kernel)⟩
theorem lw_p39 : lw_okq (⟨"CordLoftModel", "wrong", "(I)V"⟩, 71) := ⟨⟨by decide +kernel, by decide +kernel⟩, List.mem_of_getElem? (i := 1199) (by decide +kernel), List.mem_of_getElem? (i := 1498) (by decide +kernel), List.mem_of_getElem? (i := 1499) (by decide +kernel)⟩
theorem lw_p40 : lw_okq (⟨"CordLoftModel", "find", "(II)I"⟩, 71) := ⟨⟨by decide +kernel, by decide +kernel⟩, List.mem_of_getElem? (i := 1199) (by decide +kernel), List.mem_of_getElem? (i := 1502) (by decide +kernel), List.mem_of_getElem? (i := 1503) (by decide +kernel)⟩
theorem lw_p41 : lw_okq (⟨"CordLoftModel", "mayTell", "(JI)I"⟩, 71) := ⟨⟨by decide +kernel, by decide +kernel⟩, List.mem_of_getElem? (i := 1199) (by decide +kernel), List.mem_of_getElem? (i := 1506) (by decide +kernel), List.mem_of_getElem? (i := 1507) (by decide +kernel)⟩
theorem lw_p42 : lw_okq (⟨"CordLoftModel", "told", "(JII)I"⟩, 71) := ⟨⟨by decide +kernel, by decide +kernel⟩, List.mem_of_getElem? (i := 1199) (by decide +kernel), List.mem_of_getElem? (i := 1510) (by decide +kernel), List.mem_of_getElem? (i := 1511) (by decide +kernel)⟩
theorem lw_p43 : lw_okq (⟨"CordLoftModel", "want", "(J)V"⟩, 71) := ⟨⟨by decide +kernel, by decide +kernel⟩, List.mem_of_getElem? (i := 1199) (by decide +kernel), List.mem_of_getElem? (i := 1514) (by decide +kernel), List.mem_of_getElem? (i := 1515) (by decide +kernel)⟩
theorem lw_p44 : lw_okq (⟨"CordLoftModel", "toldNumber", "(II)I"⟩, 71) := ⟨⟨by decide +kernel, by decide +kernel⟩, List.mem_of_getElem? (i := 1199) (by decide +kernel), List.mem_of_getElem? (i := 1518) (by decide +kernel), List.mem_of_getElem? (i := 1519) (by decide +kernel)⟩
theorem lw_p45 : lw_okq (⟨"CordLoftModel", "readCord", "()V"⟩, 71) := ⟨⟨by decide +kernel, by decide +kernel⟩, List.mem_of_getElem? (i := 1199) (by decide +kernel), List.mem_of_getElem? (i := 1522) (by decide +kernel), List.mem_of_getElem? (i := 1523) (by decide +kernel)⟩
theorem lw_p46 : lw_okq (⟨"CordLoftModel", "readTurned", "()V"⟩, 71) := ⟨⟨by decide +kernel, by decide +kernel⟩, List.mem_of_getElem? (i := 1199) (by decide +kernel), List.mem_of_getElem? (i := 1526) (by decide +kernel), List.mem_of_getElem? (i := 1527) (by decide +kernel)⟩
theorem lw_p47 : lw_okq (⟨"CordLoftModel", "oldLamp", "()I"⟩, 71) := ⟨⟨by decide +kernel, by decide +kernel⟩, List.mem_of_getElem? (i := 1199) (by decide +kernel), List.mem_of_getElem? (i := 1530) (by decide +kernel), List.mem_of_getElem? (i := 1531) (by decide +kernel)⟩
def lw_privs_3 : List (MethodName × Nat) := [(⟨"CordLoftModel", "here", "(I)I"⟩, 71), (⟨"CordLoftModel", "readLine", "()V"⟩, 71), (⟨"CordLoftModel", "isWord", "(J)Z"⟩, 71), (⟨"CordLoftModel", "readLamp", "()V"⟩, 71), (⟨"CordLoftModel", "newName", "(II)V"⟩, 71), (⟨"CordLoftModel", "isName", "()Z"⟩, 71), (⟨"CordLoftModel", "isOwn", "()Z"⟩, 71), (⟨"CordLoftModel", "wrong", "(I)V"⟩, 71), (⟨"CordLoftModel", "find", "(II)I"⟩, 71), (⟨"CordLoftModel", "mayTell", "(JI)I"⟩, 71), (⟨"CordLoftModel", "told", "(JII)I"⟩, 71), (⟨"CordLoftModel", "want", "(J)V"⟩, 71), (⟨"CordLoftModel", "toldNumber", "(II)I"⟩, 71), (⟨"CordLoftModel", "readCord", "()V"⟩, 71), (⟨"CordLoftModel", "readTurned", "()V"⟩, 71), (⟨"CordLoftModel", "oldLamp", "()I"⟩, 71)]
theorem lw_r3 : ∀ q ∈ lw_privs_3, lw_okq q := List.forall_mem_cons.mpr ⟨lw_p32, List.forall_mem_cons.mpr ⟨lw_p33, List.forall_mem_cons.mpr ⟨lw_p34, List.forall_mem_cons.mpr ⟨lw_p35, List.forall_mem_cons.mpr ⟨lw_p36, List.forall_mem_cons.mpr ⟨lw_p37, List.forall_mem_cons.mpr ⟨lw_p38, List.forall_mem_cons.mpr ⟨lw_p39, List.forall_mem_cons.mpr ⟨lw_p40, List.forall_mem_cons.mpr ⟨lw_p41, List.forall_mem_cons.mpr ⟨lw_p42, List.forall_mem_cons.mpr ⟨lw_p43, List.forall_mem_cons.mpr ⟨lw_p44, List.forall_mem_cons.mpr ⟨lw_p45, List.forall_mem_cons.mpr ⟨lw_p46, List.forall_mem_cons.mpr ⟨lw_p47, fun _ h => absurd h List.not_mem_nil⟩⟩⟩⟩⟩⟩⟩⟩⟩⟩⟩⟩⟩⟩⟩⟩
theorem lw_p48 : lw_okq (⟨"CordLoftModel", "readNext", "()V"⟩, 71) := ⟨⟨by decide +kernel, by decide +kernel⟩, List.mem_of_getElem? (i := 1199) (by decide +kernel), List.mem_of_getElem? (i := 1537) (by decide +kernel), List.mem_of_getElem? (i := 1538) (by decide +kernel)⟩
theorem lw_p49 : lw_okq (⟨"CordLoftModel", "formula", "()V"⟩, 71) := ⟨⟨by decide +kernel, by decide +kernel⟩, List.mem_of_getElem? (i := 1199) (by decide +kernel), List.mem_of_getElem? (i := 1541) (by decide +kernel), List.mem_of_getElem? (i := 1542) (by decide +kernel)⟩
theorem lw_p50 : lw_okq (⟨"CordLoftModel", "unit", "()V"⟩, 71) := ⟨⟨by decide +kernel, by decide +kernel⟩, List.mem_of_getElem? (i := 1199) (by decide +kernel), List.mem_of_getElem? (i := 1545) (by decide +kernel), List.mem_of_getElem? (i := 1546) (by decide +kernel)⟩
theorem lw_p51 : lw_okq (⟨"CordLoftModel", "mayNot", "()Z"⟩, 71) := ⟨⟨by decide +kernel, by decide +kernel⟩, List.mem_of_getElem? (i := 1199) (by decide +kernel), List.mem_of_getElem? (i := 1549) (by decide +kernel), List.mem_of_getElem? (i := 1550) (by decide +kernel)⟩
theorem lw_p52 : lw_okq (⟨"CordLoftModel", "openUp", "(I)V"⟩, 71) := ⟨⟨by decide +kernel, by decide +kernel⟩, List.mem_of_getElem? (i := 1199) (by decide +kernel), List.mem_of_getElem? (i := 1556) (by decide +kernel), List.mem_of_getElem? (i := 1557) (by decide +kernel)⟩
theorem lw_p53 : lw_okq (⟨"CordLoftModel", "isFull", "()Z"⟩, 71) := ⟨⟨by decide +kernel, by decide +kernel⟩, List.mem_of_getElem? (i := 1199) (by decide +kernel), List.mem_of_getElem? (i := 1560) (by decide +kernel), List.mem_of_getElem? (i := 1561) (by decide +kernel)⟩
theorem lw_p54 : lw_okq (⟨"CordLoftModel", "countUnit", "()V"⟩, 71) := ⟨⟨by decide +kernel, by decide +kernel⟩, List.mem_of_getElem? (i := 1199) (by decide +kernel), List.mem_of_getElem? (i := 1564) (by decide +kernel), List.mem_of_getElem? (i := 1565) (by decide +kernel)⟩
theorem lw_p55 : lw_okq (⟨"CordLoftModel", "asked", "()I"⟩, 71) := ⟨⟨by decide +kernel, by decide +kernel⟩, List.mem_of_getElem? (i := 1199) (by decide +kernel), List.mem_of_getElem? (i := 1568) (by decide +kernel), List.mem_of_getElem? (i := 1569) (by decide +kernel)⟩
theorem lw_p56 : lw_okq (⟨"CordLoftModel", "add", "(II)V"⟩, 71) := ⟨⟨by decide +kernel, by decide +kernel⟩, List.mem_of_getElem? (i := 1199) (by decide +kernel), List.mem_of_getElem? (i := 1572) (by decide +kernel), List.mem_of_getElem? (i := 1573) (by decide +kernel)⟩
theorem lw_p57 : lw_okq (⟨"CordLoftModel", "sign", "()I"⟩, 71) := ⟨⟨by decide +kernel, by decide +kernel⟩, List.mem_of_getElem? (i := 1199) (by decide +kernel), List.mem_of_getElem? (i := 1576) (by decide +kernel), List.mem_of_getElem? (i := 1577) (by decide +kernel)⟩
theorem lw_p58 : lw_okq (⟨"CordLoftModel", "hasBracket", "()Z"⟩, 71) := ⟨⟨by decide +kernel, by decide +kernel⟩, List.mem_of_getElem? (i := 1199) (by decide +kernel), List.mem_of_getElem? (i := 1580) (by decide +kernel), List.mem_of_getElem? (i := 1581) (by decide +kernel)⟩
theorem lw_p59 : lw_okq (⟨"CordLoftModel", "close", "(I)V"⟩, 71) := ⟨⟨by decide +kernel, by decide +kernel⟩, List.mem_of_getElem? (i := 1199) (by decide +kernel), List.mem_of_getElem? (i := 1584) (by decide +kernel), List.mem_of_getElem? (i := 1585) (by decide +kernel)⟩
theorem lw_p60 : lw_okq (⟨"CordLoftModel", "hasRelation", "()Z"⟩, 71) := ⟨⟨by decide +kernel, by decide +kernel⟩, List.mem_of_getElem? (i := 1199) (by decide +kernel), List.mem_of_getElem? (i := 1588) (by decide +kernel), List.mem_of_getElem? (i := 1589) (by decide +kernel)⟩
theorem lw_p61 : lw_okq (⟨"CordLoftModel", "isLamp", "(I)Z"⟩, 71) := ⟨⟨by decide +kernel, by decide +kernel⟩, List.mem_of_getElem? (i := 1199) (by decide +kernel), List.mem_of_getElem? (i := 1600) (by decide +kernel), List.mem_of_getElem? (i := 1601) (by decide +kernel)⟩
theorem lw_p62 : lw_okq (⟨"CordLoftModel", "cordsOf", "(I)I"⟩, 71) := ⟨⟨by decide +kernel, by decide +kernel⟩, List.mem_of_getElem? (i := 1199) (by decide +kernel), List.mem_of_getElem? (i := 1607) (by decide +kernel), List.mem_of_getElem? (i := 1608) (by decide +kernel)⟩
theorem lw_p63 : lw_okq (⟨"CordLoftModel", "isCord", "(I)Z"⟩, 71) := ⟨⟨by decide +kernel, by decide +kernel⟩, List.mem_of_getElem? (i := 1199) (by decide +kernel), List.mem_of_getElem? (i := 1615) (by decide +kernel), List.mem_of_getElem? (i := 1616) (by decide +kernel)⟩
def lw_privs_4 : List (MethodName × Nat) := [(⟨"CordLoftModel", "readNext", "()V"⟩, 71), (⟨"CordLoftModel", "formula", "()V"⟩, 71), (⟨"CordLoftModel", "unit", "()V"⟩, 71), (⟨"CordLoftModel", "mayNot", "()Z"⟩, 71), (⟨"CordLoftModel", "openUp", "(I)V"⟩, 71), (⟨"CordLoftModel", "isFull", "()Z"⟩, 71), (⟨"CordLoftModel", "countUnit", "()V"⟩, 71), (⟨"CordLoftModel", "asked", "()I"⟩, 71), (⟨"CordLoftModel", "add", "(II)V"⟩, 71), (⟨"CordLoftModel", "sign", "()I"⟩, 71), (⟨"CordLoftModel", "hasBracket", "()Z"⟩, 71), (⟨"CordLoftModel", "close", "(I)V"⟩, 71), (⟨"CordLoftModel", "hasRelation", "()Z"⟩, 71), (⟨"CordLoftModel", "isLamp", "(I)Z"⟩, 71), (⟨"CordLoftModel", "cordsOf", "(I)I"⟩, 71), (⟨"CordLoftModel", "isCord", "(I)Z"⟩, 71)]
theorem lw_r4 : ∀ q ∈ lw_privs_4, lw_okq q := List.forall_mem_cons.mpr ⟨lw_p48, List.forall_mem_cons.mpr ⟨lw_p49, List.forall_mem_cons.mpr ⟨lw_p50, List.forall_mem_cons.mpr ⟨lw_p51, List.forall_mem_cons.mpr ⟨lw_p52, List.forall_mem_cons.mpr ⟨lw_p53, List.forall_mem_cons.mpr ⟨lw_p54, List.forall_mem_cons.mpr ⟨lw_p55, List.forall_mem_cons.mpr ⟨lw_p56, List.forall_mem_cons.mpr ⟨lw_p57, List.forall_mem_cons.mpr ⟨lw_p58, List.forall_mem_cons.mpr ⟨lw_p59, List.forall_mem_cons.mpr ⟨lw_p60, List.forall_mem_cons.mpr ⟨lw_p61, List.forall_mem_cons.mpr ⟨lw_p62, List.forall_mem_cons.mpr ⟨lw_p63, fun _ h => absurd h List.not_mem_nil⟩⟩⟩⟩⟩⟩⟩⟩⟩⟩⟩⟩⟩⟩⟩⟩
theorem lw_p64 : lw_okq (⟨"CordLoftModel", "isTied", "(I)Z"⟩, 71) := ⟨⟨by decide +kernel, by decide +kernel⟩, List.mem_of_getElem? (i := 1199) (by decide +kernel), List.mem_of_getElem? (i := 1627) (by decide +kernel), List.mem_of_getElem? (i := 1628) (by decide +kernel)⟩
theorem lw_p65 : lw_okq (⟨"CordLoftModel", "act", "()V"⟩, 71) := ⟨⟨by decide +kernel, by decide +kernel⟩, List.mem_of_getElem? (i := 1199) (by decide +kernel), List.mem_of_getElem? (i := 1634) (by decide +kernel), List.mem_of_getElem? (i := 1635) (by decide +kernel)⟩
theorem lw_p66 : lw_okq (⟨"CordLoftModel", "turnTie", "(I)I"⟩, 71) := ⟨⟨by decide +kernel, by decide +kernel⟩, List.mem_of_getElem? (i := 1199) (by decide +kernel), List.mem_of_getElem? (i := 1642) (by decide +kernel), List.mem_of_getElem? (i := 1643) (by decide +kernel)⟩
theorem lw_p67 : lw_okq (⟨"CordLoftModel", "gustyDusk", "(II)I"⟩, 71) := ⟨⟨by decide +kernel, by decide +kernel⟩, List.mem_of_getElem? (i := 1199) (by decide +kernel), List.mem_of_getElem? (i := 1654) (by decide +kernel), List.mem_of_getElem? (i := 1655) (by decide +kernel)⟩
theorem lw_p68 : lw_okq (⟨"CordLoftModel", "duskOf", "(II)I"⟩, 71) := ⟨⟨by decide +kernel, by decide +kernel⟩, List.mem_of_getElem? (i := 1199) (by decide +kernel), List.mem_of_getElem? (i := 1658) (by decide +kernel), List.mem_of_getElem? (i := 1659) (by decide +kernel)⟩
theorem lw_p69 : lw_okq (⟨"CordLoftModel", "turnsAt", "(III)Z"⟩, 71) := ⟨⟨by decide +kernel, by decide +kernel⟩, List.mem_of_getElem? (i := 1199) (by decide +kernel), List.mem_of_getElem? (i := 1662) (by decide +kernel), List.mem_of_getElem? (i := 1663) (by decide +kernel)⟩
theorem lw_p70 : lw_okq (⟨"CordLoftModel", "exchangeAt", "(I)V"⟩, 71) := ⟨⟨by decide +kernel, by decide +kernel⟩, List.mem_of_getElem? (i := 1199) (by decide +kernel), List.mem_of_getElem? (i := 1676) (by decide +kernel), List.mem_of_getElem? (i := 1677) (by decide +kernel)⟩
theorem lw_p71 : lw_okq (⟨"CordLoftModel", "isPicture", "(I)Z"⟩, 71) := ⟨⟨by decide +kernel, by decide +kernel⟩, List.mem_of_getElem? (i := 1199) (by decide +kernel), List.mem_of_getElem? (i := 1692) (by decide +kernel), List.mem_of_getElem? (i := 1693) (by decide +kernel)⟩
theorem lw_p72 : lw_okq (⟨"CordLoftModel", "waysTo", "(I)I"⟩, 71) := ⟨⟨by decide +kernel, by decide +kernel⟩, List.mem_of_getElem? (i := 1199) (by decide +kernel), List.mem_of_getElem? (i := 1696) (by decide +kernel), List.mem_of_getElem? (i := 1697) (by decide +kernel)⟩
theorem lw_p73 : lw_okq (⟨"CordLoftModel", "free", "()I"⟩, 71) := ⟨⟨by decide +kernel, by decide +kernel⟩, List.mem_of_getElem? (i := 1199) (by decide +kernel), List.mem_of_getElem? (i := 1700) (by decide +kernel), List.mem_of_getElem? (i := 1701) (by decide +kernel)⟩
theorem lw_p74 : lw_okq (⟨"CordLoftModel", "turnedBy", "(I)I"⟩, 71) := ⟨⟨by decide +kernel, by decide +kernel⟩, List.mem_of_getElem? (i := 1199) (by decide +kernel), List.mem_of_getElem? (i := 1707) (by decide +kernel), List.mem_of_getElem? (i := 1708) (by decide +kernel)⟩
theorem lw_p75 : lw_okq (⟨"CordLoftModel", "fewestFor", "(IZ)I"⟩, 71) := ⟨⟨by decide +kernel, by decide +kernel⟩, List.mem_of_getElem? (i := 1199) (by decide +kernel), List.mem_of_getElem? (i := 1719) (by decide +kernel), List.mem_of_getElem? (i := 1720) (by decide +kernel)⟩
theorem lw_p76 : lw_okq (⟨"CordLoftModel", "cheapestFor", "(I)I"⟩, 71) := ⟨⟨by decide +kernel, by decide +kernel⟩, List.mem_of_getElem? (i := 1199) (by decide +kernel), List.mem_of_getElem? (i := 1727) (by decide +kernel), List.mem_of_getElem? (i := 1728) (by decide +kernel)⟩
theorem lw_p77 : lw_okq (⟨"CordLoftModel", "costOf", "(I)I"⟩, 71) := ⟨⟨by decide +kernel, by decide +kernel⟩, List.mem_of_getElem? (i := 1199) (by decide +kernel), List.mem_of_getElem? (i := 1731) (by decide +kernel), List.mem_of_getElem? (i := 1732) (by decide +kernel)⟩
theorem lw_p78 : lw_okq (⟨"CordLoftModel", "layPictures", "(II)I"⟩, 71) := ⟨⟨by decide +kernel, by decide +kernel⟩, List.mem_of_getElem? (i := 1199) (by decide +kernel), List.mem_of_getElem? (i := 1743) (by decide +kernel), List.mem_of_getElem? (i := 1744) (by decide +kernel)⟩
theorem lw_p79 : lw_okq (⟨"CordLoftModel", "without", "(I)I"⟩, 71) := ⟨⟨by decide +kernel, by decide +kernel⟩, List.mem_of_getElem? (i := 1199) (by decide +kernel), List.mem_of_getElem? (i := 1752) (by decide +kernel), List.mem_of_getElem? (i := 1753) (by decide +kernel)⟩
def lw_privs_5 : List (MethodName × Nat) := [(⟨"CordLoftModel", "isTied", "(I)Z"⟩, 71), (⟨"CordLoftModel", "act", "()V"⟩, 71), (⟨"CordLoftModel", "turnTie", "(I)I"⟩, 71), (⟨"CordLoftModel", "gustyDusk", "(II)I"⟩, 71), (⟨"CordLoftModel", "duskOf", "(II)I"⟩, 71), (⟨"CordLoftModel", "turnsAt", "(III)Z"⟩, 71), (⟨"CordLoftModel", "exchangeAt", "(I)V"⟩, 71), (⟨"CordLoftModel", "isPicture", "(I)Z"⟩, 71), (⟨"CordLoftModel", "waysTo", "(I)I"⟩, 71), (⟨"CordLoftModel", "free", "()I"⟩, 71), (⟨"CordLoftModel", "turnedBy", "(I)I"⟩, 71), (⟨"CordLoftModel", "fewestFor", "(IZ)I"⟩, 71), (⟨"CordLoftModel", "cheapestFor", "(I)I"⟩, 71), (⟨"CordLoftModel", "costOf", "(I)I"⟩, 71), (⟨"CordLoftModel", "layPictures", "(II)I"⟩, 71), (⟨"CordLoftModel", "without", "(I)I"⟩, 71)]
theorem lw_r5 : ∀ q ∈ lw_privs_5, lw_okq q := List.forall_mem_cons.mpr ⟨lw_p64, List.forall_mem_cons.mpr ⟨lw_p65, List.forall_mem_cons.mpr ⟨lw_p66, List.forall_mem_cons.mpr ⟨lw_p67, List.forall_mem_cons.mpr ⟨lw_p68, List.forall_mem_cons.mpr ⟨lw_p69, List.forall_mem_cons.mpr ⟨lw_p70, List.forall_mem_cons.mpr ⟨lw_p71, List.forall_mem_cons.mpr ⟨lw_p72, List.forall_mem_cons.mpr ⟨lw_p73, List.forall_mem_cons.mpr ⟨lw_p74, List.forall_mem_cons.mpr ⟨lw_p75, List.forall_mem_cons.mpr ⟨lw_p76, List.forall_mem_cons.mpr ⟨lw_p77, List.forall_mem_cons.mpr ⟨lw_p78, List.forall_mem_cons.mpr ⟨lw_p79, fun _ h => absurd h List.not_mem_nil⟩⟩⟩⟩⟩⟩⟩⟩⟩⟩⟩⟩⟩⟩⟩⟩
theorem lw_p80 : lw_okq (⟨"CordLoftModel", "wattsOf", "(I)I"⟩, 71) := ⟨⟨by decide +kernel, by decide +kernel⟩, List.mem_of_getElem? (i := 1199) (by decide +kernel), List.mem_of_getElem? (i := 1768) (by decide +kernel), List.mem_of_getElem? (i := 1769) (by decide +kernel)⟩
theorem lw_p81 : lw_okq (⟨"CordLoftModel", "layFar", "(I)V"⟩, 71) := ⟨⟨by decide +kernel, by decide +kernel⟩, List.mem_of_getElem? (i := 1199) (by decide +kernel), List.mem_of_getElem? (i := 1788) (by decide +kernel), List.mem_of_getElem? (i := 1789) (by decide +kernel)⟩
theorem lw_p82 : lw_okq (⟨"CordLoftModel", "layGame", "()V"⟩, 71) := ⟨⟨by decide +kernel, by decide +kernel⟩, List.mem_of_getElem? (i := 1199) (by decide +kernel), List.mem_of_getElem? (i := 1801) (by decide +kernel), List.mem_of_getElem? (i := 1802) (by decide +kernel)⟩
theorem lw_p83 : lw_okq (⟨"CordLoftModel", "darkCost", "()I"⟩, 71) := ⟨⟨by decide +kernel, by decide +kernel⟩, List.mem_of_getElem? (i := 1199) (by decide +kernel), List.mem_of_getElem? (i := 1825) (by decide +kernel), List.mem_of_getElem? (i := 1826) (by decide +kernel)⟩
theorem lw_p84 : lw_okq (⟨"CordLoftModel", "exchangeCosts", "(II)V"⟩, 71) := ⟨⟨by decide +kernel, by decide +kernel⟩, List.mem_of_getElem? (i := 1199) (by decide +kernel), List.mem_of_getElem? (i := 1829) (by decide +kernel), List.mem_of_getElem? (i := 1830) (by decide +kernel)⟩
theorem lw_p85 : lw_okq (⟨"CordLoftModel", "fitsSet", "(II)Z"⟩, 71) := ⟨⟨by decide +kernel, by decide +kernel⟩, List.mem_of_getElem? (i := 1199) (by decide +kernel), List.mem_of_getElem? (i := 1904) (by decide +kernel), List.mem_of_getElem? (i := 1905) (by decide +kernel)⟩
theorem lw_p86 : lw_okq (⟨"CordLoftModel", "leftBy", "(III)I"⟩, 71) := ⟨⟨by decide +kernel, by decide +kernel⟩, List.mem_of_getElem? (i := 1199) (by decide +kernel), List.mem_of_getElem? (i := 1921) (by decide +kernel), List.mem_of_getElem? (i := 1922) (by decide +kernel)⟩
def lw_privs_6 : List (MethodName × Nat) := [(⟨"CordLoftModel", "wattsOf", "(I)I"⟩, 71), (⟨"CordLoftModel", "layFar", "(I)V"⟩, 71), (⟨"CordLoftModel", "layGame", "()V"⟩, 71), (⟨"CordLoftModel", "darkCost", "()I"⟩, 71), (⟨"CordLoftModel", "exchangeCosts", "(II)V"⟩, 71), (⟨"CordLoftModel", "fitsSet", "(II)Z"⟩, 71), (⟨"CordLoftModel", "leftBy", "(III)I"⟩, 71)]
theorem lw_r6 : ∀ q ∈ lw_privs_6, lw_okq q := List.forall_mem_cons.mpr ⟨lw_p80, List.forall_mem_cons.mpr ⟨lw_p81, List.forall_mem_cons.mpr ⟨lw_p82, List.forall_mem_cons.mpr ⟨lw_p83, List.forall_mem_cons.mpr ⟨lw_p84, List.forall_mem_cons.mpr ⟨lw_p85, List.forall_mem_cons.mpr ⟨lw_p86, fun _ h => absurd h List.not_mem_nil⟩⟩⟩⟩⟩⟩⟩
def lw_privs : List (MethodName × Nat) := lw_privs_1 ++ (lw_privs_2 ++ (lw_privs_3 ++ (lw_privs_4 ++ (lw_privs_5 ++ (lw_privs_6)))))
def lw_tbl : List Cond := k2_sels lw_privs ++ tables_1
theorem lw_privs_ok : ∀ q ∈ lw_privs, lw_okq q := by
  show ∀ q ∈ lw_privs_1 ++ (lw_privs_2 ++ (lw_privs_3 ++ (lw_privs_4 ++ (lw_privs_5 ++ (lw_privs_6))))), lw_okq q
  exact List.forall_mem_append.mpr ⟨lw_r1, List.forall_mem_append.mpr ⟨lw_r2, List.forall_mem_append.mpr ⟨lw_r3, List.forall_mem_append.mpr ⟨lw_r4, List.forall_mem_append.mpr ⟨lw_r5, lw_r6⟩⟩⟩⟩⟩
def RX0 : String := "CordLoft$Acts"
def TX0 : u_T := fun k => match k with
  | 0 => ("CordLoft$Acts", "states", "[LCordLoft$State;", true)
  | 1 => ("CordLoft$Acts", "done", "I", false)
  | _ => ("CordLoft$Acts", "kept", "I", false)
def tyX0 : Nat → FieldType := fun k => match k with
  | 0 => .array (.object "CordLoft$State")
  | 1 => .int
  | _ => .int
theorem nmX0 : ∀ a, a < 3 → ∀ b, b < 3 → a ≠ b → (TX0 a).2.1 ≠ (TX0 b).2.1 := by decide +kernel
theorem tyX0_ok : ∀ k, k < 3 → parseFieldDescriptor (TX0 k).2.2.1 = some (tyX0 k) := by decide +kernel
def RX1 : String := "CordLoft$Best"
def TX1 : u_T := fun k => match k with
  | 0 => ("CordLoft$Best", "score", "I", false)
  | _ => ("CordLoft$Best", "pick", "I", false)
def tyX1 : Nat → FieldType := fun k => match k with
  | 0 => .int
  | _ => .int
theorem nmX1 : ∀ a, a < 2 → ∀ b, b < 2 → a ≠ b → (TX1 a).2.1 ≠ (TX1 b).2.1 := by decide +kernel
theorem tyX1_ok : ∀ k, k < 2 → parseFieldDescriptor (TX1 k).2.2.1 = some (tyX1 k) := by decide +kernel
def RX2 : String := "CordLoft$Formula"
def TX2 : u_T := fun k => match k with
  | 0 => ("CordLoft$Formula", "steps", "[I", true)
  | 1 => ("CordLoft$Formula", "length", "I", false)
  | 2 => ("CordLoft$Formula", "stack", "[I", true)
  | 3 => ("CordLoft$Formula", "given", "[I", true)
  | _ => ("CordLoft$Formula", "units", "I", false)
def tyX2 : Nat → FieldType := fun k => match k with
  | 0 => .array .int
  | 1 => .int
  | 2 => .array .int
  | 3 => .array .int
  | _ => .int
theorem nmX2 : ∀ a, a < 5 → ∀ b, b < 5 → a ≠ b → (TX2 a).2.1 ≠ (TX2 b).2.1 := by decide +kernel
theorem tyX2_ok : ∀ k, k < 5 → parseFieldDescriptor (TX2 k).2.2.1 = some (tyX2 k) := by decide +kernel
def RX3 : String := "CordLoft$Paths"
def TX3 : u_T := fun k => match k with
  | 0 => ("CordLoft$Paths", "pullsTo", "[I", true)
  | 1 => ("CordLoft$Paths", "cameFrom", "[I", true)
  | 2 => ("CordLoft$Paths", "cameBy", "[I", true)
  | 3 => ("CordLoft$Paths", "queue", "[I", true)
  | 4 => ("CordLoft$Paths", "queued", "I", false)
  | 5 => ("CordLoft$Paths", "rowsTo", "[I", true)
  | 6 => ("CordLoft$Paths", "row", "[I", true)
  | _ => ("CordLoft$Paths", "rowLength", "I", false)
def tyX3 : Nat → FieldType := fun k => match k with
  | 0 => .array .int
  | 1 => .array .int
  | 2 => .array .int
  | 3 => .array .int
  | 4 => .int
  | 5 => .array .int
  | 6 => .array .int
  | _ => .int
theorem nmX3 : ∀ a, a < 8 → ∀ b, b < 8 → a ≠ b → (TX3 a).2.1 ≠ (TX3 b).2.1 := by decide +kernel
theorem tyX3_ok : ∀ k, k < 8 → parseFieldDescriptor (TX3 k).2.2.1 = some (tyX3 k) := by decide +kernel
def RX4 : String := "CordLoft$Plan"
def TX4 : u_T := fun k => match k with
  | 0 => ("CordLoft$Plan", "lamps", "I", false)
  | 1 => ("CordLoft$Plan", "lit", "I", false)
  | 2 => ("CordLoft$Plan", "lampNames", "[J", true)
  | 3 => ("CordLoft$Plan", "watts", "[I", true)
  | 4 => ("CordLoft$Plan", "turnedBy", "[I", true)
  | 5 => ("CordLoft$Plan", "beside", "[I", true)
  | 6 => ("CordLoft$Plan", "cords", "I", false)
  | 7 => ("CordLoft$Plan", "cordNames", "[J", true)
  | 8 => ("CordLoft$Plan", "turns", "[I", true)
  | 9 => ("CordLoft$Plan", "costs", "[I", true)
  | 10 => ("CordLoft$Plan", "turnsOfSet", "[I", true)
  | 11 => ("CordLoft$Plan", "formula", "LCordLoft$Formula;", true)
  | 12 => ("CordLoft$Plan", "reckonedFor", "[I", true)
  | 13 => ("CordLoft$Plan", "turnsByItself", "[Z", true)
  | 14 => ("CordLoft$Plan", "least", "I", false)
  | 15 => ("CordLoft$Plan", "gusts", "I", false)
  | _ => ("CordLoft$Plan", "draw", "I", false)
def tyX4 : Nat → FieldType := fun k => match k with
  | 0 => .int
  | 1 => .int
  | 2 => .array .long
  | 3 => .array .int
  | 4 => .array .int
  | 5 => .array .int
  | 6 => .int
  | 7 => .array .long
  | 8 => .array .int
  | 9 => .array .int
  | 10 => .array .int
  | 11 => .object "CordLoft$Formula"
  | 12 => .array .int
  | 13 => .array .boolean
  | 14 => .int
  | 15 => .int
  | _ => .int
theorem nmX4 : ∀ a, a < 17 → ∀ b, b < 17 → a ≠ b → (TX4 a).2.1 ≠ (TX4 b).2.1 := by decide +kernel
theorem tyX4_ok : ∀ k, k < 17 → parseFieldDescriptor (TX4 k).2.2.1 = some (tyX4 k) := by decide +kernel
def RX5 : String := "CordLoft$Reader"
def TX5 : u_T := fun k => match k with
  | 0 => ("CordLoft$Reader", "tokens", "LCordLoft$Tokens;", true)
  | 1 => ("CordLoft$Reader", "plan", "LCordLoft$Plan;", false)
  | 2 => ("CordLoft$Reader", "toldOnce", "I", false)
  | 3 => ("CordLoft$Reader", "number", "I", false)
  | 4 => ("CordLoft$Reader", "fault", "I", false)
  | _ => ("CordLoft$Reader", "faultPlace", "I", false)
def tyX5 : Nat → FieldType := fun k => match k with
  | 0 => .object "CordLoft$Tokens"
  | 1 => .object "CordLoft$Plan"
  | 2 => .int
  | 3 => .int
  | 4 => .int
  | _ => .int
theorem nmX5 : ∀ a, a < 6 → ∀ b, b < 6 → a ≠ b → (TX5 a).2.1 ≠ (TX5 b).2.1 := by decide +kernel
theorem tyX5_ok : ∀ k, k < 6 → parseFieldDescriptor (TX5 k).2.2.1 = some (tyX5 k) := by decide +kernel
def RX6 : String := "CordLoft$Sets"
def TX6 : u_T := fun k => match k with
  | 0 => ("CordLoft$Sets", "best", "LCordLoft$Best;", true)
  | 1 => ("CordLoft$Sets", "values", "[I", true)
  | 2 => ("CordLoft$Sets", "darkSets", "[I", true)
  | 3 => ("CordLoft$Sets", "darkPrices", "[I", true)
  | 4 => ("CordLoft$Sets", "basis", "[I", true)
  | 5 => ("CordLoft$Sets", "opening", "I", false)
  | _ => ("CordLoft$Sets", "exchangedPrice", "I", false)
def tyX6 : Nat → FieldType := fun k => match k with
  | 0 => .object "CordLoft$Best"
  | 1 => .array .int
  | 2 => .array .int
  | 3 => .array .int
  | 4 => .array .int
  | 5 => .int
  | _ => .int
theorem nmX6 : ∀ a, a < 7 → ∀ b, b < 7 → a ≠ b → (TX6 a).2.1 ≠ (TX6 b).2.1 := by decide +kernel
theorem tyX6_ok : ∀ k, k < 7 → parseFieldDescriptor (TX6 k).2.2.1 = some (tyX6 k) := by decide +kernel
def RX7 : String := "CordLoft$Sight"
def TX7 : u_T := fun k => match k with
  | 0 => ("CordLoft$Sight", "lamps", "[I", true)
  | 1 => ("CordLoft$Sight", "lit", "[Z", true)
  | 2 => ("CordLoft$Sight", "toldAt", "[I", true)
  | 3 => ("CordLoft$Sight", "untoldAt", "[I", true)
  | 4 => ("CordLoft$Sight", "mustBeLit", "I", false)
  | 5 => ("CordLoft$Sight", "mustBeDark", "I", false)
  | 6 => ("CordLoft$Sight", "count", "I", false)
  | 7 => ("CordLoft$Sight", "time", "I", false)
  | _ => ("CordLoft$Sight", "leftAtMost", "I", false)
def tyX7 : Nat → FieldType := fun k => match k with
  | 0 => .array .int
  | 1 => .array .boolean
  | 2 => .array .int
  | 3 => .array .int
  | 4 => .int
  | 5 => .int
  | 6 => .int
  | 7 => .int
  | _ => .int
theorem nmX7 : ∀ a, a < 9 → ∀ b, b < 9 → a ≠ b → (TX7 a).2.1 ≠ (TX7 b).2.1 := by decide +kernel
theorem tyX7_ok : ∀ k, k < 9 → parseFieldDescriptor (TX7 k).2.2.1 = some (tyX7 k) := by decide +kernel
def RX8 : String := "CordLoft$State"
def TX8 : u_T := fun k => match k with
  | 0 => ("CordLoft$State", "picture", "I", false)
  | 1 => ("CordLoft$State", "tied", "I", false)
  | 2 => ("CordLoft$State", "spent", "I", false)
  | 3 => ("CordLoft$State", "night", "I", false)
  | _ => ("CordLoft$State", "seed", "I", false)
def tyX8 : Nat → FieldType := fun k => match k with
  | 0 => .int
  | 1 => .int
  | 2 => .int
  | 3 => .int
  | _ => .int
theorem nmX8 : ∀ a, a < 5 → ∀ b, b < 5 → a ≠ b → (TX8 a).2.1 ≠ (TX8 b).2.1 := by decide +kernel
theorem tyX8_ok : ∀ k, k < 5 → parseFieldDescriptor (TX8 k).2.2.1 = some (tyX8 k) := by decide +kernel
def RX9 : String := "CordLoft$Tape"
def TX9 : u_T := fun k => match k with
  | 0 => ("CordLoft$Tape", "bytes", "[B", true)
  | _ => ("CordLoft$Tape", "size", "I", false)
def tyX9 : Nat → FieldType := fun k => match k with
  | 0 => .array .byte
  | _ => .int
theorem nmX9 : ∀ a, a < 2 → ∀ b, b < 2 → a ≠ b → (TX9 a).2.1 ≠ (TX9 b).2.1 := by decide +kernel
theorem tyX9_ok : ∀ k, k < 2 → parseFieldDescriptor (TX9 k).2.2.1 = some (tyX9 k) := by decide +kernel
def RX10 : String := "CordLoft$Tokens"
def TX10 : u_T := fun k => match k with
  | 0 => ("CordLoft$Tokens", "kinds", "[I", true)
  | 1 => ("CordLoft$Tokens", "starts", "[I", true)
  | 2 => ("CordLoft$Tokens", "worths", "[J", true)
  | 3 => ("CordLoft$Tokens", "count", "I", false)
  | 4 => ("CordLoft$Tokens", "current", "I", false)
  | 5 => ("CordLoft$Tokens", "place", "I", false)
  | 6 => ("CordLoft$Tokens", "kind", "I", false)
  | 7 => ("CordLoft$Tokens", "start", "I", false)
  | _ => ("CordLoft$Tokens", "worth", "J", false)
def tyX10 : Nat → FieldType := fun k => match k with
  | 0 => .array .int
  | 1 => .array .int
  | 2 => .array .long
  | 3 => .int
  | 4 => .int
  | 5 => .int
  | 6 => .int
  | 7 => .int
  | _ => .long
theorem nmX10 : ∀ a, a < 9 → ∀ b, b < 9 → a ≠ b → (TX10 a).2.1 ≠ (TX10 b).2.1 := by decide +kernel
theorem tyX10_ok : ∀ k, k < 9 → parseFieldDescriptor (TX10 k).2.2.1 = some (tyX10 k) := by decide +kernel
def RX11 : String := "CordLoft"
def TX11 : u_T := fun k => match k with
  | 0 => ("CordLoft", "tape", "LCordLoft$Tape;", true)
  | 1 => ("CordLoft", "tokens", "LCordLoft$Tokens;", true)
  | 2 => ("CordLoft", "reader", "LCordLoft$Reader;", true)
  | 3 => ("CordLoft", "plan", "LCordLoft$Plan;", false)
  | 4 => ("CordLoft", "draft", "LCordLoft$Plan;", false)
  | 5 => ("CordLoft", "acts", "LCordLoft$Acts;", true)
  | 6 => ("CordLoft", "trial", "LCordLoft$State;", true)
  | 7 => ("CordLoft", "boxes", "[LCordLoft$State;", true)
  | 8 => ("CordLoft", "keptBoxes", "I", false)
  | 9 => ("CordLoft", "sets", "LCordLoft$Sets;", true)
  | 10 => ("CordLoft", "paths", "LCordLoft$Paths;", true)
  | 11 => ("CordLoft", "sight", "LCordLoft$Sight;", true)
  | 12 => ("CordLoft", "metAt", "[I", true)
  | 13 => ("CordLoft", "faultKind", "I", false)
  | _ => ("CordLoft", "faultPlace", "I", false)
def tyX11 : Nat → FieldType := fun k => match k with
  | 0 => .object "CordLoft$Tape"
  | 1 => .object "CordLoft$Tokens"
  | 2 => .object "CordLoft$Reader"
  | 3 => .object "CordLoft$Plan"
  | 4 => .object "CordLoft$Plan"
  | 5 => .object "CordLoft$Acts"
  | 6 => .object "CordLoft$State"
  | 7 => .array (.object "CordLoft$State")
  | 8 => .int
  | 9 => .object "CordLoft$Sets"
  | 10 => .object "CordLoft$Paths"
  | 11 => .object "CordLoft$Sight"
  | 12 => .array .int
  | 13 => .int
  | _ => .int
theorem nmX11 : ∀ a, a < 15 → ∀ b, b < 15 → a ≠ b → (TX11 a).2.1 ≠ (TX11 b).2.1 := by decide +kernel
theorem tyX11_ok : ∀ k, k < 15 → parseFieldDescriptor (TX11 k).2.2.1 = some (tyX11 k) := by decide +kernel
def RX12 : String := "CordLoftModel"
def TX12 : u_T := fun k => match k with
  | 0 => ("CordLoftModel", "tape", "[I", true)
  | 1 => ("CordLoftModel", "taped", "I", false)
  | 2 => ("CordLoftModel", "fault", "I", false)
  | 3 => ("CordLoftModel", "faultPlace", "I", false)
  | 4 => ("CordLoftModel", "at", "I", false)
  | 5 => ("CordLoftModel", "size", "I", false)
  | 6 => ("CordLoftModel", "sort", "I", false)
  | 7 => ("CordLoftModel", "place", "I", false)
  | 8 => ("CordLoftModel", "number", "I", false)
  | 9 => ("CordLoftModel", "word", "J", false)
  | 10 => ("CordLoftModel", "nName", "[J", true)
  | 11 => ("CordLoftModel", "nStep", "[I", true)
  | 12 => ("CordLoftModel", "nArg", "[I", true)
  | 13 => ("CordLoftModel", "step", "[I", true)
  | 14 => ("CordLoftModel", "arg", "[I", true)
  | 15 => ("CordLoftModel", "open", "[I", true)
  | 16 => ("CordLoftModel", "values", "[I", true)
  | 17 => ("CordLoftModel", "nMany", "I", false)
  | 18 => ("CordLoftModel", "formSteps", "I", false)
  | 19 => ("CordLoftModel", "opens", "I", false)
  | 20 => ("CordLoftModel", "nUnits", "I", false)
  | 21 => ("CordLoftModel", "units", "I", false)
  | 22 => ("CordLoftModel", "ownUnits", "I", false)
  | 23 => ("CordLoftModel", "deep", "I", false)
  | 24 => ("CordLoftModel", "nHasForm", "Z", false)
  | 25 => ("CordLoftModel", "hasForm", "Z", false)
  | 26 => ("CordLoftModel", "asks", "[I", true)
  | 27 => ("CordLoftModel", "nWatts", "[I", true)
  | 28 => ("CordLoftModel", "nNext", "[I", true)
  | 29 => ("CordLoftModel", "nTurns", "[I", true)
  | 30 => ("CordLoftModel", "nCosts", "[I", true)
  | 31 => ("CordLoftModel", "watts", "[I", true)
  | 32 => ("CordLoftModel", "nextTo", "[I", true)
  | 33 => ("CordLoftModel", "turns", "[I", true)
  | 34 => ("CordLoftModel", "costs", "[I", true)
  | 35 => ("CordLoftModel", "nLamps", "I", false)
  | 36 => ("CordLoftModel", "nCords", "I", false)
  | 37 => ("CordLoftModel", "nLit", "I", false)
  | 38 => ("CordLoftModel", "nLeast", "I", false)
  | 39 => ("CordLoftModel", "nGusts", "I", false)
  | 40 => ("CordLoftModel", "nDraw", "I", false)
  | 41 => ("CordLoftModel", "lamps", "I", false)
  | 42 => ("CordLoftModel", "cords", "I", false)
  | 43 => ("CordLoftModel", "lit", "I", false)
  | 44 => ("CordLoftModel", "least", "I", false)
  | 45 => ("CordLoftModel", "gusts", "I", false)
  | 46 => ("CordLoftModel", "seed", "I", false)
  | 47 => ("CordLoftModel", "nHasLeast", "Z", false)
  | 48 => ("CordLoftModel", "nHasGusts", "Z", false)
  | 49 => ("CordLoftModel", "nHasDraw", "Z", false)
  | 50 => ("CordLoftModel", "now", "[I", true)
  | 51 => ("CordLoftModel", "were", "[I", true)
  | 52 => ("CordLoftModel", "acts", "I", false)
  | 53 => ("CordLoftModel", "undone", "I", false)
  | 54 => ("CordLoftModel", "seedNow", "I", false)
  | 55 => ("CordLoftModel", "isThere", "[Z", true)
  | 56 => ("CordLoftModel", "lies", "[I", true)
  | 57 => ("CordLoftModel", "far", "[I", true)
  | 58 => ("CordLoftModel", "rowMany", "[I", true)
  | 59 => ("CordLoftModel", "lain", "I", false)
  | 60 => ("CordLoftModel", "worth", "[I", true)
  | 61 => ("CordLoftModel", "firstBy", "[I", true)
  | 62 => ("CordLoftModel", "firstTime", "[I", true)
  | 63 => ("CordLoftModel", "sightLamp", "[I", true)
  | 64 => ("CordLoftModel", "sightTold", "[I", true)
  | 65 => ("CordLoftModel", "sightUntold", "[I", true)
  | 66 => ("CordLoftModel", "sightIs", "[Z", true)
  | 67 => ("CordLoftModel", "sights", "I", false)
  | 68 => ("CordLoftModel", "time", "I", false)
  | 69 => ("CordLoftModel", "hasBox", "[Z", true)
  | _ => ("CordLoftModel", "boxes", "[I", true)
def tyX12 : Nat → FieldType := fun k => match k with
  | 0 => .array .int
  | 1 => .int
  | 2 => .int
  | 3 => .int
  | 4 => .int
  | 5 => .int
  | 6 => .int
  | 7 => .int
  | 8 => .int
  | 9 => .long
  | 10 => .array .long
  | 11 => .array .int
  | 12 => .array .int
  | 13 => .array .int
  | 14 => .array .int
  | 15 => .array .int
  | 16 => .array .int
  | 17 => .int
  | 18 => .int
  | 19 => .int
  | 20 => .int
  | 21 => .int
  | 22 => .int
  | 23 => .int
  | 24 => .boolean
  | 25 => .boolean
  | 26 => .array .int
  | 27 => .array .int
  | 28 => .array .int
  | 29 => .array .int
  | 30 => .array .int
  | 31 => .array .int
  | 32 => .array .int
  | 33 => .array .int
  | 34 => .array .int
  | 35 => .int
  | 36 => .int
  | 37 => .int
  | 38 => .int
  | 39 => .int
  | 40 => .int
  | 41 => .int
  | 42 => .int
  | 43 => .int
  | 44 => .int
  | 45 => .int
  | 46 => .int
  | 47 => .boolean
  | 48 => .boolean
  | 49 => .boolean
  | 50 => .array .int
  | 51 => .array .int
  | 52 => .int
  | 53 => .int
  | 54 => .int
  | 55 => .array .boolean
  | 56 => .array .int
  | 57 => .array .int
  | 58 => .array .int
  | 59 => .int
  | 60 => .array .int
  | 61 => .array .int
  | 62 => .array .int
  | 63 => .array .int
  | 64 => .array .int
  | 65 => .array .int
  | 66 => .array .boolean
  | 67 => .int
  | 68 => .int
  | 69 => .array .boolean
  | _ => .array .int
theorem nmX12 : ∀ a, a < 71 → ∀ b, b < 71 → a ≠ b → (TX12 a).2.1 ≠ (TX12 b).2.1 := by decide +kernel
theorem tyX12_ok : ∀ k, k < 71 → parseFieldDescriptor (TX12 k).2.2.1 = some (tyX12 k) := by decide +kernel
abbrev vwCl : List vw_C := [(RX0, TX0, 3), (RX1, TX1, 2), (RX2, TX2, 5), (RX3, TX3, 8), (RX4, TX4, 17), (RX5, TX5, 6), (RX6, TX6, 7), (RX7, TX7, 9), (RX8, TX8, 5), (RX9, TX9, 2), (RX10, TX10, 9), (RX11, TX11, 15), (RX12, TX12, 71)]
def tyOf (ci : Nat) : Nat → FieldType := match ci with
  | 0 => tyX0
  | 1 => tyX1
  | 2 => tyX2
  | 3 => tyX3
  | 4 => tyX4
  | 5 => tyX5
  | 6 => tyX6
  | 7 => tyX7
  | 8 => tyX8
  | 9 => tyX9
  | 10 => tyX10
  | 11 => tyX11
  | _ => tyX12
def mtab_0 : List (MethodName × ByteArray × Nat × Option FieldType × Nat × Nat) := [(⟨"CordLoft", "<init>", "()V"⟩, prog_1_method_1_code, 2, none, 104, 11200),
  (⟨"java/lang/Object", "<init>", "()V"⟩, object_method_1_code, 1, none, 0, 0),
  (⟨"CordLoft$Tape", "<init>", "()V"⟩, prog_11_method_1_code, 1, none, 1, 1600),
  (⟨"CordLoft$Tokens", "<init>", "()V"⟩, prog_12_method_1_code, 1, none, 3, 4803),
  (⟨"CordLoft$Reader", "<init>", "(LCordLoft$Tokens;)V"⟩, prog_7_method_1_code, 2, none, 0, 0),
  (⟨"CordLoft$Plan", "<init>", "()V"⟩, prog_6_method_1_code, 1, none, 14, 880),
  (⟨"CordLoft$Formula", "<init>", "()V"⟩, prog_4_method_1_code, 1, none, 3, 307),
  (⟨"CordLoft$Acts", "<init>", "()V"⟩, prog_2_method_1_code, 2, none, 42, 246),
  (⟨"CordLoft$State", "<init>", "()V"⟩, prog_10_method_1_code, 1, none, 0, 0),
  (⟨"CordLoft$Sets", "<init>", "()V"⟩, prog_8_method_1_code, 1, none, 5, 778),
  (⟨"CordLoft$Best", "<init>", "()V"⟩, prog_3_method_1_code, 1, none, 0, 0),
  (⟨"CordLoft$Paths", "<init>", "()V"⟩, prog_5_method_1_code, 1, none, 6, 1536),
  (⟨"CordLoft$Sight", "<init>", "()V"⟩, prog_9_method_1_code, 1, none, 4, 120),
  (⟨"CordLoft", "feed", "(IIIII)I"⟩, prog_1_method_2_code, 6, some .int, 0, 0),
  (⟨"CordLoft$Tape", "put", "(I)V"⟩, prog_11_method_2_code, 3, none, 0, 0),
  (⟨"CordLoft", "end", "(I)I"⟩, prog_1_method_3_code, 2, some .int, 0, 0),
  (⟨"CordLoft", "loft", "()I"⟩, prog_1_method_4_code, 3, some .int, 0, 0),
  (⟨"CordLoft$Tokens", "scan", "(LCordLoft$Tape;)V"⟩, prog_12_method_2_code, 4, none, 0, 0),
  (⟨"CordLoft$Tokens", "skipBlanks", "(LCordLoft$Tape;)V"⟩, prog_12_method_4_code, 3, none, 0, 0),
  (⟨"CordLoft$Tape", "at", "(I)I"⟩, prog_11_method_3_code, 2, some .int, 0, 0),
  (⟨"CordLoft$Tokens", "take", "(LCordLoft$Tape;I)I"⟩, prog_12_method_5_code, 4, some .int, 0, 0),
  (⟨"CordLoft$Tokens", "isLetter", "(I)Z"⟩, prog_12_method_9_code, 1, some .boolean, 0, 0),
  (⟨"CordLoft$Tokens", "takeWord", "(LCordLoft$Tape;I)I"⟩, prog_12_method_6_code, 7, some .int, 0, 0),
  (⟨"CordLoft$Tokens", "kindOfWord", "(LCordLoft$Tape;II)I"⟩, prog_12_method_7_code, 7, some .int, 0, 0),
  (⟨"java/lang/String", "charAt", "(I)C"⟩, prog_18_method_56_code, 2, some .char, 0, 0),
  (⟨"java/lang/String", "isLatin1", "()Z"⟩, prog_18_method_154_code, 1, some .boolean, 0, 0),
  (⟨"java/lang/StringLatin1", "charAt", "([BI)C"⟩, prog_19_method_2_code, 2, some .char, 0, 0),
  (⟨"java/lang/String", "checkIndex", "(II)V"⟩, prog_18_method_155_code, 2, none, 0, 0),
  (⟨"jdk/internal/util/Preconditions", "checkIndex", "(IILjava/util/function/BiFunction;)I"⟩, prog_21_method_11_code, 3, some .int, 0, 0),
  (⟨"java/lang/StringUTF16", "charAt", "([BI)C"⟩, prog_20_method_83_code, 2, some .char, 0, 0),
  (⟨"java/lang/StringUTF16", "checkIndex", "(I[B)V"⟩, prog_20_method_91_code, 2, none, 0, 0),
  (⟨"java/lang/StringUTF16", "length", "([B)I"⟩, prog_20_method_6_code, 1, some .int, 0, 0),
  (⟨"java/lang/StringUTF16", "getChar", "([BI)C"⟩, prog_20_method_5_code, 2, some .char, 0, 0),
  (⟨"CordLoft$Tokens", "isDigit", "(I)Z"⟩, prog_12_method_10_code, 1, some .boolean, 0, 0),
  (⟨"CordLoft$Tokens", "takeNumber", "(LCordLoft$Tape;I)I"⟩, prog_12_method_8_code, 7, some .int, 0, 0),
  (⟨"java/lang/String", "indexOf", "(I)I"⟩, prog_18_method_79_code, 2, some .int, 0, 0),
  (⟨"java/lang/String", "indexOf", "(II)I"⟩, prog_18_method_80_code, 3, some .int, 0, 0),
  (⟨"java/lang/String", "length", "()I"⟩, prog_18_method_54_code, 1, some .int, 0, 0),
  (⟨"java/lang/String", "coder", "()B"⟩, prog_18_method_152_code, 1, some .byte, 0, 0),
  (⟨"java/lang/StringLatin1", "indexOf", "([BIII)I"⟩, prog_19_method_22_code, 4, some .int, 0, 0)]
def mtab_1 : List (MethodName × ByteArray × Nat × Option FieldType × Nat × Nat) := [(⟨"java/lang/StringLatin1", "canEncode", "(I)Z"⟩, prog_19_method_4_code, 1, some .boolean, 0, 0),
  (⟨"java/lang/Math", "max", "(II)I"⟩, prog_17_method_65_code, 2, some .int, 0, 0),
  (⟨"java/lang/Math", "min", "(II)I"⟩, prog_17_method_69_code, 2, some .int, 0, 0),
  (⟨"java/lang/StringLatin1", "indexOfChar", "([BIII)I"⟩, prog_19_method_23_code, 6, some .int, 0, 0),
  (⟨"java/lang/StringUTF16", "indexOf", "([BIII)I"⟩, prog_20_method_40_code, 4, some .int, 0, 0),
  (⟨"java/lang/StringUTF16", "indexOfChar", "([BIII)I"⟩, prog_20_method_47_code, 4, some .int, 0, 0),
  (⟨"java/lang/StringUTF16", "checkBoundsBeginEnd", "(II[B)V"⟩, prog_20_method_93_code, 3, none, 0, 0),
  (⟨"java/lang/String", "checkBoundsBeginEnd", "(III)V"⟩, prog_18_method_158_code, 3, none, 0, 0),
  (⟨"jdk/internal/util/Preconditions", "checkFromToIndex", "(IIILjava/util/function/BiFunction;)I"⟩, prog_21_method_12_code, 4, some .int, 0, 0),
  (⟨"java/lang/StringUTF16", "indexOfCharUnsafe", "([BIII)I"⟩, prog_20_method_48_code, 5, some .int, 0, 0),
  (⟨"java/lang/StringUTF16", "indexOfSupplementary", "([BIII)I"⟩, prog_20_method_49_code, 7, some .int, 0, 0),
  (⟨"java/lang/Character", "isValidCodePoint", "(I)Z"⟩, prog_15_method_11_code, 2, some .boolean, 0, 0),
  (⟨"java/lang/Character", "highSurrogate", "(I)C"⟩, prog_15_method_28_code, 1, some .char, 0, 0),
  (⟨"java/lang/Character", "lowSurrogate", "(I)C"⟩, prog_15_method_29_code, 1, some .char, 0, 0),
  (⟨"CordLoft$Tokens", "step", "()V"⟩, prog_12_method_3_code, 1, none, 0, 0),
  (⟨"CordLoft$Reader", "read", "(LCordLoft$Plan;)Z"⟩, prog_7_method_2_code, 3, some .boolean, 0, 0),
  (⟨"CordLoft$Plan", "clear", "()V"⟩, prog_6_method_2_code, 1, none, 0, 0),
  (⟨"CordLoft$Formula", "clear", "()V"⟩, prog_4_method_2_code, 1, none, 0, 0),
  (⟨"CordLoft$Reader", "readLine", "()Z"⟩, prog_7_method_3_code, 2, some .boolean, 0, 0),
  (⟨"CordLoft$Reader", "readLamp", "()Z"⟩, prog_7_method_4_code, 2, some .boolean, 0, 0),
  (⟨"CordLoft$Reader", "refuse", "(I)Z"⟩, prog_7_method_16_code, 2, some .boolean, 0, 0),
  (⟨"CordLoft$Plan", "lampNamed", "(J)I"⟩, prog_6_method_5_code, 4, some .int, 0, 0),
  (⟨"CordLoft$Plan", "addLamp", "(J)I"⟩, prog_6_method_3_code, 4, some .int, 0, 0),
  (⟨"CordLoft$Reader", "readNumber", "(I)Z"⟩, prog_7_method_13_code, 2, some .boolean, 0, 0),
  (⟨"CordLoft$Reader", "readCord", "()Z"⟩, prog_7_method_5_code, 2, some .boolean, 0, 0),
  (⟨"CordLoft$Plan", "hasCordNamed", "(J)Z"⟩, prog_6_method_6_code, 4, some .boolean, 0, 0),
  (⟨"CordLoft$Plan", "addCord", "(J)I"⟩, prog_6_method_4_code, 4, some .int, 0, 0),
  (⟨"CordLoft$Reader", "expect", "(I)Z"⟩, prog_7_method_15_code, 2, some .boolean, 0, 0),
  (⟨"CordLoft$Reader", "readTurned", "(I)Z"⟩, prog_7_method_6_code, 4, some .boolean, 0, 0),
  (⟨"CordLoft$Reader", "knownLamp", "()I"⟩, prog_7_method_14_code, 2, some .int, 0, 0),
  (⟨"CordLoft$Reader", "readNext", "()Z"⟩, prog_7_method_7_code, 3, some .boolean, 0, 0),
  (⟨"CordLoft$Reader", "beginOnce", "()Z"⟩, prog_7_method_8_code, 2, some .boolean, 0, 0),
  (⟨"CordLoft$Reader", "readJoined", "(II)Z"⟩, prog_7_method_9_code, 5, some .boolean, 0, 0),
  (⟨"CordLoft$Reader", "readOne", "(I)Z"⟩, prog_7_method_11_code, 3, some .boolean, 0, 0),
  (⟨"CordLoft$Formula", "put", "(I)V"⟩, prog_4_method_4_code, 2, none, 0, 0),
  (⟨"CordLoft$Reader", "readUnit", "(I)Z"⟩, prog_7_method_12_code, 5, some .boolean, 0, 0),
  (⟨"CordLoft$Reader", "levelOf", "(I)I"⟩, prog_7_method_10_code, 1, some .int, 0, 0),
  (⟨"CordLoft$Plan", "settle", "()V"⟩, prog_6_method_7_code, 4, none, 0, 0),
  (⟨"CordLoft$Acts", "current", "()LCordLoft$State;"⟩, prog_2_method_2_code, 1, some (.object "CordLoft$State"), 0, 0),
  (⟨"CordLoft$State", "begin", "(LCordLoft$Plan;)V"⟩, prog_10_method_2_code, 2, none, 0, 0)]
def mtab_2 : List (MethodName × ByteArray × Nat × Option FieldType × Nat × Nat) := [(⟨"CordLoft$Acts", "forget", "()V"⟩, prog_2_method_4_code, 2, none, 0, 0),
  (⟨"CordLoft$Sight", "forget", "()V"⟩, prog_9_method_2_code, 1, none, 0, 0),
  (⟨"CordLoft$Paths", "clearRow", "()V"⟩, prog_5_method_2_code, 1, none, 0, 0),
  (⟨"CordLoft", "fault", "(I)I"⟩, prog_1_method_5_code, 2, some .int, 0, 0),
  (⟨"CordLoft", "either", "(III)I"⟩, prog_1_method_59_code, 3, some .int, 0, 0),
  (⟨"CordLoft", "lamp", "(II)I"⟩, prog_1_method_6_code, 3, some .int, 0, 0),
  (⟨"CordLoft$Plan", "hasLamp", "(I)Z"⟩, prog_6_method_8_code, 2, some .boolean, 0, 0),
  (⟨"CordLoft", "cord", "(II)I"⟩, prog_1_method_7_code, 3, some .int, 0, 0),
  (⟨"CordLoft$Plan", "hasCord", "(I)Z"⟩, prog_6_method_9_code, 2, some .boolean, 0, 0),
  (⟨"CordLoft", "picture", "()I"⟩, prog_1_method_8_code, 1, some .int, 0, 0),
  (⟨"CordLoft", "pull", "(I)I"⟩, prog_1_method_9_code, 4, some .int, 0, 0),
  (⟨"CordLoft", "isFree", "(I)Z"⟩, prog_1_method_62_code, 2, some .boolean, 0, 0),
  (⟨"java/lang/Integer", "bitCount", "(I)I"⟩, prog_16_method_49_code, 1, some .int, 0, 0),
  (⟨"CordLoft$Acts", "open", "()LCordLoft$State;"⟩, prog_2_method_3_code, 2, some (.object "CordLoft$State"), 0, 0),
  (⟨"CordLoft$Acts", "dropOldest", "()V"⟩, prog_2_method_7_code, 3, none, 0, 0),
  (⟨"CordLoft$State", "become", "(LCordLoft$State;)V"⟩, prog_10_method_3_code, 2, none, 0, 0),
  (⟨"CordLoft", "tie", "(I)I"⟩, prog_1_method_10_code, 3, some .int, 0, 0),
  (⟨"CordLoft", "loose", "(I)I"⟩, prog_1_method_11_code, 3, some .int, 0, 0),
  (⟨"CordLoft", "isTied", "(I)Z"⟩, prog_1_method_63_code, 2, some .boolean, 0, 0),
  (⟨"CordLoft", "dusk", "()I"⟩, prog_1_method_12_code, 2, some .int, 0, 0),
  (⟨"CordLoft$State", "passDusk", "(LCordLoft$Plan;Z)V"⟩, prog_10_method_4_code, 3, none, 0, 0),
  (⟨"CordLoft$Plan", "afterDusk", "(II)I"⟩, prog_6_method_15_code, 8, some .int, 0, 0),
  (⟨"CordLoft$Formula", "isEmpty", "()Z"⟩, prog_4_method_3_code, 1, some .boolean, 0, 0),
  (⟨"CordLoft$Plan", "duskWorth", "(IIII)I"⟩, prog_6_method_16_code, 5, some .int, 0, 0),
  (⟨"CordLoft$Formula", "give", "(II)V"⟩, prog_4_method_5_code, 4, none, 0, 0),
  (⟨"CordLoft$Formula", "worth", "()I"⟩, prog_4_method_6_code, 4, some .int, 0, 0),
  (⟨"CordLoft$Formula", "givenFor", "(I)I"⟩, prog_4_method_7_code, 3, some .int, 0, 0),
  (⟨"CordLoft$Formula", "join", "(III)I"⟩, prog_4_method_8_code, 3, some .int, 0, 0),
  (⟨"CordLoft", "undo", "()Z"⟩, prog_1_method_13_code, 1, some .boolean, 0, 0),
  (⟨"CordLoft$Acts", "takeBack", "()Z"⟩, prog_2_method_5_code, 1, some .boolean, 0, 0),
  (⟨"CordLoft", "redo", "()Z"⟩, prog_1_method_14_code, 1, some .boolean, 0, 0),
  (⟨"CordLoft$Acts", "takeAgain", "()Z"⟩, prog_2_method_6_code, 1, some .boolean, 0, 0),
  (⟨"CordLoft", "will", "(II)I"⟩, prog_1_method_15_code, 4, some .int, 0, 0),
  (⟨"CordLoft", "can", "(I)I"⟩, prog_1_method_16_code, 2, some .int, 0, 0),
  (⟨"CordLoft$Plan", "hasPicture", "(I)Z"⟩, prog_6_method_10_code, 2, some .boolean, 0, 0),
  (⟨"CordLoft$Plan", "allPictures", "()I"⟩, prog_6_method_11_code, 1, some .int, 0, 0),
  (⟨"CordLoft$Sets", "countFor", "(LCordLoft$Plan;LCordLoft$State;I)I"⟩, prog_8_method_2_code, 6, some .int, 0, 0),
  (⟨"CordLoft$Plan", "allCords", "()I"⟩, prog_6_method_12_code, 1, some .int, 0, 0),
  (⟨"CordLoft", "fewest", "(II)I"⟩, prog_1_method_17_code, 4, some .int, 0, 0),
  (⟨"CordLoft$Sets", "leastFor", "(LCordLoft$Plan;LCordLoft$State;I)I"⟩, prog_8_method_3_code, 5, some .int, 0, 0)]
def mtab_3 : List (MethodName × ByteArray × Nat × Option FieldType × Nat × Nat) := [(⟨"CordLoft$Best", "clear", "()V"⟩, prog_3_method_2_code, 1, none, 0, 0),
  (⟨"CordLoft$Best", "offer", "(II)V"⟩, prog_3_method_3_code, 3, none, 0, 0),
  (⟨"CordLoft", "cheapest", "(II)I"⟩, prog_1_method_18_code, 4, some .int, 0, 0),
  (⟨"CordLoft$Sets", "cheapestFor", "(LCordLoft$Plan;LCordLoft$State;I)I"⟩, prog_8_method_4_code, 5, some .int, 0, 0),
  (⟨"CordLoft$Plan", "priceOf", "(I)I"⟩, prog_6_method_14_code, 4, some .int, 0, 0),
  (⟨"CordLoft", "ways", "(I)I"⟩, prog_1_method_19_code, 2, some .int, 0, 0),
  (⟨"CordLoft", "silent", "(I)I"⟩, prog_1_method_20_code, 3, some .int, 0, 0),
  (⟨"CordLoft$Sets", "leastSilent", "(LCordLoft$Plan;LCordLoft$State;)I"⟩, prog_8_method_5_code, 4, some .int, 0, 0),
  (⟨"CordLoft", "pictures", "()I"⟩, prog_1_method_21_code, 1, some .int, 0, 0),
  (⟨"CordLoft", "freeCords", "()I"⟩, prog_1_method_61_code, 1, some .int, 0, 0),
  (⟨"CordLoft$Sets", "reach", "(LCordLoft$Plan;I)I"⟩, prog_8_method_11_code, 6, some .int, 0, 0),
  (⟨"CordLoft$Sets", "restOf", "(I)I"⟩, prog_8_method_13_code, 4, some .int, 0, 0),
  (⟨"java/lang/Integer", "numberOfTrailingZeros", "(I)I"⟩, prog_16_method_48_code, 2, some .int, 0, 0),
  (⟨"CordLoft", "spare", "()I"⟩, prog_1_method_22_code, 6, some .int, 0, 0),
  (⟨"CordLoft", "brightest", "(I)I"⟩, prog_1_method_23_code, 3, some .int, 0, 0),
  (⟨"CordLoft$Sets", "brightestPicture", "(LCordLoft$Plan;LCordLoft$State;)I"⟩, prog_8_method_6_code, 5, some .int, 0, 0),
  (⟨"CordLoft", "dimmest", "(I)I"⟩, prog_1_method_24_code, 3, some .int, 0, 0),
  (⟨"CordLoft$Sets", "dimmestPicture", "(LCordLoft$Plan;LCordLoft$State;)I"⟩, prog_8_method_7_code, 5, some .int, 0, 0),
  (⟨"CordLoft$Plan", "wattsOf", "(I)I"⟩, prog_6_method_13_code, 4, some .int, 0, 0),
  (⟨"CordLoft", "nearest", "(II)I"⟩, prog_1_method_25_code, 4, some .int, 0, 0),
  (⟨"CordLoft$Sets", "nearestPicture", "(LCordLoft$Plan;LCordLoft$State;I)I"⟩, prog_8_method_8_code, 6, some .int, 0, 0),
  (⟨"CordLoft", "apart", "(I)I"⟩, prog_1_method_26_code, 3, some .int, 0, 0),
  (⟨"CordLoft$Sets", "leastDifference", "(LCordLoft$Plan;LCordLoft$State;)I"⟩, prog_8_method_9_code, 5, some .int, 0, 0),
  (⟨"CordLoft", "mark", "(I)I"⟩, prog_1_method_27_code, 3, some .int, 0, 0),
  (⟨"CordLoft$Sets", "leastMark", "(LCordLoft$Plan;I)I"⟩, prog_8_method_10_code, 6, some .int, 0, 0),
  (⟨"CordLoft", "steady", "(I)I"⟩, prog_1_method_28_code, 2, some .int, 0, 0),
  (⟨"CordLoft$Paths", "spread", "(LCordLoft$Plan;LCordLoft$State;)V"⟩, prog_5_method_3_code, 6, none, 0, 0),
  (⟨"CordLoft$Paths", "come", "(III)V"⟩, prog_5_method_4_code, 4, none, 0, 0),
  (⟨"CordLoft$Paths", "layRow", "(I)I"⟩, prog_5_method_5_code, 5, some .int, 0, 0),
  (⟨"CordLoft", "rows", "(I)I"⟩, prog_1_method_29_code, 2, some .int, 0, 0),
  (⟨"CordLoft", "game", "(I)I"⟩, prog_1_method_30_code, 3, some .int, 0, 0),
  (⟨"CordLoft$Sets", "play", "(LCordLoft$Plan;LCordLoft$State;)I"⟩, prog_8_method_14_code, 5, some .int, 0, 0),
  (⟨"CordLoft$Sets", "valueBehind", "(LCordLoft$Plan;LCordLoft$State;I)I"⟩, prog_8_method_15_code, 7, some .int, 0, 0),
  (⟨"CordLoft", "again", "(I)I"⟩, prog_1_method_31_code, 4, some .int, 0, 0),
  (⟨"CordLoft", "pasts", "(I)I"⟩, prog_1_method_32_code, 6, some .int, 0, 0),
  (⟨"CordLoft", "still", "()I"⟩, prog_1_method_33_code, 4, some .int, 0, 0),
  (⟨"CordLoft", "knot", "(I)I"⟩, prog_1_method_34_code, 3, some .int, 0, 0),
  (⟨"CordLoft", "more", "(I)I"⟩, prog_1_method_35_code, 3, some .int, 0, 0),
  (⟨"CordLoft$Sets", "leastUnreached", "(LCordLoft$Plan;I)I"⟩, prog_8_method_12_code, 4, some .int, 0, 0),
  (⟨"CordLoft", "exchange", "(I)I"⟩, prog_1_method_36_code, 3, some .int, 0, 0)]
def mtab_4 : List (MethodName × ByteArray × Nat × Option FieldType × Nat × Nat) := [(⟨"CordLoft$Sets", "bestExchange", "(LCordLoft$Plan;LCordLoft$State;)I"⟩, prog_8_method_16_code, 8, some .int, 0, 0),
  (⟨"CordLoft$Sets", "leastExchanged", "(LCordLoft$Plan;III)I"⟩, prog_8_method_17_code, 10, some .int, 0, 0),
  (⟨"CordLoft", "loosen", "()I"⟩, prog_1_method_37_code, 1, some .int, 0, 0),
  (⟨"CordLoft$Sets", "bestLoosened", "(LCordLoft$Plan;I)I"⟩, prog_8_method_18_code, 5, some .int, 0, 0),
  (⟨"CordLoft", "boldest", "(I)I"⟩, prog_1_method_38_code, 4, some .int, 0, 0),
  (⟨"CordLoft$Sets", "brightestPull", "(LCordLoft$Plan;LCordLoft$State;)I"⟩, prog_8_method_19_code, 4, some .int, 0, 0),
  (⟨"CordLoft", "dearest", "()I"⟩, prog_1_method_39_code, 1, some .int, 0, 0),
  (⟨"CordLoft$Sets", "dearestOf", "(LCordLoft$Plan;I)I"⟩, prog_8_method_20_code, 4, some .int, 0, 0),
  (⟨"CordLoft", "odd", "()I"⟩, prog_1_method_40_code, 4, some .int, 0, 0),
  (⟨"CordLoft", "alike", "(I)I"⟩, prog_1_method_41_code, 2, some .int, 0, 0),
  (⟨"CordLoft", "lampsTurnedBy", "(I)I"⟩, prog_1_method_64_code, 5, some .int, 0, 0),
  (⟨"CordLoft", "alone", "()I"⟩, prog_1_method_42_code, 1, some .int, 0, 0),
  (⟨"CordLoft", "burning", "()I"⟩, prog_1_method_43_code, 1, some .int, 0, 0),
  (⟨"CordLoft", "load", "()I"⟩, prog_1_method_44_code, 1, some .int, 0, 0),
  (⟨"CordLoft", "longest", "()I"⟩, prog_1_method_45_code, 1, some .int, 0, 0),
  (⟨"CordLoft$Sets", "longestOf", "(LCordLoft$Plan;)I"⟩, prog_8_method_21_code, 3, some .int, 0, 0),
  (⟨"CordLoft", "law", "(I)I"⟩, prog_1_method_46_code, 5, some .int, 0, 0),
  (⟨"CordLoft", "odds", "(II)I"⟩, prog_1_method_47_code, 6, some .int, 0, 0),
  (⟨"CordLoft", "commonDivisor", "(II)I"⟩, prog_1_method_60_code, 6, some .int, 0, 0),
  (⟨"CordLoft", "lies", "(I)I"⟩, prog_1_method_48_code, 2, some .int, 0, 0),
  (⟨"CordLoft", "seen", "(IZ)I"⟩, prog_1_method_49_code, 3, some .int, 0, 0),
  (⟨"CordLoft$Sight", "tell", "(IZ)I"⟩, prog_9_method_3_code, 3, some .int, 0, 0),
  (⟨"CordLoft", "untell", "(I)Z"⟩, prog_1_method_50_code, 2, some .boolean, 0, 0),
  (⟨"CordLoft$Sight", "takeOut", "(I)Z"⟩, prog_9_method_4_code, 2, some .boolean, 0, 0),
  (⟨"CordLoft", "later", "(I)I"⟩, prog_1_method_51_code, 2, some .int, 0, 0),
  (⟨"CordLoft$Sight", "goOn", "(I)I"⟩, prog_9_method_5_code, 2, some .int, 0, 0),
  (⟨"CordLoft", "fits", "(I)I"⟩, prog_1_method_52_code, 2, some .int, 0, 0),
  (⟨"CordLoft$Sight", "recall", "(I)V"⟩, prog_9_method_6_code, 5, none, 0, 0),
  (⟨"CordLoft$Sight", "countFitting", "(LCordLoft$Plan;II)I"⟩, prog_9_method_8_code, 7, some .int, 0, 0),
  (⟨"CordLoft$Sight", "isFitting", "(LCordLoft$Plan;I)Z"⟩, prog_9_method_7_code, 4, some .boolean, 0, 0),
  (⟨"CordLoft", "fit", "(I)I"⟩, prog_1_method_53_code, 2, some .int, 0, 0),
  (⟨"CordLoft$Sight", "firstFitting", "(LCordLoft$Plan;)I"⟩, prog_9_method_9_code, 3, some .int, 0, 0),
  (⟨"CordLoft", "sure", "(II)I"⟩, prog_1_method_54_code, 3, some .int, 0, 0),
  (⟨"CordLoft$Sight", "certainty", "(LCordLoft$Plan;I)I"⟩, prog_9_method_10_code, 5, some .int, 0, 0),
  (⟨"CordLoft", "ask", "(II)I"⟩, prog_1_method_55_code, 4, some .int, 0, 0),
  (⟨"CordLoft$Sight", "bestQuestion", "(LCordLoft$Plan;)I"⟩, prog_9_method_11_code, 7, some .int, 0, 0),
  (⟨"CordLoft", "image", "(I)I"⟩, prog_1_method_56_code, 3, some .int, 0, 0),
  (⟨"CordLoft", "back", "(I)I"⟩, prog_1_method_57_code, 3, some .int, 0, 0),
  (⟨"CordLoft", "about", "(I)I"⟩, prog_1_method_58_code, 3, some .int, 0, 0),
  (⟨"CordLoftModel", "<init>", "()V"⟩, prog_14_method_1_code, 1, none, 32, 5325)]
def mtab_5 : List (MethodName × ByteArray × Nat × Option FieldType × Nat × Nat) := [(⟨"CordLoftModel", "feed", "(IIIII)I"⟩, prog_14_method_2_code, 6, some .int, 0, 0),
  (⟨"CordLoftModel", "four", "(I)V"⟩, prog_14_method_3_code, 3, none, 0, 0),
  (⟨"CordLoftModel", "end", "(I)I"⟩, prog_14_method_4_code, 2, some .int, 0, 0),
  (⟨"CordLoftModel", "loft", "()I"⟩, prog_14_method_47_code, 2, some .int, 0, 0),
  (⟨"CordLoftModel", "readAll", "()V"⟩, prog_14_method_46_code, 1, none, 0, 0),
  (⟨"CordLoftModel", "token", "()V"⟩, prog_14_method_9_code, 3, none, 0, 0),
  (⟨"CordLoftModel", "here", "(I)I"⟩, prog_14_method_5_code, 2, some .int, 0, 0),
  (⟨"CordLoftModel", "isLetter", "(I)Z"⟩, prog_14_method_6_code, 1, some .boolean, 0, 0),
  (⟨"CordLoftModel", "isDigit", "(I)Z"⟩, prog_14_method_7_code, 1, some .boolean, 0, 0),
  (⟨"CordLoftModel", "isSign", "(I)Z"⟩, prog_14_method_8_code, 1, some .boolean, 0, 0),
  (⟨"CordLoftModel", "readLine", "()V"⟩, prog_14_method_45_code, 1, none, 0, 0),
  (⟨"CordLoftModel", "isWord", "(J)Z"⟩, prog_14_method_11_code, 3, some .boolean, 0, 0),
  (⟨"CordLoftModel", "readLamp", "()V"⟩, prog_14_method_41_code, 1, none, 0, 0),
  (⟨"CordLoftModel", "newName", "(II)V"⟩, prog_14_method_19_code, 3, none, 0, 0),
  (⟨"CordLoftModel", "isName", "()Z"⟩, prog_14_method_13_code, 1, some .boolean, 0, 0),
  (⟨"CordLoftModel", "isOwn", "()Z"⟩, prog_14_method_12_code, 1, some .boolean, 0, 0),
  (⟨"CordLoftModel", "wrong", "(I)V"⟩, prog_14_method_10_code, 2, none, 0, 0),
  (⟨"CordLoftModel", "find", "(II)I"⟩, prog_14_method_18_code, 5, some .int, 0, 0),
  (⟨"CordLoftModel", "mayTell", "(JI)I"⟩, prog_14_method_17_code, 4, some .int, 0, 0),
  (⟨"CordLoftModel", "told", "(JII)I"⟩, prog_14_method_16_code, 5, some .int, 0, 0),
  (⟨"CordLoftModel", "want", "(J)V"⟩, prog_14_method_14_code, 3, none, 0, 0),
  (⟨"CordLoftModel", "toldNumber", "(II)I"⟩, prog_14_method_15_code, 4, some .int, 0, 0),
  (⟨"CordLoftModel", "readCord", "()V"⟩, prog_14_method_43_code, 1, none, 0, 0),
  (⟨"CordLoftModel", "readTurned", "()V"⟩, prog_14_method_42_code, 2, none, 0, 0),
  (⟨"CordLoftModel", "oldLamp", "()I"⟩, prog_14_method_20_code, 1, some .int, 0, 0),
  (⟨"CordLoftModel", "has", "(II)Z"⟩, prog_14_method_38_code, 2, some .boolean, 0, 0),
  (⟨"CordLoftModel", "readNext", "()V"⟩, prog_14_method_44_code, 3, none, 0, 0),
  (⟨"CordLoftModel", "formula", "()V"⟩, prog_14_method_33_code, 3, none, 0, 0),
  (⟨"CordLoftModel", "unit", "()V"⟩, prog_14_method_30_code, 3, none, 0, 0),
  (⟨"CordLoftModel", "mayNot", "()Z"⟩, prog_14_method_25_code, 1, some .boolean, 0, 0),
  (⟨"CordLoftModel", "tight", "(I)I"⟩, prog_14_method_22_code, 1, some .int, 0, 0),
  (⟨"CordLoftModel", "openUp", "(I)V"⟩, prog_14_method_29_code, 2, none, 0, 0),
  (⟨"CordLoftModel", "isFull", "()Z"⟩, prog_14_method_27_code, 1, some .boolean, 0, 0),
  (⟨"CordLoftModel", "countUnit", "()V"⟩, prog_14_method_28_code, 1, none, 0, 0),
  (⟨"CordLoftModel", "asked", "()I"⟩, prog_14_method_26_code, 1, some .int, 0, 0),
  (⟨"CordLoftModel", "add", "(II)V"⟩, prog_14_method_21_code, 3, none, 0, 0),
  (⟨"CordLoftModel", "sign", "()I"⟩, prog_14_method_31_code, 1, some .int, 0, 0),
  (⟨"CordLoftModel", "hasBracket", "()Z"⟩, prog_14_method_32_code, 3, some .boolean, 0, 0),
  (⟨"CordLoftModel", "close", "(I)V"⟩, prog_14_method_23_code, 2, none, 0, 0),
  (⟨"CordLoftModel", "hasRelation", "()Z"⟩, prog_14_method_24_code, 2, some .boolean, 0, 0)]
def mtab_6 : List (MethodName × ByteArray × Nat × Option FieldType × Nat × Nat) := [(⟨"CordLoftModel", "fault", "(I)I"⟩, prog_14_method_48_code, 2, some .int, 0, 0),
  (⟨"CordLoftModel", "lamp", "(II)I"⟩, prog_14_method_56_code, 3, some .int, 0, 0),
  (⟨"CordLoftModel", "isLamp", "(I)Z"⟩, prog_14_method_50_code, 2, some .boolean, 0, 0),
  (⟨"CordLoftModel", "isIn", "(III)Z"⟩, prog_14_method_49_code, 3, some .boolean, 0, 0),
  (⟨"CordLoftModel", "cordsOf", "(I)I"⟩, prog_14_method_53_code, 4, some .int, 0, 0),
  (⟨"CordLoftModel", "cord", "(II)I"⟩, prog_14_method_57_code, 3, some .int, 0, 0),
  (⟨"CordLoftModel", "isCord", "(I)Z"⟩, prog_14_method_51_code, 2, some .boolean, 0, 0),
  (⟨"CordLoftModel", "picture", "()I"⟩, prog_14_method_58_code, 1, some .int, 0, 0),
  (⟨"CordLoftModel", "pull", "(I)I"⟩, prog_14_method_61_code, 2, some .int, 0, 0),
  (⟨"CordLoftModel", "isTied", "(I)Z"⟩, prog_14_method_54_code, 2, some .boolean, 0, 0),
  (⟨"CordLoftModel", "members", "(I)I"⟩, prog_14_method_37_code, 3, some .int, 0, 0),
  (⟨"CordLoftModel", "act", "()V"⟩, prog_14_method_59_code, 2, none, 0, 0),
  (⟨"CordLoftModel", "tie", "(I)I"⟩, prog_14_method_63_code, 2, some .int, 0, 0),
  (⟨"CordLoftModel", "turnTie", "(I)I"⟩, prog_14_method_62_code, 2, some .int, 0, 0),
  (⟨"CordLoftModel", "loose", "(I)I"⟩, prog_14_method_64_code, 2, some .int, 0, 0),
  (⟨"CordLoftModel", "dusk", "()I"⟩, prog_14_method_66_code, 1, some .int, 0, 0),
  (⟨"CordLoftModel", "gustyDusk", "(II)I"⟩, prog_14_method_65_code, 4, some .int, 0, 0),
  (⟨"CordLoftModel", "duskOf", "(II)I"⟩, prog_14_method_40_code, 5, some .int, 0, 0),
  (⟨"CordLoftModel", "turnsAt", "(III)Z"⟩, prog_14_method_39_code, 6, some .boolean, 0, 0),
  (⟨"CordLoftModel", "truth", "(Z)I"⟩, prog_14_method_34_code, 1, some .int, 0, 0),
  (⟨"CordLoftModel", "done", "(III)I"⟩, prog_14_method_35_code, 3, some .int, 0, 0),
  (⟨"CordLoftModel", "undo", "()Z"⟩, prog_14_method_67_code, 1, some .boolean, 0, 0),
  (⟨"CordLoftModel", "exchangeAt", "(I)V"⟩, prog_14_method_60_code, 4, none, 0, 0),
  (⟨"CordLoftModel", "redo", "()Z"⟩, prog_14_method_68_code, 1, some .boolean, 0, 0),
  (⟨"CordLoftModel", "will", "(II)I"⟩, prog_14_method_69_code, 5, some .int, 0, 0),
  (⟨"CordLoftModel", "can", "(I)I"⟩, prog_14_method_74_code, 2, some .int, 0, 0),
  (⟨"CordLoftModel", "isPicture", "(I)Z"⟩, prog_14_method_52_code, 2, some .boolean, 0, 0),
  (⟨"CordLoftModel", "waysTo", "(I)I"⟩, prog_14_method_73_code, 4, some .int, 0, 0),
  (⟨"CordLoftModel", "free", "()I"⟩, prog_14_method_55_code, 1, some .int, 0, 0),
  (⟨"CordLoftModel", "isWithin", "(II)Z"⟩, prog_14_method_72_code, 2, some .boolean, 0, 0),
  (⟨"CordLoftModel", "turnedBy", "(I)I"⟩, prog_14_method_70_code, 4, some .int, 0, 0),
  (⟨"CordLoftModel", "ways", "(I)I"⟩, prog_14_method_75_code, 2, some .int, 0, 0),
  (⟨"CordLoftModel", "fewest", "(II)I"⟩, prog_14_method_77_code, 4, some .int, 0, 0),
  (⟨"CordLoftModel", "fewestFor", "(IZ)I"⟩, prog_14_method_76_code, 5, some .int, 0, 0),
  (⟨"CordLoftModel", "cheapest", "(II)I"⟩, prog_14_method_79_code, 4, some .int, 0, 0),
  (⟨"CordLoftModel", "cheapestFor", "(I)I"⟩, prog_14_method_78_code, 4, some .int, 0, 0),
  (⟨"CordLoftModel", "costOf", "(I)I"⟩, prog_14_method_71_code, 4, some .int, 0, 0),
  (⟨"CordLoftModel", "silent", "(I)I"⟩, prog_14_method_80_code, 3, some .int, 0, 0),
  (⟨"CordLoftModel", "pictures", "()I"⟩, prog_14_method_82_code, 1, some .int, 0, 0),
  (⟨"CordLoftModel", "layPictures", "(II)I"⟩, prog_14_method_81_code, 5, some .int, 0, 0)]
def mtab_7 : List (MethodName × ByteArray × Nat × Option FieldType × Nat × Nat) := [(⟨"CordLoftModel", "spare", "()I"⟩, prog_14_method_84_code, 4, some .int, 0, 0),
  (⟨"CordLoftModel", "without", "(I)I"⟩, prog_14_method_83_code, 2, some .int, 0, 0),
  (⟨"CordLoftModel", "knot", "(I)I"⟩, prog_14_method_85_code, 2, some .int, 0, 0),
  (⟨"CordLoftModel", "brightest", "(I)I"⟩, prog_14_method_86_code, 4, some .int, 0, 0),
  (⟨"CordLoftModel", "dimmest", "(I)I"⟩, prog_14_method_88_code, 4, some .int, 0, 0),
  (⟨"CordLoftModel", "wattsOf", "(I)I"⟩, prog_14_method_87_code, 4, some .int, 0, 0),
  (⟨"CordLoftModel", "nearest", "(II)I"⟩, prog_14_method_89_code, 5, some .int, 0, 0),
  (⟨"CordLoftModel", "apart", "(I)I"⟩, prog_14_method_90_code, 4, some .int, 0, 0),
  (⟨"CordLoftModel", "mark", "(I)I"⟩, prog_14_method_91_code, 6, some .int, 0, 0),
  (⟨"CordLoftModel", "steady", "(I)I"⟩, prog_14_method_93_code, 4, some .int, 0, 0),
  (⟨"CordLoftModel", "layFar", "(I)V"⟩, prog_14_method_92_code, 6, none, 0, 0),
  (⟨"CordLoftModel", "rows", "(I)I"⟩, prog_14_method_94_code, 2, some .int, 0, 0),
  (⟨"CordLoftModel", "game", "(I)I"⟩, prog_14_method_96_code, 2, some .int, 0, 0),
  (⟨"CordLoftModel", "layGame", "()V"⟩, prog_14_method_95_code, 6, none, 0, 0),
  (⟨"CordLoftModel", "again", "(I)I"⟩, prog_14_method_97_code, 4, some .int, 0, 0),
  (⟨"CordLoftModel", "pasts", "(I)I"⟩, prog_14_method_98_code, 5, some .int, 0, 0),
  (⟨"CordLoftModel", "still", "()I"⟩, prog_14_method_99_code, 3, some .int, 0, 0),
  (⟨"CordLoftModel", "more", "(I)I"⟩, prog_14_method_100_code, 6, some .int, 0, 0),
  (⟨"CordLoftModel", "exchange", "(I)I"⟩, prog_14_method_103_code, 8, some .int, 0, 0),
  (⟨"CordLoftModel", "darkCost", "()I"⟩, prog_14_method_102_code, 2, some .int, 0, 0),
  (⟨"CordLoftModel", "exchangeCosts", "(II)V"⟩, prog_14_method_101_code, 4, none, 0, 0),
  (⟨"CordLoftModel", "loosen", "()I"⟩, prog_14_method_104_code, 5, some .int, 0, 0),
  (⟨"CordLoftModel", "boldest", "(I)I"⟩, prog_14_method_105_code, 6, some .int, 0, 0),
  (⟨"CordLoftModel", "alike", "(I)I"⟩, prog_14_method_106_code, 4, some .int, 0, 0),
  (⟨"CordLoftModel", "alone", "()I"⟩, prog_14_method_107_code, 3, some .int, 0, 0),
  (⟨"CordLoftModel", "burning", "()I"⟩, prog_14_method_108_code, 1, some .int, 0, 0),
  (⟨"CordLoftModel", "load", "()I"⟩, prog_14_method_109_code, 1, some .int, 0, 0),
  (⟨"CordLoftModel", "longest", "()I"⟩, prog_14_method_110_code, 3, some .int, 0, 0),
  (⟨"CordLoftModel", "dearest", "()I"⟩, prog_14_method_111_code, 3, some .int, 0, 0),
  (⟨"CordLoftModel", "odd", "()I"⟩, prog_14_method_112_code, 3, some .int, 0, 0),
  (⟨"CordLoftModel", "law", "(I)I"⟩, prog_14_method_113_code, 4, some .int, 0, 0),
  (⟨"CordLoftModel", "odds", "(II)I"⟩, prog_14_method_116_code, 6, some .int, 0, 0),
  (⟨"CordLoftModel", "power", "(II)I"⟩, prog_14_method_114_code, 4, some .int, 0, 0),
  (⟨"CordLoftModel", "divisor", "(II)I"⟩, prog_14_method_115_code, 5, some .int, 0, 0),
  (⟨"CordLoftModel", "lies", "(I)I"⟩, prog_14_method_117_code, 2, some .int, 0, 0),
  (⟨"CordLoftModel", "seen", "(IZ)I"⟩, prog_14_method_118_code, 3, some .int, 0, 0),
  (⟨"CordLoftModel", "untell", "(I)Z"⟩, prog_14_method_119_code, 2, some .boolean, 0, 0),
  (⟨"CordLoftModel", "later", "(I)I"⟩, prog_14_method_120_code, 2, some .int, 0, 0),
  (⟨"CordLoftModel", "fits", "(I)I"⟩, prog_14_method_122_code, 4, some .int, 0, 0),
  (⟨"CordLoftModel", "fitsSet", "(II)Z"⟩, prog_14_method_121_code, 6, some .boolean, 0, 0)]
def mtab_8 : List (MethodName × ByteArray × Nat × Option FieldType × Nat × Nat) := [(⟨"CordLoftModel", "fit", "(I)I"⟩, prog_14_method_123_code, 3, some .int, 0, 0),
  (⟨"CordLoftModel", "sure", "(II)I"⟩, prog_14_method_124_code, 6, some .int, 0, 0),
  (⟨"CordLoftModel", "ask", "(II)I"⟩, prog_14_method_126_code, 6, some .int, 0, 0),
  (⟨"CordLoftModel", "leftBy", "(III)I"⟩, prog_14_method_125_code, 6, some .int, 0, 0),
  (⟨"CordLoftModel", "greater", "(II)I"⟩, prog_14_method_36_code, 2, some .int, 0, 0),
  (⟨"CordLoftModel", "image", "(I)I"⟩, prog_14_method_128_code, 3, some .int, 0, 0),
  (⟨"CordLoftModel", "isBox", "(I)Z"⟩, prog_14_method_127_code, 1, some .boolean, 0, 0),
  (⟨"CordLoftModel", "back", "(I)I"⟩, prog_14_method_129_code, 3, some .int, 0, 0),
  (⟨"CordLoftModel", "about", "(I)I"⟩, prog_14_method_130_code, 2, some .int, 0, 0),
  (⟨"CordLoftLaw", "law", "([I)Z"⟩, code, 4, some .boolean, 138, 16611)]
def mtab : List (MethodName × ByteArray × Nat × Option FieldType × Nat × Nat) := mtab_0 ++ (mtab_1 ++ (mtab_2 ++ (mtab_3 ++ (mtab_4 ++ (mtab_5 ++ (mtab_6 ++ (mtab_7 ++ (mtab_8))))))))
def mtd : MethodName × ByteArray × Nat × Option FieldType × Nat × Nat := (⟨"", "", ""⟩, ⟨#[]⟩, 0, none, 0, 0)
def mN (m : Nat) : MethodName := (mtab.getD m mtd).1
def mC (m : Nat) : ByteArray := (mtab.getD m mtd).2.1
def mL (m : Nat) : Nat := (mtab.getD m mtd).2.2.1
def mR (m : Nat) : Option FieldType := (mtab.getD m mtd).2.2.2.1
def mcT (m : Nat) : Nat := (mtab.getD m mtd).2.2.2.2.1
def msT (m : Nat) : Nat := (mtab.getD m mtd).2.2.2.2.2
def shp : List (Nat × Nat) := [(12, 15), (10, 2), (22, 1600), (11, 9), (20, 1601), (20, 1601), (21, 1601), (6, 6), (5, 17), (21, 8), (20, 8), (20, 8), (20, 8), (21, 8), (20, 8), (20, 8), (20, 256), (3, 5), (20, 270), (20, 31), (20, 6), (20, 128), (23, 128), (5, 17), (21, 8), (20, 8), (20, 8), (20, 8), (21, 8), (20, 8), (20, 8), (20, 256), (3, 5), (20, 270), (20, 31), (20, 6), (20, 128), (23, 128), (1, 3), (24, 41), (9, 5), (9, 5), (9, 5), (9, 5), (9, 5), (9, 5), (9, 5), (9, 5), (9, 5), (9, 5), (9, 5), (9, 5), (9, 5), (9, 5), (9, 5), (9, 5), (9, 5), (9, 5), (9, 5), (9, 5), (9, 5), (9, 5), (9, 5), (9, 5), (9, 5), (9, 5), (9, 5), (9, 5), (9, 5), (9, 5), (9, 5), (9, 5), (9, 5), (9, 5), (9, 5), (9, 5), (9, 5), (9, 5), (9, 5), (9, 5), (9, 5), (9, 5), (24, 3), (9, 5), (9, 5), (9, 5), (7, 7), (2, 2), (20, 256), (20, 256), (20, 256), (20, 8), (4, 8), (20, 256), (20, 256), (20, 256), (20, 256), (20, 256), (20, 256), (8, 9), (20, 30), (23, 30), (20, 30), (20, 30), (20, 256), (13, 71), (20, 1600), (21, 16), (20, 320), (20, 320), (20, 320), (20, 320), (20, 160), (20, 64), (20, 6), (20, 8), (20, 8), (20, 8), (20, 8), (20, 8), (20, 8), (20, 8), (20, 8), (20, 5), (20, 200), (23, 256), (20, 256), (20, 256), (20, 256), (20, 256), (20, 256), (20, 256), (20, 30), (20, 30), (20, 30), (23, 30), (23, 3), (20, 15)]
