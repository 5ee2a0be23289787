-- ===== PART A: goes FIRST, ahead of the names: the tables' words, and 'selects' of the private methods out of them =====
/-- a private method of a class that the tables say can be made, by its rows of tables_1 -/
def lw_okq (q : MethodName × Nat) : Prop := (q.1.cls ≠ "java/lang/invoke/MethodHandle" ∧ q.1.cls ≠ "java/lang/invoke/VarHandle") ∧ Cond.instantiable q.1.cls q.2 ∈ tables_1 ∧ Cond.privateMethod q.1 ∈ tables_1 ∧ Cond.instanceMethod q.1 ∈ tables_1
theorem lw_p0 : lw_okq (⟨"TenPledges$Teller", "start", "([BILTenPledges$Town;)V"⟩, 15) := ⟨⟨by decide +kernel, by decide +kernel⟩, List.mem_of_getElem? (i := 104) (by decide +kernel), List.mem_of_getElem? (i := 286) (by decide +kernel), List.mem_of_getElem? (i := 287) (by decide +kernel)⟩
theorem lw_p1 : lw_okq (⟨"TenPledges$Teller", "nextToken", "()Z"⟩, 15) := ⟨⟨by decide +kernel, by decide +kernel⟩, List.mem_of_getElem? (i := 104) (by decide +kernel), List.mem_of_getElem? (i := 294) (by decide +kernel), List.mem_of_getElem? (i := 295) (by decide +kernel)⟩
theorem lw_p2 : lw_okq (⟨"TenPledges$Teller", "pass", "(CC)V"⟩, 15) := ⟨⟨by decide +kernel, by decide +kernel⟩, List.mem_of_getElem? (i := 104) (by decide +kernel), List.mem_of_getElem? (i := 301) (by decide +kernel), List.mem_of_getElem? (i := 302) (by decide +kernel)⟩
theorem lw_p3 : lw_okq (⟨"TenPledges$Teller", "takeFigures", "()Z"⟩, 15) := ⟨⟨by decide +kernel, by decide +kernel⟩, List.mem_of_getElem? (i := 104) (by decide +kernel), List.mem_of_getElem? (i := 305) (by decide +kernel), List.mem_of_getElem? (i := 306) (by decide +kernel)⟩
theorem lw_p4 : lw_okq (⟨"TenPledges$Teller", "refuse", "(II)Z"⟩, 15) := ⟨⟨by decide +kernel, by decide +kernel⟩, List.mem_of_getElem? (i := 104) (by decide +kernel), List.mem_of_getElem? (i := 309) (by decide +kernel), List.mem_of_getElem? (i := 310) (by decide +kernel)⟩
theorem lw_p5 : lw_okq (⟨"TenPledges$Teller", "agrees", "()Z"⟩, 15) := ⟨⟨by decide +kernel, by decide +kernel⟩, List.mem_of_getElem? (i := 104) (by decide +kernel), List.mem_of_getElem? (i := 313) (by decide +kernel), List.mem_of_getElem? (i := 314) (by decide +kernel)⟩
theorem lw_p6 : lw_okq (⟨"TenPledges$Teller", "takeLine", "()Z"⟩, 15) := ⟨⟨by decide +kernel, by decide +kernel⟩, List.mem_of_getElem? (i := 104) (by decide +kernel), List.mem_of_getElem? (i := 335) (by decide +kernel), List.mem_of_getElem? (i := 336) (by decide +kernel)⟩
theorem lw_p7 : lw_okq (⟨"TenPledges$Teller", "wordHere", "()I"⟩, 15) := ⟨⟨by decide +kernel, by decide +kernel⟩, List.mem_of_getElem? (i := 104) (by decide +kernel), List.mem_of_getElem? (i := 339) (by decide +kernel), List.mem_of_getElem? (i := 340) (by decide +kernel)⟩
theorem lw_p8 : lw_okq (⟨"TenPledges$Teller", "isHere", "(Ljava/lang/String;)Z"⟩, 15) := ⟨⟨by decide +kernel, by decide +kernel⟩, List.mem_of_getElem? (i := 104) (by decide +kernel), List.mem_of_getElem? (i := 354) (by decide +kernel), List.mem_of_getElem? (i := 355) (by decide +kernel)⟩
theorem lw_p9 : lw_okq (⟨"TenPledges$Teller", "takeNumber", "(II)Z"⟩, 15) := ⟨⟨by decide +kernel, by decide +kernel⟩, List.mem_of_getElem? (i := 104) (by decide +kernel), List.mem_of_getElem? (i := 408) (by decide +kernel), List.mem_of_getElem? (i := 409) (by decide +kernel)⟩
theorem lw_p10 : lw_okq (⟨"TenPledges$Teller", "putDown", "(I)V"⟩, 15) := ⟨⟨by decide +kernel, by decide +kernel⟩, List.mem_of_getElem? (i := 104) (by decide +kernel), List.mem_of_getElem? (i := 419) (by decide +kernel), List.mem_of_getElem? (i := 420) (by decide +kernel)⟩
theorem lw_p11 : lw_okq (⟨"TenPledges", "refusalInTen", "(I)I"⟩, 12) := ⟨⟨by decide +kernel, by decide +kernel⟩, List.mem_of_getElem? (i := 15) (by decide +kernel), List.mem_of_getElem? (i := 515) (by decide +kernel), List.mem_of_getElem? (i := 516) (by decide +kernel)⟩
theorem lw_p12 : lw_okq (⟨"TenPledges", "isPair", "(II)Z"⟩, 12) := ⟨⟨by decide +kernel, by decide +kernel⟩, List.mem_of_getElem? (i := 15) (by decide +kernel), List.mem_of_getElem? (i := 527) (by decide +kernel), List.mem_of_getElem? (i := 528) (by decide +kernel)⟩
theorem lw_p13 : lw_okq (⟨"TenPledges", "finesOnTrial", "(II)I"⟩, 12) := ⟨⟨by decide +kernel, by decide +kernel⟩, List.mem_of_getElem? (i := 15) (by decide +kernel), List.mem_of_getElem? (i := 598) (by decide +kernel), List.mem_of_getElem? (i := 599) (by decide +kernel)⟩
theorem lw_p14 : lw_okq (⟨"TenPledges$Putting", "seatFrom", "(I)V"⟩, 6) := ⟨⟨by decide +kernel, by decide +kernel⟩, List.mem_of_getElem? (i := 161) (by decide +kernel), List.mem_of_getElem? (i := 646) (by decide +kernel), List.mem_of_getElem? (i := 647) (by decide +kernel)⟩
theorem lw_p15 : lw_okq (⟨"TenPledges$Putting", "atLeastHarm", "(I)I"⟩, 6) := ⟨⟨by decide +kernel, by decide +kernel⟩, List.mem_of_getElem? (i := 161) (by decide +kernel), List.mem_of_getElem? (i := 650) (by decide +kernel), List.mem_of_getElem? (i := 651) (by decide +kernel)⟩
def lw_privs_1 : List (MethodName × Nat) := [(⟨"TenPledges$Teller", "start", "([BILTenPledges$Town;)V"⟩, 15), (⟨"TenPledges$Teller", "nextToken", "()Z"⟩, 15), (⟨"TenPledges$Teller", "pass", "(CC)V"⟩, 15), (⟨"TenPledges$Teller", "takeFigures", "()Z"⟩, 15), (⟨"TenPledges$Teller", "refuse", "(II)Z"⟩, 15), (⟨"TenPledges$Teller", "agrees", "()Z"⟩, 15), (⟨"TenPledges$Teller", "takeLine", "()Z"⟩, 15), (⟨"TenPledges$Teller", "wordHere", "()I"⟩, 15), (⟨"TenPledges$Teller", "isHere", "(Ljava/lang/String;)Z"⟩, 15), (⟨"TenPledges$Teller", "takeNumber", "(II)Z"⟩, 15), (⟨"TenPledges$Teller", "putDown", "(I)V"⟩, 15), (⟨"TenPledges", "refusalInTen", "(I)I"⟩, 12), (⟨"TenPledges", "isPair", "(II)Z"⟩, 12), (⟨"TenPledges", "finesOnTrial", "(II)I"⟩, 12), (⟨"TenPledges$Putting", "seatFrom", "(I)V"⟩, 6), (⟨"TenPledges$Putting", "atLeastHarm", "(I)I"⟩, 6)]
theorem lw_r1 : ∀ q ∈ lw_privs_1, lw_okq q := List.forall_mem_cons.mpr ⟨lw_p0, List.forall_mem_cons.mpr ⟨lw_p1, List.forall_mem_cons.mpr ⟨lw_p2, List.forall_mem_cons.mpr ⟨lw_p3, List.forall_mem_cons.mpr ⟨lw_p4, List.forall_mem_cons.mpr ⟨lw_p5, List.forall_mem_cons.mpr ⟨lw_p6, List.forall_mem_cons.mpr ⟨lw_p7, List.forall_mem_cons.mpr ⟨lw_p8, List.forall_mem_cons.mpr ⟨lw_p9, List.forall_mem_cons.mpr ⟨lw_p10, List.forall_mem_cons.mpr ⟨lw_p11, List.forall_mem_cons.mpr ⟨lw_p12, List.forall_mem_cons.mpr ⟨lw_p13, List.forall_mem_cons.mpr ⟨lw_p14, List.forall_mem_cons.mpr ⟨lw_p15, fun _ h => absurd h List.not_mem_nil⟩⟩⟩⟩⟩⟩⟩⟩⟩⟩⟩⟩⟩⟩⟩⟩
theorem lw_p16 : lw_okq (⟨"TenPledges$Putting", "fewestRough", "()I"⟩, 6) := ⟨⟨by decide +kernel, by decide +kernel⟩, List.mem_of_getElem? (i := 161) (by decide +kernel), List.mem_of_getElem? (i := 654) (by decide +kernel), List.mem_of_getElem? (i := 655) (by decide +kernel)⟩
theorem lw_p17 : lw_okq (⟨"TenPledges$Putting", "takeIt", "(I)V"⟩, 6) := ⟨⟨by decide +kernel, by decide +kernel⟩, List.mem_of_getElem? (i := 161) (by decide +kernel), List.mem_of_getElem? (i := 662) (by decide +kernel), List.mem_of_getElem? (i := 663) (by decide +kernel)⟩
theorem lw_p18 : lw_okq (⟨"TenPledges$Putting", "isLikeEarlier", "(I)Z"⟩, 6) := ⟨⟨by decide +kernel, by decide +kernel⟩, List.mem_of_getElem? (i := 161) (by decide +kernel), List.mem_of_getElem? (i := 666) (by decide +kernel), List.mem_of_getElem? (i := 667) (by decide +kernel)⟩
theorem lw_p19 : lw_okq (⟨"TenPledges", "harmBySwap", "(II)I"⟩, 12) := ⟨⟨by decide +kernel, by decide +kernel⟩, List.mem_of_getElem? (i := 15) (by decide +kernel), List.mem_of_getElem? (i := 674) (by decide +kernel), List.mem_of_getElem? (i := 675) (by decide +kernel)⟩
theorem lw_p20 : lw_okq (⟨"TenPledges$Fitting", "addSet", "(II)V"⟩, 5) := ⟨⟨by decide +kernel, by decide +kernel⟩, List.mem_of_getElem? (i := 188) (by decide +kernel), List.mem_of_getElem? (i := 731) (by decide +kernel), List.mem_of_getElem? (i := 732) (by decide +kernel)⟩
theorem lw_p21 : lw_okq (⟨"TenPledgesModel", "firstDraft", "()V"⟩, 26) := ⟨⟨by decide +kernel, by decide +kernel⟩, List.mem_of_getElem? (i := 790) (by decide +kernel), List.mem_of_getElem? (i := 796) (by decide +kernel), List.mem_of_getElem? (i := 797) (by decide +kernel)⟩
theorem lw_p22 : lw_okq (⟨"TenPledgesModel", "keepDraft", "()V"⟩, 26) := ⟨⟨by decide +kernel, by decide +kernel⟩, List.mem_of_getElem? (i := 790) (by decide +kernel), List.mem_of_getElem? (i := 800) (by decide +kernel), List.mem_of_getElem? (i := 801) (by decide +kernel)⟩
theorem lw_p23 : lw_okq (⟨"TenPledgesModel", "next", "()V"⟩, 26) := ⟨⟨by decide +kernel, by decide +kernel⟩, List.mem_of_getElem? (i := 790) (by decide +kernel), List.mem_of_getElem? (i := 899) (by decide +kernel), List.mem_of_getElem? (i := 900) (by decide +kernel)⟩
theorem lw_p24 : lw_okq (⟨"TenPledgesModel", "byteAt", "(I)I"⟩, 26) := ⟨⟨by decide +kernel, by decide +kernel⟩, List.mem_of_getElem? (i := 790) (by decide +kernel), List.mem_of_getElem? (i := 903) (by decide +kernel), List.mem_of_getElem? (i := 904) (by decide +kernel)⟩
theorem lw_p25 : lw_okq (⟨"TenPledgesModel", "needs", "(ZI)V"⟩, 26) := ⟨⟨by decide +kernel, by decide +kernel⟩, List.mem_of_getElem? (i := 790) (by decide +kernel), List.mem_of_getElem? (i := 911) (by decide +kernel), List.mem_of_getElem? (i := 912) (by decide +kernel)⟩
theorem lw_p26 : lw_okq (⟨"TenPledgesModel", "readLine", "()V"⟩, 26) := ⟨⟨by decide +kernel, by decide +kernel⟩, List.mem_of_getElem? (i := 790) (by decide +kernel), List.mem_of_getElem? (i := 915) (by decide +kernel), List.mem_of_getElem? (i := 916) (by decide +kernel)⟩
theorem lw_p27 : lw_okq (⟨"TenPledgesModel", "lineNow", "()I"⟩, 26) := ⟨⟨by decide +kernel, by decide +kernel⟩, List.mem_of_getElem? (i := 790) (by decide +kernel), List.mem_of_getElem? (i := 919) (by decide +kernel), List.mem_of_getElem? (i := 920) (by decide +kernel)⟩
theorem lw_p28 : lw_okq (⟨"TenPledgesModel", "is", "(IIIII)Z"⟩, 26) := ⟨⟨by decide +kernel, by decide +kernel⟩, List.mem_of_getElem? (i := 790) (by decide +kernel), List.mem_of_getElem? (i := 923) (by decide +kernel), List.mem_of_getElem? (i := 924) (by decide +kernel)⟩
theorem lw_p29 : lw_okq (⟨"TenPledgesModel", "ends", "(III)Z"⟩, 26) := ⟨⟨by decide +kernel, by decide +kernel⟩, List.mem_of_getElem? (i := 790) (by decide +kernel), List.mem_of_getElem? (i := 927) (by decide +kernel), List.mem_of_getElem? (i := 928) (by decide +kernel)⟩
theorem lw_p30 : lw_okq (⟨"TenPledgesModel", "readLineOf", "(I)V"⟩, 26) := ⟨⟨by decide +kernel, by decide +kernel⟩, List.mem_of_getElem? (i := 790) (by decide +kernel), List.mem_of_getElem? (i := 933) (by decide +kernel), List.mem_of_getElem? (i := 934) (by decide +kernel)⟩
theorem lw_p31 : lw_okq (⟨"TenPledgesModel", "readNumber", "(II)I"⟩, 26) := ⟨⟨by decide +kernel, by decide +kernel⟩, List.mem_of_getElem? (i := 790) (by decide +kernel), List.mem_of_getElem? (i := 937) (by decide +kernel), List.mem_of_getElem? (i := 938) (by decide +kernel)⟩
def lw_privs_2 : List (MethodName × Nat) := [(⟨"TenPledges$Putting", "fewestRough", "()I"⟩, 6), (⟨"TenPledges$Putting", "takeIt", "(I)V"⟩, 6), (⟨"TenPledges$Putting", "isLikeEarlier", "(I)Z"⟩, 6), (⟨"TenPledges", "harmBySwap", "(II)I"⟩, 12), (⟨"TenPledges$Fitting", "addSet", "(II)V"⟩, 5), (⟨"TenPledgesModel", "firstDraft", "()V"⟩, 26), (⟨"TenPledgesModel", "keepDraft", "()V"⟩, 26), (⟨"TenPledgesModel", "next", "()V"⟩, 26), (⟨"TenPledgesModel", "byteAt", "(I)I"⟩, 26), (⟨"TenPledgesModel", "needs", "(ZI)V"⟩, 26), (⟨"TenPledgesModel", "readLine", "()V"⟩, 26), (⟨"TenPledgesModel", "lineNow", "()I"⟩, 26), (⟨"TenPledgesModel", "is", "(IIIII)Z"⟩, 26), (⟨"TenPledgesModel", "ends", "(III)Z"⟩, 26), (⟨"TenPledgesModel", "readLineOf", "(I)V"⟩, 26), (⟨"TenPledgesModel", "readNumber", "(II)I"⟩, 26)]
theorem lw_r2 : ∀ q ∈ lw_privs_2, lw_okq q := List.forall_mem_cons.mpr ⟨lw_p16, List.forall_mem_cons.mpr ⟨lw_p17, List.forall_mem_cons.mpr ⟨lw_p18, List.forall_mem_cons.mpr ⟨lw_p19, List.forall_mem_cons.mpr ⟨lw_p20, List.forall_mem_cons.mpr ⟨lw_p21, List.forall_mem_cons.mpr ⟨lw_p22, List.forall_mem_cons.mpr ⟨lw_p23, List.forall_mem_cons.mpr ⟨lw_p24, List.forall_mem_cons.mpr ⟨lw_p25, List.forall_mem_cons.mpr ⟨lw_p26, List.forall_mem_cons.mpr ⟨lw_p27, List.forall_mem_cons.mpr ⟨lw_p28, List.forall_mem_cons.mpr ⟨lw_p29, List.forall_mem_cons.mpr ⟨lw_p30, List.forall_mem_cons.mpr ⟨lw_p31, fun _ h => absurd h List.not_mem_nil⟩⟩⟩⟩⟩⟩⟩⟩⟩⟩⟩⟩⟩⟩⟩⟩
theorem lw_p32 : lw_okq (⟨"TenPledgesModel", "looked", "(II)I"⟩, 26) := ⟨⟨by decide +kernel, by decide +kernel⟩, List.mem_of_getElem? (i := 790) (by decide +kernel), List.mem_of_getElem? (i := 941) (by decide +kernel), List.mem_of_getElem? (i := 942) (by decide +kernel)⟩
theorem lw_p33 : lw_okq (⟨"TenPledgesModel", "readMost", "()V"⟩, 26) := ⟨⟨by decide +kernel, by decide +kernel⟩, List.mem_of_getElem? (i := 790) (by decide +kernel), List.mem_of_getElem? (i := 945) (by decide +kernel), List.mem_of_getElem? (i := 946) (by decide +kernel)⟩
theorem lw_p34 : lw_okq (⟨"TenPledgesModel", "readKin", "()V"⟩, 26) := ⟨⟨by decide +kernel, by decide +kernel⟩, List.mem_of_getElem? (i := 790) (by decide +kernel), List.mem_of_getElem? (i := 949) (by decide +kernel), List.mem_of_getElem? (i := 950) (by decide +kernel)⟩
theorem lw_p35 : lw_okq (⟨"TenPledgesModel", "readMan", "(I)V"⟩, 26) := ⟨⟨by decide +kernel, by decide +kernel⟩, List.mem_of_getElem? (i := 790) (by decide +kernel), List.mem_of_getElem? (i := 953) (by decide +kernel), List.mem_of_getElem? (i := 954) (by decide +kernel)⟩
theorem lw_p36 : lw_okq (⟨"TenPledgesModel", "doFit", "()Z"⟩, 26) := ⟨⟨by decide +kernel, by decide +kernel⟩, List.mem_of_getElem? (i := 790) (by decide +kernel), List.mem_of_getElem? (i := 957) (by decide +kernel), List.mem_of_getElem? (i := 958) (by decide +kernel)⟩
theorem lw_p37 : lw_okq (⟨"TenPledgesModel", "isMan", "(I)Z"⟩, 26) := ⟨⟨by decide +kernel, by decide +kernel⟩, List.mem_of_getElem? (i := 790) (by decide +kernel), List.mem_of_getElem? (i := 976) (by decide +kernel), List.mem_of_getElem? (i := 977) (by decide +kernel)⟩
theorem lw_p38 : lw_okq (⟨"TenPledgesModel", "starts", "()V"⟩, 26) := ⟨⟨by decide +kernel, by decide +kernel⟩, List.mem_of_getElem? (i := 790) (by decide +kernel), List.mem_of_getElem? (i := 980) (by decide +kernel), List.mem_of_getElem? (i := 981) (by decide +kernel)⟩
theorem lw_p39 : lw_okq (⟨"TenPledgesModel", "of", "(II)I"⟩, 26) := ⟨⟨by decide +kernel, by decide +kernel⟩, List.mem_of_getElem? (i := 790) (by decide +kernel), List.mem_of_getElem? (i := 984) (by decide +kernel), List.mem_of_getElem? (i := 985) (by decide +kernel)⟩
theorem lw_p40 : lw_okq (⟨"TenPledgesModel", "oddsOf", "(I)I"⟩, 26) := ⟨⟨by decide +kernel, by decide +kernel⟩, List.mem_of_getElem? (i := 790) (by decide +kernel), List.mem_of_getElem? (i := 988) (by decide +kernel), List.mem_of_getElem? (i := 989) (by decide +kernel)⟩
theorem lw_p41 : lw_okq (⟨"TenPledgesModel", "isWatched", "(I)Z"⟩, 26) := ⟨⟨by decide +kernel, by decide +kernel⟩, List.mem_of_getElem? (i := 790) (by decide +kernel), List.mem_of_getElem? (i := 992) (by decide +kernel), List.mem_of_getElem? (i := 993) (by decide +kernel)⟩
theorem lw_p42 : lw_okq (⟨"TenPledgesModel", "menOf", "(I)I"⟩, 26) := ⟨⟨by decide +kernel, by decide +kernel⟩, List.mem_of_getElem? (i := 790) (by decide +kernel), List.mem_of_getElem? (i := 1004) (by decide +kernel), List.mem_of_getElem? (i := 1005) (by decide +kernel)⟩
theorem lw_p43 : lw_okq (⟨"TenPledgesModel", "harmOf", "(I)I"⟩, 26) := ⟨⟨by decide +kernel, by decide +kernel⟩, List.mem_of_getElem? (i := 790) (by decide +kernel), List.mem_of_getElem? (i := 1008) (by decide +kernel), List.mem_of_getElem? (i := 1009) (by decide +kernel)⟩
theorem lw_p44 : lw_okq (⟨"TenPledgesModel", "allGoods", "(I)I"⟩, 26) := ⟨⟨by decide +kernel, by decide +kernel⟩, List.mem_of_getElem? (i := 790) (by decide +kernel), List.mem_of_getElem? (i := 1012) (by decide +kernel), List.mem_of_getElem? (i := 1013) (by decide +kernel)⟩
theorem lw_p45 : lw_okq (⟨"TenPledgesModel", "isFull", "(I)Z"⟩, 26) := ⟨⟨by decide +kernel, by decide +kernel⟩, List.mem_of_getElem? (i := 790) (by decide +kernel), List.mem_of_getElem? (i := 1020) (by decide +kernel), List.mem_of_getElem? (i := 1021) (by decide +kernel)⟩
theorem lw_p46 : lw_okq (⟨"TenPledgesModel", "becomes", "(II)I"⟩, 26) := ⟨⟨by decide +kernel, by decide +kernel⟩, List.mem_of_getElem? (i := 790) (by decide +kernel), List.mem_of_getElem? (i := 1027) (by decide +kernel), List.mem_of_getElem? (i := 1028) (by decide +kernel)⟩
theorem lw_p47 : lw_okq (⟨"TenPledgesModel", "isWanderer", "(I)Z"⟩, 26) := ⟨⟨by decide +kernel, by decide +kernel⟩, List.mem_of_getElem? (i := 790) (by decide +kernel), List.mem_of_getElem? (i := 1035) (by decide +kernel), List.mem_of_getElem? (i := 1036) (by decide +kernel)⟩
def lw_privs_3 : List (MethodName × Nat) := [(⟨"TenPledgesModel", "looked", "(II)I"⟩, 26), (⟨"TenPledgesModel", "readMost", "()V"⟩, 26), (⟨"TenPledgesModel", "readKin", "()V"⟩, 26), (⟨"TenPledgesModel", "readMan", "(I)V"⟩, 26), (⟨"TenPledgesModel", "doFit", "()Z"⟩, 26), (⟨"TenPledgesModel", "isMan", "(I)Z"⟩, 26), (⟨"TenPledgesModel", "starts", "()V"⟩, 26), (⟨"TenPledgesModel", "of", "(II)I"⟩, 26), (⟨"TenPledgesModel", "oddsOf", "(I)I"⟩, 26), (⟨"TenPledgesModel", "isWatched", "(I)Z"⟩, 26), (⟨"TenPledgesModel", "menOf", "(I)I"⟩, 26), (⟨"TenPledgesModel", "harmOf", "(I)I"⟩, 26), (⟨"TenPledgesModel", "allGoods", "(I)I"⟩, 26), (⟨"TenPledgesModel", "isFull", "(I)Z"⟩, 26), (⟨"TenPledgesModel", "becomes", "(II)I"⟩, 26), (⟨"TenPledgesModel", "isWanderer", "(I)Z"⟩, 26)]
theorem lw_r3 : ∀ q ∈ lw_privs_3, lw_okq q := List.forall_mem_cons.mpr ⟨lw_p32, List.forall_mem_cons.mpr ⟨lw_p33, List.forall_mem_cons.mpr ⟨lw_p34, List.forall_mem_cons.mpr ⟨lw_p35, List.forall_mem_cons.mpr ⟨lw_p36, List.forall_mem_cons.mpr ⟨lw_p37, List.forall_mem_cons.mpr ⟨lw_p38, List.forall_mem_cons.mpr ⟨lw_p39, List.forall_mem_cons.mpr ⟨lw_p40, List.forall_mem_cons.mpr ⟨lw_p41, List.forall_mem_cons.mpr ⟨lw_p42, List.forall_mem_cons.mpr ⟨lw_p43, List.forall_mem_cons.mpr ⟨lw_p44, List.forall_mem_cons.mpr ⟨lw_p45, List.forall_mem_cons.mpr ⟨lw_p46, List.forall_mem_cons.mpr ⟨lw_p47, fun _ h => absurd h List.not_mem_nil⟩⟩⟩⟩⟩⟩⟩⟩⟩⟩⟩⟩⟩⟩⟩⟩
theorem lw_p48 : lw_okq (⟨"TenPledgesModel", "becomesBit", "(IIZ)I"⟩, 26) := ⟨⟨by decide +kernel, by decide +kernel⟩, List.mem_of_getElem? (i := 790) (by decide +kernel), List.mem_of_getElem? (i := 1047) (by decide +kernel), List.mem_of_getElem? (i := 1048) (by decide +kernel)⟩
theorem lw_p49 : lw_okq (⟨"TenPledgesModel", "isWrong", "(I)Z"⟩, 26) := ⟨⟨by decide +kernel, by decide +kernel⟩, List.mem_of_getElem? (i := 790) (by decide +kernel), List.mem_of_getElem? (i := 1076) (by decide +kernel), List.mem_of_getElem? (i := 1077) (by decide +kernel)⟩
theorem lw_p50 : lw_okq (⟨"TenPledgesModel", "saints", "()I"⟩, 26) := ⟨⟨by decide +kernel, by decide +kernel⟩, List.mem_of_getElem? (i := 790) (by decide +kernel), List.mem_of_getElem? (i := 1080) (by decide +kernel), List.mem_of_getElem? (i := 1081) (by decide +kernel)⟩
theorem lw_p51 : lw_okq (⟨"TenPledgesModel", "yearGoes", "(I)I"⟩, 26) := ⟨⟨by decide +kernel, by decide +kernel⟩, List.mem_of_getElem? (i := 790) (by decide +kernel), List.mem_of_getElem? (i := 1084) (by decide +kernel), List.mem_of_getElem? (i := 1085) (by decide +kernel)⟩
theorem lw_p52 : lw_okq (⟨"TenPledgesModel", "runs", "(I)I"⟩, 26) := ⟨⟨by decide +kernel, by decide +kernel⟩, List.mem_of_getElem? (i := 790) (by decide +kernel), List.mem_of_getElem? (i := 1088) (by decide +kernel), List.mem_of_getElem? (i := 1089) (by decide +kernel)⟩
theorem lw_p53 : lw_okq (⟨"TenPledgesModel", "pay", "(II)I"⟩, 26) := ⟨⟨by decide +kernel, by decide +kernel⟩, List.mem_of_getElem? (i := 790) (by decide +kernel), List.mem_of_getElem? (i := 1092) (by decide +kernel), List.mem_of_getElem? (i := 1093) (by decide +kernel)⟩
theorem lw_p54 : lw_okq (⟨"TenPledgesModel", "becomesOf", "(III)V"⟩, 26) := ⟨⟨by decide +kernel, by decide +kernel⟩, List.mem_of_getElem? (i := 790) (by decide +kernel), List.mem_of_getElem? (i := 1096) (by decide +kernel), List.mem_of_getElem? (i := 1097) (by decide +kernel)⟩
theorem lw_p55 : lw_okq (⟨"TenPledgesModel", "watches", "(I)I"⟩, 26) := ⟨⟨by decide +kernel, by decide +kernel⟩, List.mem_of_getElem? (i := 790) (by decide +kernel), List.mem_of_getElem? (i := 1100) (by decide +kernel), List.mem_of_getElem? (i := 1101) (by decide +kernel)⟩
theorem lw_p56 : lw_okq (⟨"TenPledgesModel", "settles", "()V"⟩, 26) := ⟨⟨by decide +kernel, by decide +kernel⟩, List.mem_of_getElem? (i := 790) (by decide +kernel), List.mem_of_getElem? (i := 1104) (by decide +kernel), List.mem_of_getElem? (i := 1105) (by decide +kernel)⟩
theorem lw_p57 : lw_okq (⟨"TenPledgesModel", "harmAll", "()I"⟩, 26) := ⟨⟨by decide +kernel, by decide +kernel⟩, List.mem_of_getElem? (i := 790) (by decide +kernel), List.mem_of_getElem? (i := 1116) (by decide +kernel), List.mem_of_getElem? (i := 1117) (by decide +kernel)⟩
theorem lw_p58 : lw_okq (⟨"TenPledgesModel", "findOdds", "()V"⟩, 26) := ⟨⟨by decide +kernel, by decide +kernel⟩, List.mem_of_getElem? (i := 790) (by decide +kernel), List.mem_of_getElem? (i := 1136) (by decide +kernel), List.mem_of_getElem? (i := 1137) (by decide +kernel)⟩
theorem lw_p59 : lw_okq (⟨"TenPledgesModel", "puttings", "()I"⟩, 26) := ⟨⟨by decide +kernel, by decide +kernel⟩, List.mem_of_getElem? (i := 790) (by decide +kernel), List.mem_of_getElem? (i := 1145) (by decide +kernel), List.mem_of_getElem? (i := 1146) (by decide +kernel)⟩
theorem lw_p60 : lw_okq (⟨"TenPledgesModel", "putsBy", "(I)Z"⟩, 26) := ⟨⟨by decide +kernel, by decide +kernel⟩, List.mem_of_getElem? (i := 790) (by decide +kernel), List.mem_of_getElem? (i := 1149) (by decide +kernel), List.mem_of_getElem? (i := 1150) (by decide +kernel)⟩
theorem lw_p61 : lw_okq (⟨"TenPledgesModel", "goesAway", "(I)V"⟩, 26) := ⟨⟨by decide +kernel, by decide +kernel⟩, List.mem_of_getElem? (i := 790) (by decide +kernel), List.mem_of_getElem? (i := 1166) (by decide +kernel), List.mem_of_getElem? (i := 1167) (by decide +kernel)⟩
theorem lw_p62 : lw_okq (⟨"TenPledgesModel", "isSo", "(I)Z"⟩, 26) := ⟨⟨by decide +kernel, by decide +kernel⟩, List.mem_of_getElem? (i := 790) (by decide +kernel), List.mem_of_getElem? (i := 1195) (by decide +kernel), List.mem_of_getElem? (i := 1196) (by decide +kernel)⟩
theorem lw_p63 : lw_okq (⟨"TenPledgesModel", "tensOf", "(I)I"⟩, 26) := ⟨⟨by decide +kernel, by decide +kernel⟩, List.mem_of_getElem? (i := 790) (by decide +kernel), List.mem_of_getElem? (i := 1199) (by decide +kernel), List.mem_of_getElem? (i := 1200) (by decide +kernel)⟩
def lw_privs_4 : List (MethodName × Nat) := [(⟨"TenPledgesModel", "becomesBit", "(IIZ)I"⟩, 26), (⟨"TenPledgesModel", "isWrong", "(I)Z"⟩, 26), (⟨"TenPledgesModel", "saints", "()I"⟩, 26), (⟨"TenPledgesModel", "yearGoes", "(I)I"⟩, 26), (⟨"TenPledgesModel", "runs", "(I)I"⟩, 26), (⟨"TenPledgesModel", "pay", "(II)I"⟩, 26), (⟨"TenPledgesModel", "becomesOf", "(III)V"⟩, 26), (⟨"TenPledgesModel", "watches", "(I)I"⟩, 26), (⟨"TenPledgesModel", "settles", "()V"⟩, 26), (⟨"TenPledgesModel", "harmAll", "()I"⟩, 26), (⟨"TenPledgesModel", "findOdds", "()V"⟩, 26), (⟨"TenPledgesModel", "puttings", "()I"⟩, 26), (⟨"TenPledgesModel", "putsBy", "(I)Z"⟩, 26), (⟨"TenPledgesModel", "goesAway", "(I)V"⟩, 26), (⟨"TenPledgesModel", "isSo", "(I)Z"⟩, 26), (⟨"TenPledgesModel", "tensOf", "(I)I"⟩, 26)]
theorem lw_r4 : ∀ q ∈ lw_privs_4, lw_okq q := List.forall_mem_cons.mpr ⟨lw_p48, List.forall_mem_cons.mpr ⟨lw_p49, List.forall_mem_cons.mpr ⟨lw_p50, List.forall_mem_cons.mpr ⟨lw_p51, List.forall_mem_cons.mpr ⟨lw_p52, List.forall_mem_cons.mpr ⟨lw_p53, List.forall_mem_cons.mpr ⟨lw_p54, List.forall_mem_cons.mpr ⟨lw_p55, List.forall_mem_cons.mpr ⟨lw_p56, List.forall_mem_cons.mpr ⟨lw_p57, List.forall_mem_cons.mpr ⟨lw_p58, List.forall_mem_cons.mpr ⟨lw_p59, List.forall_mem_cons.mpr ⟨lw_p60, List.forall_mem_cons.mpr ⟨lw_p61, List.forall_mem_cons.mpr ⟨lw_p62, List.forall_mem_cons.mpr ⟨lw_p63, fun _ h => absurd h List.not_mem_nil⟩⟩⟩⟩⟩⟩⟩⟩⟩⟩⟩⟩⟩⟩⟩⟩
theorem lw_p64 : lw_okq (⟨"TenPledgesModel", "copies", "(II)V"⟩, 26) := ⟨⟨by decide +kernel, by decide +kernel⟩, List.mem_of_getElem? (i := 790) (by decide +kernel), List.mem_of_getElem? (i := 1213) (by decide +kernel), List.mem_of_getElem? (i := 1214) (by decide +kernel)⟩
def lw_privs_5 : List (MethodName × Nat) := [(⟨"TenPledgesModel", "copies", "(II)V"⟩, 26)]
theorem lw_r5 : ∀ q ∈ lw_privs_5, lw_okq q := List.forall_mem_cons.mpr ⟨lw_p64, fun _ h => absurd h List.not_mem_nil⟩
def lw_privs : List (MethodName × Nat) := lw_privs_1 ++ (lw_privs_2 ++ (lw_privs_3 ++ (lw_privs_4 ++ (lw_privs_5))))
def lw_tbl : List Cond := k2_sels lw_privs ++ tables_1
theorem lw_privs_ok : ∀ q ∈ lw_privs, lw_okq q := by
  show ∀ q ∈ lw_privs_1 ++ (lw_privs_2 ++ (lw_privs_3 ++ (lw_privs_4 ++ (lw_privs_5)))), lw_okq q
  exact List.forall_mem_append.mpr ⟨lw_r1, List.forall_mem_append.mpr ⟨lw_r2, List.forall_mem_append.mpr ⟨lw_r3, List.forall_mem_append.mpr ⟨lw_r4, lw_r5⟩⟩⟩⟩
def RX0 : String := "TenPledges$Fitting"
def TX0 : u_T := fun k => match k with
  | 0 => ("TenPledges$Fitting", "sets", "I", false)
  | 1 => ("TenPledges$Fitting", "first", "I", false)
  | 2 => ("TenPledges$Fitting", "inAll", "I", false)
  | 3 => ("TenPledges$Fitting", "inAny", "I", false)
  | _ => ("TenPledges$Fitting", "tensOfAll", "I", false)
def tyX0 : Nat → FieldType := fun k => match k with
  | 0 => .int
  | 1 => .int
  | 2 => .int
  | 3 => .int
  | _ => .int
abbrev wsX00 : List Cond := u_ws RX0 TX0 5
theorem nmX0 : ∀ a, a < 5 → ∀ b, b < 5 → a ≠ b → (TX0 a).2.1 ≠ (TX0 b).2.1 := by decide +kernel
theorem tyX0_ok : ∀ k, k < 5 → parseFieldDescriptor (TX0 k).2.2.1 = some (tyX0 k) := by decide +kernel
def RX1 : String := "TenPledges$Putting"
def TX1 : u_T := fun k => match k with
  | 0 => ("TenPledges$Putting", "seats", "[I", true)
  | 1 => ("TenPledges$Putting", "least", "I", false)
  | 2 => ("TenPledges$Putting", "town", "LTenPledges$Town;", false)
  | 3 => ("TenPledges$Putting", "tried", "[I", true)
  | 4 => ("TenPledges$Putting", "sizes", "[I", true)
  | _ => ("TenPledges$Putting", "roughs", "[I", true)
def tyX1 : Nat → FieldType := fun k => match k with
  | 0 => .array .int
  | 1 => .int
  | 2 => .object "TenPledges$Town"
  | 3 => .array .int
  | 4 => .array .int
  | _ => .array .int
abbrev wsX10 : List Cond := u_ws RX1 TX1 6
theorem nmX1 : ∀ a, a < 6 → ∀ b, b < 6 → a ≠ b → (TX1 a).2.1 ≠ (TX1 b).2.1 := by decide +kernel
theorem tyX1_ok : ∀ k, k < 6 → parseFieldDescriptor (TX1 k).2.2.1 = some (tyX1 k) := by decide +kernel
def RX2 : String := "TenPledges$Sheet"
def TX2 : u_T := fun k => match k with
  | 0 => ("TenPledges$Sheet", "lane", "I", false)
  | 1 => ("TenPledges$Sheet", "size", "I", false)
  | _ => ("TenPledges$Sheet", "cells", "[I", true)
def tyX2 : Nat → FieldType := fun k => match k with
  | 0 => .int
  | 1 => .int
  | _ => .array .int
abbrev wsX20 : List Cond := u_ws RX2 TX2 3
theorem nmX2 : ∀ a, a < 3 → ∀ b, b < 3 → a ≠ b → (TX2 a).2.1 ≠ (TX2 b).2.1 := by decide +kernel
theorem tyX2_ok : ∀ k, k < 3 → parseFieldDescriptor (TX2 k).2.2.1 = some (tyX2 k) := by decide +kernel
def RX3 : String := "TenPledges$Teller"
def TX3 : u_T := fun k => match k with
  | 0 => ("TenPledges$Teller", "lines", "I", false)
  | 1 => ("TenPledges$Teller", "problem", "I", false)
  | 2 => ("TenPledges$Teller", "problemAt", "I", false)
  | 3 => ("TenPledges$Teller", "told", "LTenPledges$Town;", false)
  | 4 => ("TenPledges$Teller", "bytes", "[B", false)
  | 5 => ("TenPledges$Teller", "length", "I", false)
  | 6 => ("TenPledges$Teller", "place", "I", false)
  | 7 => ("TenPledges$Teller", "token", "I", false)
  | 8 => ("TenPledges$Teller", "tokenAt", "I", false)
  | 9 => ("TenPledges$Teller", "value", "I", false)
  | 10 => ("TenPledges$Teller", "numbers", "[I", true)
  | 11 => ("TenPledges$Teller", "fineTold", "Z", false)
  | 12 => ("TenPledges$Teller", "watchTold", "Z", false)
  | 13 => ("TenPledges$Teller", "mostsTold", "I", false)
  | _ => ("TenPledges$Teller", "kinMen", "I", false)
def tyX3 : Nat → FieldType := fun k => match k with
  | 0 => .int
  | 1 => .int
  | 2 => .int
  | 3 => .object "TenPledges$Town"
  | 4 => .array .byte
  | 5 => .int
  | 6 => .int
  | 7 => .int
  | 8 => .int
  | 9 => .int
  | 10 => .array .int
  | 11 => .boolean
  | 12 => .boolean
  | 13 => .int
  | _ => .int
abbrev wsX30 : List Cond := u_ws RX3 TX3 15
theorem nmX3 : ∀ a, a < 15 → ∀ b, b < 15 → a ≠ b → (TX3 a).2.1 ≠ (TX3 b).2.1 := by decide +kernel
theorem tyX3_ok : ∀ k, k < 15 → parseFieldDescriptor (TX3 k).2.2.1 = some (tyX3 k) := by decide +kernel
def RX4 : String := "TenPledges$Town"
def TX4 : u_T := fun k => match k with
  | 0 => ("TenPledges$Town", "men", "I", false)
  | 1 => ("TenPledges$Town", "fine", "I", false)
  | 2 => ("TenPledges$Town", "cost", "I", false)
  | 3 => ("TenPledges$Town", "year", "I", false)
  | 4 => ("TenPledges$Town", "watched", "I", false)
  | 5 => ("TenPledges$Town", "seen", "I", false)
  | 6 => ("TenPledges$Town", "kinds", "[I", true)
  | 7 => ("TenPledges$Town", "odds", "[I", true)
  | 8 => ("TenPledges$Town", "stock", "[I", true)
  | 9 => ("TenPledges$Town", "tens", "[I", true)
  | 10 => ("TenPledges$Town", "kins", "[I", true)
  | 11 => ("TenPledges$Town", "mosts", "[I", true)
  | 12 => ("TenPledges$Town", "seenMen", "[I", true)
  | _ => ("TenPledges$Town", "seenLess", "[I", true)
def tyX4 : Nat → FieldType := fun k => match k with
  | 0 => .int
  | 1 => .int
  | 2 => .int
  | 3 => .int
  | 4 => .int
  | 5 => .int
  | 6 => .array .int
  | 7 => .array .int
  | 8 => .array .int
  | 9 => .array .int
  | 10 => .array .int
  | 11 => .array .int
  | 12 => .array .int
  | _ => .array .int
abbrev wsX40 : List Cond := u_ws RX4 TX4 14
theorem nmX4 : ∀ a, a < 14 → ∀ b, b < 14 → a ≠ b → (TX4 a).2.1 ≠ (TX4 b).2.1 := by decide +kernel
theorem tyX4_ok : ∀ k, k < 14 → parseFieldDescriptor (TX4 k).2.2.1 = some (tyX4 k) := by decide +kernel
def RX5 : String := "TenPledges"
def TX5 : u_T := fun k => match k with
  | 0 => ("TenPledges", "town", "LTenPledges$Town;", true)
  | 1 => ("TenPledges", "trial", "LTenPledges$Town;", true)
  | 2 => ("TenPledges", "images", "[LTenPledges$Town;", true)
  | 3 => ("TenPledges", "kept", "[Z", true)
  | 4 => ("TenPledges", "sheets", "[LTenPledges$Sheet;", true)
  | 5 => ("TenPledges", "tape", "[B", true)
  | 6 => ("TenPledges", "teller", "LTenPledges$Teller;", true)
  | 7 => ("TenPledges", "putting", "LTenPledges$Putting;", true)
  | 8 => ("TenPledges", "fitting", "LTenPledges$Fitting;", true)
  | 9 => ("TenPledges", "tapeLength", "I", false)
  | 10 => ("TenPledges", "textFault", "I", false)
  | _ => ("TenPledges", "readFault", "I", false)
def tyX5 : Nat → FieldType := fun k => match k with
  | 0 => .object "TenPledges$Town"
  | 1 => .object "TenPledges$Town"
  | 2 => .array (.object "TenPledges$Town")
  | 3 => .array .boolean
  | 4 => .array (.object "TenPledges$Sheet")
  | 5 => .array .byte
  | 6 => .object "TenPledges$Teller"
  | 7 => .object "TenPledges$Putting"
  | 8 => .object "TenPledges$Fitting"
  | 9 => .int
  | 10 => .int
  | _ => .int
abbrev wsX50 : List Cond := u_ws RX5 TX5 12
theorem nmX5 : ∀ a, a < 12 → ∀ b, b < 12 → a ≠ b → (TX5 a).2.1 ≠ (TX5 b).2.1 := by decide +kernel
theorem tyX5_ok : ∀ k, k < 12 → parseFieldDescriptor (TX5 k).2.2.1 = some (tyX5 k) := by decide +kernel
def RX6 : String := "TenPledgesModel"
def TX6 : u_T := fun k => match k with
  | 0 => ("TenPledgesModel", "st", "[I", true)
  | 1 => ("TenPledgesModel", "at", "[I", true)
  | 2 => ("TenPledgesModel", "isKept", "[Z", true)
  | 3 => ("TenPledgesModel", "men", "I", false)
  | 4 => ("TenPledgesModel", "mosts", "[I", true)
  | 5 => ("TenPledgesModel", "draft", "[I", true)
  | 6 => ("TenPledgesModel", "dMen", "I", false)
  | 7 => ("TenPledgesModel", "dMosts", "[I", true)
  | 8 => ("TenPledgesModel", "toldLines", "I", false)
  | 9 => ("TenPledgesModel", "toldMosts", "I", false)
  | 10 => ("TenPledgesModel", "highest", "I", false)
  | 11 => ("TenPledgesModel", "tape", "[I", true)
  | 12 => ("TenPledgesModel", "taped", "I", false)
  | 13 => ("TenPledgesModel", "pos", "I", false)
  | 14 => ("TenPledgesModel", "from", "I", false)
  | 15 => ("TenPledgesModel", "sort", "I", false)
  | 16 => ("TenPledgesModel", "value", "I", false)
  | 17 => ("TenPledgesModel", "fault", "I", false)
  | 18 => ("TenPledgesModel", "wrongAt", "I", false)
  | 19 => ("TenPledgesModel", "fines", "[I", true)
  | 20 => ("TenPledgesModel", "odds", "[I", true)
  | 21 => ("TenPledgesModel", "lanes", "[I", true)
  | 22 => ("TenPledgesModel", "sizes", "[I", true)
  | 23 => ("TenPledgesModel", "cells", "[I", true)
  | 24 => ("TenPledgesModel", "torn", "I", false)
  | _ => ("TenPledgesModel", "had", "[I", true)
def tyX6 : Nat → FieldType := fun k => match k with
  | 0 => .array .int
  | 1 => .array .int
  | 2 => .array .boolean
  | 3 => .int
  | 4 => .array .int
  | 5 => .array .int
  | 6 => .int
  | 7 => .array .int
  | 8 => .int
  | 9 => .int
  | 10 => .int
  | 11 => .array .int
  | 12 => .int
  | 13 => .int
  | 14 => .int
  | 15 => .int
  | 16 => .int
  | 17 => .int
  | 18 => .int
  | 19 => .array .int
  | 20 => .array .int
  | 21 => .array .int
  | 22 => .array .int
  | 23 => .array .int
  | 24 => .int
  | _ => .array .int
abbrev wsX60 : List Cond := u_ws RX6 TX6 26
theorem nmX6 : ∀ a, a < 26 → ∀ b, b < 26 → a ≠ b → (TX6 a).2.1 ≠ (TX6 b).2.1 := by decide +kernel
theorem tyX6_ok : ∀ k, k < 26 → parseFieldDescriptor (TX6 k).2.2.1 = some (tyX6 k) := by decide +kernel
def RJ6 : String := "java/lang/Integer"
def RJ9 : String := "java/lang/Math"
def RJ0 : String := "java/lang/String"
def RJ1 : String := "java/lang/StringLatin1"
def RJ3 : String := "jdk/internal/util/Preconditions"
def RL : String := "TenPledgesLaw"
abbrev cX0_init : ByteArray := prog_2_method_1_code
def yX0_init : MethodName := ⟨RX0, "<init>", "()V"⟩
abbrev cX0_search : ByteArray := prog_2_method_2_code
def yX0_search : MethodName := ⟨RX0, "search", "(LTenPledges$Town;LTenPledges$Town;)V"⟩
abbrev cX0_addSet : ByteArray := prog_2_method_3_code
def yX0_addSet : MethodName := ⟨RX0, "addSet", "(II)V"⟩
abbrev cX0_isAsSeen : ByteArray := prog_2_method_4_code
def yX0_isAsSeen : MethodName := ⟨RX0, "isAsSeen", "(LTenPledges$Town;LTenPledges$Town;I)Z"⟩
abbrev cX1_init : ByteArray := prog_3_method_1_code
def yX1_init : MethodName := ⟨RX1, "<init>", "()V"⟩
abbrev cX1_search : ByteArray := prog_3_method_2_code
def yX1_search : MethodName := ⟨RX1, "search", "(LTenPledges$Town;)V"⟩
abbrev cX1_seatFrom : ByteArray := prog_3_method_3_code
def yX1_seatFrom : MethodName := ⟨RX1, "seatFrom", "(I)V"⟩
abbrev cX1_takeIt : ByteArray := prog_3_method_4_code
def yX1_takeIt : MethodName := ⟨RX1, "takeIt", "(I)V"⟩
abbrev cX1_isLikeEarlier : ByteArray := prog_3_method_5_code
def yX1_isLikeEarlier : MethodName := ⟨RX1, "isLikeEarlier", "(I)Z"⟩
abbrev cX1_atLeastHarm : ByteArray := prog_3_method_6_code
def yX1_atLeastHarm : MethodName := ⟨RX1, "atLeastHarm", "(I)I"⟩
abbrev cX1_fewestRough : ByteArray := prog_3_method_7_code
def yX1_fewestRough : MethodName := ⟨RX1, "fewestRough", "()I"⟩
abbrev cX2_init : ByteArray := prog_4_method_1_code
def yX2_init : MethodName := ⟨RX2, "<init>", "()V"⟩
abbrev cX2_renew : ByteArray := prog_4_method_2_code
def yX2_renew : MethodName := ⟨RX2, "renew", "(II)V"⟩
abbrev cX2_write : ByteArray := prog_4_method_3_code
def yX2_write : MethodName := ⟨RX2, "write", "(II)V"⟩
abbrev cX2_faultAt : ByteArray := prog_4_method_4_code
def yX2_faultAt : MethodName := ⟨RX2, "faultAt", "(II)I"⟩
abbrev cX2_faultAtTwo : ByteArray := prog_4_method_5_code
def yX2_faultAtTwo : MethodName := ⟨RX2, "faultAtTwo", "(II)I"⟩
abbrev cX3_init : ByteArray := prog_5_method_1_code
def yX3_init : MethodName := ⟨RX3, "<init>", "()V"⟩
abbrev cX3_tell : ByteArray := prog_5_method_2_code
def yX3_tell : MethodName := ⟨RX3, "tell", "([BILTenPledges$Town;)Z"⟩
abbrev cX3_start : ByteArray := prog_5_method_3_code
def yX3_start : MethodName := ⟨RX3, "start", "([BILTenPledges$Town;)V"⟩
abbrev cX3_refuse : ByteArray := prog_5_method_4_code
def yX3_refuse : MethodName := ⟨RX3, "refuse", "(II)Z"⟩
abbrev cX3_agrees : ByteArray := prog_5_method_5_code
def yX3_agrees : MethodName := ⟨RX3, "agrees", "()Z"⟩
abbrev cX3_nextToken : ByteArray := prog_5_method_6_code
def yX3_nextToken : MethodName := ⟨RX3, "nextToken", "()Z"⟩
abbrev cX3_takeFigures : ByteArray := prog_5_method_7_code
def yX3_takeFigures : MethodName := ⟨RX3, "takeFigures", "()Z"⟩
abbrev cX3_pass : ByteArray := prog_5_method_8_code
def yX3_pass : MethodName := ⟨RX3, "pass", "(CC)V"⟩
abbrev cX3_isIn : ByteArray := prog_5_method_9_code
def yX3_isIn : MethodName := ⟨RX3, "isIn", "(ICC)Z"⟩
abbrev cX3_takeLine : ByteArray := prog_5_method_10_code
def yX3_takeLine : MethodName := ⟨RX3, "takeLine", "()Z"⟩
abbrev cX3_takeNumber : ByteArray := prog_5_method_11_code
def yX3_takeNumber : MethodName := ⟨RX3, "takeNumber", "(II)Z"⟩
abbrev cX3_putDown : ByteArray := prog_5_method_12_code
def yX3_putDown : MethodName := ⟨RX3, "putDown", "(I)V"⟩
abbrev cX3_wordHere : ByteArray := prog_5_method_13_code
def yX3_wordHere : MethodName := ⟨RX3, "wordHere", "()I"⟩
abbrev cX3_isHere : ByteArray := prog_5_method_14_code
def yX3_isHere : MethodName := ⟨RX3, "isHere", "(Ljava/lang/String;)Z"⟩
abbrev cX3_wordOf : ByteArray := prog_5_method_15_code
def yX3_wordOf : MethodName := ⟨RX3, "wordOf", "(I)Ljava/lang/String;"⟩
abbrev cX4_init : ByteArray := prog_6_method_1_code
def yX4_init : MethodName := ⟨RX4, "<init>", "()V"⟩
abbrev cX4_clear : ByteArray := prog_6_method_2_code
def yX4_clear : MethodName := ⟨RX4, "clear", "()V"⟩
abbrev cX4_copyFrom : ByteArray := prog_6_method_3_code
def yX4_copyFrom : MethodName := ⟨RX4, "copyFrom", "(LTenPledges$Town;)V"⟩
abbrev cX4_copyStock : ByteArray := prog_6_method_4_code
def yX4_copyStock : MethodName := ⟨RX4, "copyStock", "(LTenPledges$Town;)V"⟩
abbrev cX4_hasMan : ByteArray := prog_6_method_5_code
def yX4_hasMan : MethodName := ⟨RX4, "hasMan", "(I)Z"⟩
abbrev cX4_allMen : ByteArray := prog_6_method_6_code
def yX4_allMen : MethodName := ⟨RX4, "allMen", "()I"⟩
abbrev cX4_menOfKind : ByteArray := prog_6_method_7_code
def yX4_menOfKind : MethodName := ⟨RX4, "menOfKind", "(I)I"⟩
abbrev cX4_menOfTen : ByteArray := prog_6_method_8_code
def yX4_menOfTen : MethodName := ⟨RX4, "menOfTen", "(I)I"⟩
abbrev cX4_sizeOfTen : ByteArray := prog_6_method_9_code
def yX4_sizeOfTen : MethodName := ⟨RX4, "sizeOfTen", "(I)I"⟩
abbrev cX4_tensWithMen : ByteArray := prog_6_method_10_code
def yX4_tensWithMen : MethodName := ⟨RX4, "tensWithMen", "()I"⟩
abbrev cX4_tensOf : ByteArray := prog_6_method_11_code
def yX4_tensOf : MethodName := ⟨RX4, "tensOf", "(I)I"⟩
abbrev cX4_stockOf : ByteArray := prog_6_method_12_code
def yX4_stockOf : MethodName := ⟨RX4, "stockOf", "(I)I"⟩
abbrev cX4_addMan : ByteArray := prog_6_method_13_code
def yX4_addMan : MethodName := ⟨RX4, "addMan", "(IIII)V"⟩
abbrev cX4_setKin : ByteArray := prog_6_method_14_code
def yX4_setKin : MethodName := ⟨RX4, "setKin", "(IIZ)V"⟩
abbrev cX4_whyNoSeat : ByteArray := prog_6_method_15_code
def yX4_whyNoSeat : MethodName := ⟨RX4, "whyNoSeat", "(II)I"⟩
abbrev cX4_seat : ByteArray := prog_6_method_16_code
def yX4_seat : MethodName := ⟨RX4, "seat", "(II)I"⟩
abbrev cX4_giveUp : ByteArray := prog_6_method_17_code
def yX4_giveUp : MethodName := ⟨RX4, "giveUp", "(I)V"⟩
abbrev cX4_maySwap : ByteArray := prog_6_method_18_code
def yX4_maySwap : MethodName := ⟨RX4, "maySwap", "(II)Z"⟩
abbrev cX4_exchange : ByteArray := prog_6_method_19_code
def yX4_exchange : MethodName := ⟨RX4, "exchange", "(II)V"⟩
abbrev cX4_oddsInTen : ByteArray := prog_6_method_20_code
def yX4_oddsInTen : MethodName := ⟨RX4, "oddsInTen", "(I)I"⟩
abbrev cX4_oddsIfWatched : ByteArray := prog_6_method_21_code
def yX4_oddsIfWatched : MethodName := ⟨RX4, "oddsIfWatched", "(IZ)I"⟩
abbrev cX4_oddsAmong : ByteArray := prog_6_method_22_code
def yX4_oddsAmong : MethodName := ⟨RX4, "oddsAmong", "(IIZ)I"⟩
abbrev cX4_wonByWatch : ByteArray := prog_6_method_23_code
def yX4_wonByWatch : MethodName := ⟨RX4, "wonByWatch", "(I)I"⟩
abbrev cX4_harmOfTen : ByteArray := prog_6_method_24_code
def yX4_harmOfTen : MethodName := ⟨RX4, "harmOfTen", "(I)I"⟩
abbrev cX4_harmOfAll : ByteArray := prog_6_method_25_code
def yX4_harmOfAll : MethodName := ⟨RX4, "harmOfAll", "()I"⟩
abbrev cX4_chanceOf : ByteArray := prog_6_method_26_code
def yX4_chanceOf : MethodName := ⟨RX4, "chanceOf", "(II)J"⟩
abbrev cX4_mayDoWrong : ByteArray := prog_6_method_27_code
def yX4_mayDoWrong : MethodName := ⟨RX4, "mayDoWrong", "(I)Z"⟩
abbrev cX4_payAll : ByteArray := prog_6_method_28_code
def yX4_payAll : MethodName := ⟨RX4, "payAll", "(I)I"⟩
abbrev cX4_payFines : ByteArray := prog_6_method_29_code
def yX4_payFines : MethodName := ⟨RX4, "payFines", "(I)I"⟩
abbrev cX4_payFor : ByteArray := prog_6_method_30_code
def yX4_payFor : MethodName := ⟨RX4, "payFor", "(I)I"⟩
abbrev cX4_payCosts : ByteArray := prog_6_method_31_code
def yX4_payCosts : MethodName := ⟨RX4, "payCosts", "()I"⟩
abbrev cX4_takeFrom : ByteArray := prog_6_method_32_code
def yX4_takeFrom : MethodName := ⟨RX4, "takeFrom", "(II)I"⟩
abbrev cX5_init : ByteArray := prog_1_method_1_code
def yX5_init : MethodName := ⟨RX5, "<init>", "()V"⟩
abbrev cX5_feed : ByteArray := prog_1_method_2_code
def yX5_feed : MethodName := ⟨RX5, "feed", "(I)I"⟩
abbrev cX5_end : ByteArray := prog_1_method_3_code
def yX5_end : MethodName := ⟨RX5, "end", "(I)I"⟩
abbrev cX5_text : ByteArray := prog_1_method_4_code
def yX5_text : MethodName := ⟨RX5, "text", "()I"⟩
abbrev cX5_fault : ByteArray := prog_1_method_5_code
def yX5_fault : MethodName := ⟨RX5, "fault", "()I"⟩
abbrev cX5_rule : ByteArray := prog_1_method_6_code
def yX5_rule : MethodName := ⟨RX5, "rule", "(I)I"⟩
abbrev cX5_man : ByteArray := prog_1_method_7_code
def yX5_man : MethodName := ⟨RX5, "man", "(II)I"⟩
abbrev cX5_ten : ByteArray := prog_1_method_8_code
def yX5_ten : MethodName := ⟨RX5, "ten", "(II)I"⟩
abbrev cX5_move : ByteArray := prog_1_method_9_code
def yX5_move : MethodName := ⟨RX5, "move", "(II)I"⟩
abbrev cX5_leave : ByteArray := prog_1_method_10_code
def yX5_leave : MethodName := ⟨RX5, "leave", "(I)I"⟩
abbrev cX5_swap : ByteArray := prog_1_method_11_code
def yX5_swap : MethodName := ⟨RX5, "swap", "(II)I"⟩
abbrev cX5_watch : ByteArray := prog_1_method_12_code
def yX5_watch : MethodName := ⟨RX5, "watch", "(IZ)I"⟩
abbrev cX5_kin : ByteArray := prog_1_method_13_code
def yX5_kin : MethodName := ⟨RX5, "kin", "(IIZ)I"⟩
abbrev cX5_odd : ByteArray := prog_1_method_14_code
def yX5_odd : MethodName := ⟨RX5, "odd", "(II)I"⟩
abbrev cX5_law : ByteArray := prog_1_method_15_code
def yX5_law : MethodName := ⟨RX5, "law", "(II)I"⟩
abbrev cX5_goods : ByteArray := prog_1_method_16_code
def yX5_goods : MethodName := ⟨RX5, "goods", "(II)I"⟩
abbrev cX5_year : ByteArray := prog_1_method_17_code
def yX5_year : MethodName := ⟨RX5, "year", "(I)I"⟩
abbrev cX5_pays : ByteArray := prog_1_method_18_code
def yX5_pays : MethodName := ⟨RX5, "pays", "(II)I"⟩
abbrev cX5_harm : ByteArray := prog_1_method_19_code
def yX5_harm : MethodName := ⟨RX5, "harm", "()I"⟩
abbrev cX5_calm : ByteArray := prog_1_method_20_code
def yX5_calm : MethodName := ⟨RX5, "calm", "(II)J"⟩
abbrev cX5_mean : ByteArray := prog_1_method_21_code
def yX5_mean : MethodName := ⟨RX5, "mean", "(II)J"⟩
abbrev cX5_best : ByteArray := prog_1_method_22_code
def yX5_best : MethodName := ⟨RX5, "best", "(I)I"⟩
abbrev cX5_change : ByteArray := prog_1_method_23_code
def yX5_change : MethodName := ⟨RX5, "change", "(I)I"⟩
abbrev cX5_takes : ByteArray := prog_1_method_24_code
def yX5_takes : MethodName := ⟨RX5, "takes", "(I)I"⟩
abbrev cX5_weight : ByteArray := prog_1_method_25_code
def yX5_weight : MethodName := ⟨RX5, "weight", "(I)I"⟩
abbrev cX5_should : ByteArray := prog_1_method_26_code
def yX5_should : MethodName := ⟨RX5, "should", "(I)I"⟩
abbrev cX5_guard : ByteArray := prog_1_method_27_code
def yX5_guard : MethodName := ⟨RX5, "guard", "(I)I"⟩
abbrev cX5_worth : ByteArray := prog_1_method_28_code
def yX5_worth : MethodName := ⟨RX5, "worth", "(I)I"⟩
abbrev cX5_see : ByteArray := prog_1_method_29_code
def yX5_see : MethodName := ⟨RX5, "see", "(II)I"⟩
abbrev cX5_forget : ByteArray := prog_1_method_30_code
def yX5_forget : MethodName := ⟨RX5, "forget", "(I)I"⟩
abbrev cX5_fits : ByteArray := prog_1_method_31_code
def yX5_fits : MethodName := ⟨RX5, "fits", "(I)I"⟩
abbrev cX5_drift : ByteArray := prog_1_method_32_code
def yX5_drift : MethodName := ⟨RX5, "drift", "(III)I"⟩
abbrev cX5_keep : ByteArray := prog_1_method_33_code
def yX5_keep : MethodName := ⟨RX5, "keep", "(I)I"⟩
abbrev cX5_back : ByteArray := prog_1_method_34_code
def yX5_back : MethodName := ⟨RX5, "back", "(I)I"⟩
abbrev cX5_sheet : ByteArray := prog_1_method_35_code
def yX5_sheet : MethodName := ⟨RX5, "sheet", "(III)I"⟩
abbrev cX5_lay : ByteArray := prog_1_method_36_code
def yX5_lay : MethodName := ⟨RX5, "lay", "(III)I"⟩
abbrev cX5_read : ByteArray := prog_1_method_37_code
def yX5_read : MethodName := ⟨RX5, "read", "(IIII)I"⟩
abbrev cX5_torn : ByteArray := prog_1_method_38_code
def yX5_torn : MethodName := ⟨RX5, "torn", "()I"⟩
abbrev cX5_count : ByteArray := prog_1_method_39_code
def yX5_count : MethodName := ⟨RX5, "count", "(I)I"⟩
abbrev cX5_refusalInTen : ByteArray := prog_1_method_40_code
def yX5_refusalInTen : MethodName := ⟨RX5, "refusalInTen", "(I)I"⟩
abbrev cX5_isPair : ByteArray := prog_1_method_41_code
def yX5_isPair : MethodName := ⟨RX5, "isPair", "(II)Z"⟩
abbrev cX5_finesOnTrial : ByteArray := prog_1_method_42_code
def yX5_finesOnTrial : MethodName := ⟨RX5, "finesOnTrial", "(II)I"⟩
abbrev cX5_harmBySwap : ByteArray := prog_1_method_43_code
def yX5_harmBySwap : MethodName := ⟨RX5, "harmBySwap", "(II)I"⟩
abbrev cX5_isTen : ByteArray := prog_1_method_44_code
def yX5_isTen : MethodName := ⟨RX5, "isTen", "(I)Z"⟩
abbrev cX5_isWithin : ByteArray := prog_1_method_45_code
def yX5_isWithin : MethodName := ⟨RX5, "isWithin", "(II)Z"⟩
abbrev cX5_bitOf : ByteArray := prog_1_method_46_code
def yX5_bitOf : MethodName := ⟨RX5, "bitOf", "(II)I"⟩
abbrev cX5_withBit : ByteArray := prog_1_method_47_code
def yX5_withBit : MethodName := ⟨RX5, "withBit", "(IIZ)I"⟩
abbrev cX5_tenthsOf : ByteArray := prog_1_method_48_code
def yX5_tenthsOf : MethodName := ⟨RX5, "tenthsOf", "(I)J"⟩
abbrev cX5_inLowestTerms : ByteArray := prog_1_method_49_code
def yX5_inLowestTerms : MethodName := ⟨RX5, "inLowestTerms", "(JJI)J"⟩
abbrev cX5_greatestCommon : ByteArray := prog_1_method_50_code
def yX5_greatestCommon : MethodName := ⟨RX5, "greatestCommon", "(JJ)J"⟩
abbrev cX6_init : ByteArray := prog_8_method_1_code
def yX6_init : MethodName := ⟨RX6, "<init>", "()V"⟩
abbrev cX6_in : ByteArray := prog_8_method_3_code
def yX6_in : MethodName := ⟨RX6, "in", "(JJJ)Z"⟩
abbrev cX6_flag : ByteArray := prog_8_method_4_code
def yX6_flag : MethodName := ⟨RX6, "flag", "(Z)I"⟩
abbrev cX6_firstDraft : ByteArray := prog_8_method_5_code
def yX6_firstDraft : MethodName := ⟨RX6, "firstDraft", "()V"⟩
abbrev cX6_keepDraft : ByteArray := prog_8_method_6_code
def yX6_keepDraft : MethodName := ⟨RX6, "keepDraft", "()V"⟩
abbrev cX6_feed : ByteArray := prog_8_method_7_code
def yX6_feed : MethodName := ⟨RX6, "feed", "(I)I"⟩
abbrev cX6_end : ByteArray := prog_8_method_8_code
def yX6_end : MethodName := ⟨RX6, "end", "(I)I"⟩
abbrev cX6_needs : ByteArray := prog_8_method_9_code
def yX6_needs : MethodName := ⟨RX6, "needs", "(ZI)V"⟩
abbrev cX6_byteAt : ByteArray := prog_8_method_10_code
def yX6_byteAt : MethodName := ⟨RX6, "byteAt", "(I)I"⟩
abbrev cX6_is : ByteArray := prog_8_method_11_code
def yX6_is : MethodName := ⟨RX6, "is", "(IIIII)Z"⟩
abbrev cX6_ends : ByteArray := prog_8_method_12_code
def yX6_ends : MethodName := ⟨RX6, "ends", "(III)Z"⟩
abbrev cX6_lineNow : ByteArray := prog_8_method_13_code
def yX6_lineNow : MethodName := ⟨RX6, "lineNow", "()I"⟩
abbrev cX6_next : ByteArray := prog_8_method_14_code
def yX6_next : MethodName := ⟨RX6, "next", "()V"⟩
abbrev cX6_looked : ByteArray := prog_8_method_15_code
def yX6_looked : MethodName := ⟨RX6, "looked", "(II)I"⟩
abbrev cX6_readNumber : ByteArray := prog_8_method_16_code
def yX6_readNumber : MethodName := ⟨RX6, "readNumber", "(II)I"⟩
abbrev cX6_readMan : ByteArray := prog_8_method_17_code
def yX6_readMan : MethodName := ⟨RX6, "readMan", "(I)V"⟩
abbrev cX6_readMost : ByteArray := prog_8_method_18_code
def yX6_readMost : MethodName := ⟨RX6, "readMost", "()V"⟩
abbrev cX6_readKin : ByteArray := prog_8_method_19_code
def yX6_readKin : MethodName := ⟨RX6, "readKin", "()V"⟩
abbrev cX6_readLineOf : ByteArray := prog_8_method_20_code
def yX6_readLineOf : MethodName := ⟨RX6, "readLineOf", "(I)V"⟩
abbrev cX6_readLine : ByteArray := prog_8_method_21_code
def yX6_readLine : MethodName := ⟨RX6, "readLine", "()V"⟩
abbrev cX6_doFit : ByteArray := prog_8_method_22_code
def yX6_doFit : MethodName := ⟨RX6, "doFit", "()Z"⟩
abbrev cX6_text : ByteArray := prog_8_method_23_code
def yX6_text : MethodName := ⟨RX6, "text", "()I"⟩
abbrev cX6_fault : ByteArray := prog_8_method_24_code
def yX6_fault : MethodName := ⟨RX6, "fault", "()I"⟩
abbrev cX6_isMan : ByteArray := prog_8_method_25_code
def yX6_isMan : MethodName := ⟨RX6, "isMan", "(I)Z"⟩
abbrev cX6_isTen : ByteArray := prog_8_method_26_code
def yX6_isTen : MethodName := ⟨RX6, "isTen", "(I)Z"⟩
abbrev cX6_isPart : ByteArray := prog_8_method_27_code
def yX6_isPart : MethodName := ⟨RX6, "isPart", "(I)Z"⟩
abbrev cX6_bitsOf : ByteArray := prog_8_method_28_code
def yX6_bitsOf : MethodName := ⟨RX6, "bitsOf", "(I)I"⟩
abbrev cX6_starts : ByteArray := prog_8_method_29_code
def yX6_starts : MethodName := ⟨RX6, "starts", "()V"⟩
abbrev cX6_settles : ByteArray := prog_8_method_30_code
def yX6_settles : MethodName := ⟨RX6, "settles", "()V"⟩
abbrev cX6_of : ByteArray := prog_8_method_31_code
def yX6_of : MethodName := ⟨RX6, "of", "(II)I"⟩
abbrev cX6_becomesOf : ByteArray := prog_8_method_32_code
def yX6_becomesOf : MethodName := ⟨RX6, "becomesOf", "(III)V"⟩
abbrev cX6_menOf : ByteArray := prog_8_method_33_code
def yX6_menOf : MethodName := ⟨RX6, "menOf", "(I)I"⟩
abbrev cX6_isWatched : ByteArray := prog_8_method_34_code
def yX6_isWatched : MethodName := ⟨RX6, "isWatched", "(I)Z"⟩
abbrev cX6_oddsOf : ByteArray := prog_8_method_35_code
def yX6_oddsOf : MethodName := ⟨RX6, "oddsOf", "(I)I"⟩
abbrev cX6_harmOf : ByteArray := prog_8_method_36_code
def yX6_harmOf : MethodName := ⟨RX6, "harmOf", "(I)I"⟩
abbrev cX6_harmAll : ByteArray := prog_8_method_37_code
def yX6_harmAll : MethodName := ⟨RX6, "harmAll", "()I"⟩
abbrev cX6_allGoods : ByteArray := prog_8_method_38_code
def yX6_allGoods : MethodName := ⟨RX6, "allGoods", "(I)I"⟩
abbrev cX6_rule : ByteArray := prog_8_method_39_code
def yX6_rule : MethodName := ⟨RX6, "rule", "(I)I"⟩
abbrev cX6_man : ByteArray := prog_8_method_40_code
def yX6_man : MethodName := ⟨RX6, "man", "(II)I"⟩
abbrev cX6_ten : ByteArray := prog_8_method_41_code
def yX6_ten : MethodName := ⟨RX6, "ten", "(II)I"⟩
abbrev cX6_becomes : ByteArray := prog_8_method_42_code
def yX6_becomes : MethodName := ⟨RX6, "becomes", "(II)I"⟩
abbrev cX6_isWanderer : ByteArray := prog_8_method_43_code
def yX6_isWanderer : MethodName := ⟨RX6, "isWanderer", "(I)Z"⟩
abbrev cX6_isFull : ByteArray := prog_8_method_44_code
def yX6_isFull : MethodName := ⟨RX6, "isFull", "(I)Z"⟩
abbrev cX6_move : ByteArray := prog_8_method_45_code
def yX6_move : MethodName := ⟨RX6, "move", "(II)I"⟩
abbrev cX6_leave : ByteArray := prog_8_method_46_code
def yX6_leave : MethodName := ⟨RX6, "leave", "(I)I"⟩
abbrev cX6_swap : ByteArray := prog_8_method_47_code
def yX6_swap : MethodName := ⟨RX6, "swap", "(II)I"⟩
abbrev cX6_becomesBit : ByteArray := prog_8_method_48_code
def yX6_becomesBit : MethodName := ⟨RX6, "becomesBit", "(IIZ)I"⟩
abbrev cX6_watch : ByteArray := prog_8_method_49_code
def yX6_watch : MethodName := ⟨RX6, "watch", "(IZ)I"⟩
abbrev cX6_kin : ByteArray := prog_8_method_50_code
def yX6_kin : MethodName := ⟨RX6, "kin", "(IIZ)I"⟩
abbrev cX6_odd : ByteArray := prog_8_method_51_code
def yX6_odd : MethodName := ⟨RX6, "odd", "(II)I"⟩
abbrev cX6_law : ByteArray := prog_8_method_52_code
def yX6_law : MethodName := ⟨RX6, "law", "(II)I"⟩
abbrev cX6_goods : ByteArray := prog_8_method_53_code
def yX6_goods : MethodName := ⟨RX6, "goods", "(II)I"⟩
abbrev cX6_pay : ByteArray := prog_8_method_54_code
def yX6_pay : MethodName := ⟨RX6, "pay", "(II)I"⟩
abbrev cX6_runs : ByteArray := prog_8_method_55_code
def yX6_runs : MethodName := ⟨RX6, "runs", "(I)I"⟩
abbrev cX6_watches : ByteArray := prog_8_method_56_code
def yX6_watches : MethodName := ⟨RX6, "watches", "(I)I"⟩
abbrev cX6_yearGoes : ByteArray := prog_8_method_57_code
def yX6_yearGoes : MethodName := ⟨RX6, "yearGoes", "(I)I"⟩
abbrev cX6_saints : ByteArray := prog_8_method_58_code
def yX6_saints : MethodName := ⟨RX6, "saints", "()I"⟩
abbrev cX6_isWrong : ByteArray := prog_8_method_59_code
def yX6_isWrong : MethodName := ⟨RX6, "isWrong", "(I)Z"⟩
abbrev cX6_year : ByteArray := prog_8_method_60_code
def yX6_year : MethodName := ⟨RX6, "year", "(I)I"⟩
abbrev cX6_pays : ByteArray := prog_8_method_61_code
def yX6_pays : MethodName := ⟨RX6, "pays", "(II)I"⟩
abbrev cX6_harm : ByteArray := prog_8_method_62_code
def yX6_harm : MethodName := ⟨RX6, "harm", "()I"⟩
abbrev cX6_common : ByteArray := prog_8_method_63_code
def yX6_common : MethodName := ⟨RX6, "common", "(JJ)J"⟩
abbrev cX6_told : ByteArray := prog_8_method_64_code
def yX6_told : MethodName := ⟨RX6, "told", "(JJI)J"⟩
abbrev cX6_calm : ByteArray := prog_8_method_65_code
def yX6_calm : MethodName := ⟨RX6, "calm", "(II)J"⟩
abbrev cX6_findOdds : ByteArray := prog_8_method_66_code
def yX6_findOdds : MethodName := ⟨RX6, "findOdds", "()V"⟩
abbrev cX6_mean : ByteArray := prog_8_method_67_code
def yX6_mean : MethodName := ⟨RX6, "mean", "(II)J"⟩
abbrev cX6_puttings : ByteArray := prog_8_method_68_code
def yX6_puttings : MethodName := ⟨RX6, "puttings", "()I"⟩
abbrev cX6_putsBy : ByteArray := prog_8_method_69_code
def yX6_putsBy : MethodName := ⟨RX6, "putsBy", "(I)Z"⟩
abbrev cX6_best : ByteArray := prog_8_method_70_code
def yX6_best : MethodName := ⟨RX6, "best", "(I)I"⟩
abbrev cX6_change : ByteArray := prog_8_method_71_code
def yX6_change : MethodName := ⟨RX6, "change", "(I)I"⟩
abbrev cX6_takes : ByteArray := prog_8_method_72_code
def yX6_takes : MethodName := ⟨RX6, "takes", "(I)I"⟩
abbrev cX6_goesAway : ByteArray := prog_8_method_73_code
def yX6_goesAway : MethodName := ⟨RX6, "goesAway", "(I)V"⟩
abbrev cX6_weight : ByteArray := prog_8_method_74_code
def yX6_weight : MethodName := ⟨RX6, "weight", "(I)I"⟩
abbrev cX6_should : ByteArray := prog_8_method_75_code
def yX6_should : MethodName := ⟨RX6, "should", "(I)I"⟩
abbrev cX6_guard : ByteArray := prog_8_method_76_code
def yX6_guard : MethodName := ⟨RX6, "guard", "(I)I"⟩
abbrev cX6_worth : ByteArray := prog_8_method_77_code
def yX6_worth : MethodName := ⟨RX6, "worth", "(I)I"⟩
abbrev cX6_see : ByteArray := prog_8_method_78_code
def yX6_see : MethodName := ⟨RX6, "see", "(II)I"⟩
abbrev cX6_forget : ByteArray := prog_8_method_79_code
def yX6_forget : MethodName := ⟨RX6, "forget", "(I)I"⟩
abbrev cX6_isSo : ByteArray := prog_8_method_80_code
def yX6_isSo : MethodName := ⟨RX6, "isSo", "(I)Z"⟩
abbrev cX6_tensOf : ByteArray := prog_8_method_81_code
def yX6_tensOf : MethodName := ⟨RX6, "tensOf", "(I)I"⟩
abbrev cX6_fits : ByteArray := prog_8_method_82_code
def yX6_fits : MethodName := ⟨RX6, "fits", "(I)I"⟩
abbrev cX6_drift : ByteArray := prog_8_method_83_code
def yX6_drift : MethodName := ⟨RX6, "drift", "(III)I"⟩
abbrev cX6_copies : ByteArray := prog_8_method_84_code
def yX6_copies : MethodName := ⟨RX6, "copies", "(II)V"⟩
abbrev cX6_keep : ByteArray := prog_8_method_85_code
def yX6_keep : MethodName := ⟨RX6, "keep", "(I)I"⟩
abbrev cX6_back : ByteArray := prog_8_method_86_code
def yX6_back : MethodName := ⟨RX6, "back", "(I)I"⟩
abbrev cX6_isSheet : ByteArray := prog_8_method_87_code
def yX6_isSheet : MethodName := ⟨RX6, "isSheet", "(II)Z"⟩
abbrev cX6_sheet : ByteArray := prog_8_method_88_code
def yX6_sheet : MethodName := ⟨RX6, "sheet", "(III)I"⟩
abbrev cX6_lay : ByteArray := prog_8_method_89_code
def yX6_lay : MethodName := ⟨RX6, "lay", "(III)I"⟩
abbrev cX6_read : ByteArray := prog_8_method_90_code
def yX6_read : MethodName := ⟨RX6, "read", "(IIII)I"⟩
abbrev cX6_torn : ByteArray := prog_8_method_91_code
def yX6_torn : MethodName := ⟨RX6, "torn", "()I"⟩
abbrev cX6_count : ByteArray := prog_8_method_92_code
def yX6_count : MethodName := ⟨RX6, "count", "(I)I"⟩
abbrev cJ6_bitCount_0f7a4 : ByteArray := prog_9_method_49_code
def yJ6_bitCount_0f7a4 : MethodName := ⟨RJ6, "bitCount", "(I)I"⟩
abbrev cJ9_min_7cf53 : ByteArray := prog_10_method_69_code
def yJ9_min_7cf53 : MethodName := ⟨RJ9, "min", "(II)I"⟩
abbrev cJ0_length_8abf5 : ByteArray := prog_11_method_54_code
def yJ0_length_8abf5 : MethodName := ⟨RJ0, "length", "()I"⟩
abbrev cJ0_charAt_5068e : ByteArray := prog_11_method_56_code
def yJ0_charAt_5068e : MethodName := ⟨RJ0, "charAt", "(I)C"⟩
abbrev cJ0_coder_7d493 : ByteArray := prog_11_method_152_code
def yJ0_coder_7d493 : MethodName := ⟨RJ0, "coder", "()B"⟩
abbrev cJ0_isLatin1_aae02 : ByteArray := prog_11_method_154_code
def yJ0_isLatin1_aae02 : MethodName := ⟨RJ0, "isLatin1", "()Z"⟩
abbrev cJ0_checkIndex_df160 : ByteArray := prog_11_method_155_code
def yJ0_checkIndex_df160 : MethodName := ⟨RJ0, "checkIndex", "(II)V"⟩
abbrev cJ1_charAt_3b067 : ByteArray := prog_12_method_2_code
def yJ1_charAt_3b067 : MethodName := ⟨RJ1, "charAt", "([BI)C"⟩
abbrev cJ3_checkIndex_8e157 : ByteArray := prog_14_method_11_code
def yJ3_checkIndex_8e157 : MethodName := ⟨RJ3, "checkIndex", "(IILjava/util/function/BiFunction;)I"⟩
abbrev cL_law : ByteArray := code
def yL_law : MethodName := ⟨RL, "law", "([I)Z"⟩
