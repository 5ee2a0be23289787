section
-- ===== PART A: goes FIRST, ahead of the names: the tables' words, and 'selects' of the private methods out of them =====
/-- a private method of a class that the tables say can be made, by its rows of tables_1 -/
def lw_okq (q : MethodName × Nat) : Prop := (q.1.cls ≠ "java/lang/invoke/MethodHandle" ∧ q.1.cls ≠ "java/lang/invoke/VarHandle") ∧ Cond.instantiable q.1.cls q.2 ∈ tables_1 ∧ Cond.privateMethod q.1 ∈ tables_1 ∧ Cond.instanceMethod q.1 ∈ tables_1
theorem lw_p0 : lw_okq (⟨"TenPledges$Teller", "start", "([BILTenPledges$Town;)V"⟩, 15) := ⟨⟨by decide +kernel, by decide +kernel⟩, List.mem_of_getElem? (i := 104) (by decide +kernel), List.mem_of_getElem? (i := 286) (by decide +kernel), List.mem_of_getElem? (i := 287) (by decide +kernel)⟩
theorem lw_p1 : lw_okq (⟨"TenPledges$Teller", "nextToken", "()Z"⟩, 15) := ⟨⟨by decide +kernel, by decide +kernel⟩, List.mem_of_getElem? (i := 104) (by decide +kernel), List.mem_of_getElem? (i := 294) (by decide +kernel), List.mem_of_getElem? (i := 295) (by decide +kernel)⟩
theorem lw_p2 : lw_okq (⟨"TenPledges$Teller", "pass", "(CC)V"⟩, 15) := ⟨⟨by decide +kernel, by decide +kernel⟩, List.mem_of_getElem? (i := 104) (by decide +kernel), List.mem_of_getElem? (i := 301) (by decide +kernel), List.mem_of_getElem? (i := 302) (by decide +kernel)⟩
theorem lw_p3 : lw_okq (⟨"TenPledges$Teller", "takeFigures", "()Z"⟩, 15) := ⟨⟨by decide +kernel, by decide +kernel⟩, List.mem_of_getElem? (i := 104) (by decide +kernel), List.mem_of_getElem? (i := 305) (by decide +kernel), List.mem_of_getElem? (i := 306) (by decide +kernel)⟩
theorem lw_p4 : lw_okq (⟨"TenPledges$Teller", "refuse", "(II)Z"⟩, 15) := ⟨⟨by decide +kernel, by decide +kernel⟩, List.mem_of_getElem? (i := 104) (by decide +kernel), List.mem_of_getElem? (i := 309) (by decide +kernel), List.mem_of_getElem? (i := 310) (by decide +kernel)⟩
theorem lw_p5 : lw_okq (⟨"TenPledges$Teller", "agrees", "()Z"⟩, 15) := ⟨⟨by decide +kernel, by decide +kernel⟩, List.mem_of_getElem? (i := 104) (by decide +kernel), List.mem_of_getElem? (i := 313) (by decide +kernel), List.mem_of_getElem? (i := 314) (by decide +kernel)⟩
theorem lw_p6 : lw_okq (⟨"TenPledges$Teller", "takeLine", "()Z"⟩, 15) := ⟨⟨by decide +kernel, by decide +kernel⟩, List.mem_of_getElem? (i := 104) (by decide +kernel), List.mem_of_getElem? (i := 335) (by decide +kernel), List.mem_of_getElem? (i := 336) (by decide +kernel)⟩
theorem lw_p7 : lw_okq (⟨"TenPledges$Teller", "wordHere", "()I"⟩, 15) := ⟨⟨by decide +kernel, by decide +kernel⟩, List.mem_of_getElem? (i := 104) (by decide +kernel), List.mem_of_getElem? (i := 339) (by decide +kernel), List.mem_of_getElem? (i := 340) (by decide +kernel)⟩
theorem lw_p8 : lw_okq (⟨"TenPledges$Teller", "isHere", "(Ljava/lang/String;)Z"⟩, 15) := ⟨⟨by decide +kernel, by decide +kernel⟩, List.mem_of_getElem? (i := 104) (by decide +kernel), List.mem_of_getElem? (i := 354) (by decide +kernel), List.mem_of_getElem? (i := 355) (by decide +kernel)⟩
theorem lw_p9 : lw_okq (⟨"TenPledges$Teller", "takeNumber", "(II)Z"⟩, 15) := ⟨⟨by decide +kernel, by decide +kernel⟩, List.mem_of_getElem? (i := 104) (by decide +kernel), List.mem_of_getElem? (i := 408) (by decide +kernel), List.mem_of_getElem? (i := 409) (by decide +kernel)⟩
theorem lw_p10 : lw_okq (⟨"TenPledges$Teller", "putDown", "(I)V"⟩, 15) := ⟨⟨by decide +kernel, by decide +kernel⟩, List.mem_of_getElem? (i := 104) (by decide +kernel), List.mem_of_getElem? (i := 419) (by decide +kernel), List.mem_of_getElem? (i := 420) (by decide +kernel)⟩
theorem lw_p11 : lw_okq (⟨"TenPledges", "refusalInTen", "(I)I"⟩, 12) := ⟨⟨by decide +kernel, by decide +kernel⟩, List.mem_of_getElem? (i := 15) (by decide +kernel), List.mem_of_getElem? (i := 515) (by decide +kernel), List.mem_of_getElem? (i := 516) (by decide +kernel)⟩
theorem lw_p12 : lw_okq (⟨"TenPledges", "isPair", "(II)Z"⟩, 12) := ⟨⟨by decide +kernel, by decide +kernel⟩, List.mem_of_getElem? (i := 15) (by decide +kernel), List.mem_of_getElem? (i := 527) (by decide +kernel), List.mem_of_getElem? (i := 528) (by decide +kernel)⟩
theorem lw_p13 : lw_okq (⟨"TenPledges", "finesOnTrial", "(II)I"⟩, 12) := ⟨⟨by decide +kernel, by decide +kernel⟩, List.mem_of_getElem? (i := 15) (by decide +kernel), List.mem_of_getElem? (i := 598) (by decide +kernel), List.mem_of_getElem? (i := 599) (by decide +kernel)⟩
theorem lw_p14 : lw_okq (⟨"TenPledges$Putting", "seatFrom", "(I)V"⟩, 6) := ⟨⟨by decide +kernel, by decide +kernel⟩, List.mem_of_getElem? (i := 161) (by decide +kernel), List.mem_of_getElem? (i := 646) (by decide +kernel), List.mem_of_getElem? (i := 647) (by decide +kernel)⟩
theorem lw_p15 : lw_okq (⟨"TenPledges$Putting", "atLeastHarm", "(I)I"⟩, 6) := ⟨⟨by decide +kernel, by decide +kernel⟩, List.mem_of_getElem? (i := 161) (by decide +kernel), List.mem_of_getElem? (i := 650) (by decide +kernel), List.mem_of_getElem? (i := 651) (by decide +kernel)⟩
def lw_privs_1 : List (MethodName × Nat) := [(⟨"TenPledges$Teller", "start", "([BILTenPledges$Town;)V"⟩, 15), (⟨"TenPledges$Teller", "nextToken", "()Z"⟩, 15), (⟨"TenPledges$Teller", "pass", "(CC)V"⟩, 15), (⟨"TenPledges$Teller", "takeFigures", "()Z"⟩, 15), (⟨"TenPledges$Teller", "refuse", "(II)Z"⟩, 15), (⟨"TenPledges$Teller", "agrees", "()Z"⟩, 15), (⟨"TenPledges$Teller", "takeLine", "()Z"⟩, 15), (⟨"TenPledges$Teller", "wordHere", "()I"⟩, 15), (⟨"TenPledges$Teller", "isHere", "(Ljava/lang/String;)Z"⟩, 15), (⟨"TenPledges$Teller", "takeNumber", "(II)Z"⟩, 15), (⟨"TenPledges$Teller", "putDown", "(I)V"⟩, 15), (⟨"TenPledges", "refusalInTen", "(I)I"⟩, 12), (⟨"TenPledges", "isPair", "(II)Z"⟩, 12), (⟨"TenPledges", "finesOnTrial", "(II)I"⟩, 12), (⟨"TenPledges$Putting", "seatFrom", "(I)V"⟩, 6), (⟨"TenPledges$Putting", "atLeastHarm", "(I)I"⟩, 6)]
theorem lw_r1 : ∀ q ∈ lw_privs_1, lw_okq q := List.forall_mem_cons.mpr ⟨lw_p0, List.forall_mem_cons.mpr ⟨lw_p1, List.forall_mem_cons.mpr ⟨lw_p2, List.forall_mem_cons.mpr ⟨lw_p3, List.forall_mem_cons.mpr ⟨lw_p4, List.forall_mem_cons.mpr ⟨lw_p5, List.forall_mem_cons.mpr ⟨lw_p6, List.forall_mem_cons.mpr ⟨lw_p7, List.forall_mem_cons.mpr ⟨lw_p8, List.forall_mem_cons.mpr ⟨lw_p9, List.forall_mem_cons.mpr ⟨lw_p10, List.forall_mem_cons.mpr ⟨lw_p11, List.forall_mem_cons.mpr ⟨lw_p12, List.forall_mem_cons.mpr ⟨lw_p13, List.forall_mem_cons.mpr ⟨lw_p14, List.forall_mem_cons.mpr ⟨lw_p15, fun _ h => absurd h List.not_mem_nil⟩⟩⟩⟩⟩⟩⟩⟩⟩⟩⟩⟩⟩⟩⟩⟩
theorem lw_p16 : lw_okq (⟨"TenPledges$Putting", "fewestRough", "()I"⟩, 6) := ⟨⟨by decide +kernel, by decide +kernel⟩, List.mem_of_getElem? (i := 161) (by decide +kernel), List.mem_of_getElem? (i := 654) (by decide +kernel), List.mem_of_getElem? (i := 655) (by decide +kernel)⟩
theorem lw_p17 : lw_okq (⟨"TenPledges$Putting", "takeIt", "(I)V"⟩, 6) := ⟨⟨by decide +kernel, by decide +kernel⟩, List.mem_of_getElem? (i := 161) (by decide +kernel), List.mem_of_getElem? (i := 662) (by decide +kernel), List.mem_of_getElem? (i := 663) (by decide +kernel)⟩
theorem lw_p18 : lw_okq (⟨"TenPledges$Putting", "isLikeEarlier", "(I)Z"⟩, 6) := ⟨⟨by decide +kernel, by decide +kernel⟩, List.mem_of_getElem? (i := 161) (by decide +kernel), List.mem_of_getElem? (i := 666) (by decide +kernel), List.mem_of_getElem? (i := 667) (by decide +kernel)⟩
theorem lw_p19 : lw_okq (⟨"TenPledges", "harmBySwap", "(II)I"⟩, 12) := ⟨⟨by decide +kernel, by decide +kernel⟩, List.mem_of_getElem? (i := 15) (by decide +kernel), List.mem_of_getElem? (i := 674) (by decide +kernel), List.mem_of_getElem? (i := 675) (by decide +kernel)⟩
theorem lw_p20 : lw_okq (⟨"TenPledges$Fitting", "addSet", "(II)V"⟩, 5) := ⟨⟨by decide +kernel, by decide +kernel⟩, List.mem_of_getElem? (i := 188) (by decide +kernel), List.mem_of_getElem? (i := 731) (by decide +kernel), List.mem_of_getElem? (i := 732) (by decide +kernel)⟩
theorem lw_p21 : lw_okq (⟨"TenPledgesModel", "firstDraft", "()V"⟩, 26) := ⟨⟨by decide +kernel, by decide +kernel⟩, List.mem_of_getElem? (i := 790) (by decide +kernel), List.mem_of_getElem? (i := 796) (by decide +kernel), List.mem_of_getElem? (i := 797) (by decide +kernel)⟩
theorem lw_p22 : lw_okq (⟨"TenPledgesModel", "keepDraft", "()V"⟩, 26) := ⟨⟨by decide +kernel, by decide +kernel⟩, List.mem_of_getElem? (i := 790) (by decide +kernel), List.mem_of_getElem? (i := 800) (by decide +kernel), List.mem_of_getElem? (i := 801) (by decide +kernel)⟩
theorem lw_p23 : lw_okq (⟨"TenPledgesModel", "next", "()V"⟩, 26) := ⟨⟨by decide +kernel, by decide +kernel⟩, List.mem_of_getElem? (i := 790) (by decide +kernel), List.mem_of_getElem? (i := 899) (by decide +kernel), List.mem_of_getElem? (i := 900) (by decide +kernel)⟩
theorem lw_p24 : lw_okq (⟨"TenPledgesModel", "byteAt", "(I)I"⟩, 26) := ⟨⟨by decide +kernel, by decide +kernel⟩, List.mem_of_getElem? (i := 790) (by decide +kernel), List.mem_of_getElem? (i := 903) (by decide +kernel), List.mem_of_getElem? (i := 904) (by decide +kernel)⟩
theorem lw_p25 : lw_okq (⟨"TenPledgesModel", "needs", "(ZI)V"⟩, 26) := ⟨⟨by decide +kernel, by decide +kernel⟩, List.mem_of_getElem? (i := 790) (by decide +kernel), List.mem_of_getElem? (i := 911) (by decide +kernel), List.mem_of_getElem? (i := 912) (by decide +kernel)⟩
theorem lw_p26 : lw_okq (⟨"TenPledgesModel", "readLine", "()V"⟩, 26) := ⟨⟨by decide +kernel, by decide +kernel⟩, List.mem_of_getElem? (i := 790) (by decide +kernel), List.mem_of_getElem? (i := 915) (by decide +kernel), List.mem_of_getElem? (i := 916) (by decide +kernel)⟩
theorem lw_p27 : lw_okq (⟨"TenPledgesModel", "lineNow", "()I"⟩, 26) := ⟨⟨by decide +kernel, by decide +kernel⟩, List.mem_of_getElem? (i := 790) (by decide +kernel), List.mem_of_getElem? (i := 919) (by decide +kernel), List.mem_of_getElem? (i := 920) (by decide +kernel)⟩
theorem lw_p28 : lw_okq (⟨"TenPledgesModel", "is", "(IIIII)Z"⟩, 26) := ⟨⟨by decide +kernel, by decide +kernel⟩, List.mem_of_getElem? (i := 790) (by decide +kernel), List.mem_of_getElem? (i := 923) (by decide +kernel), List.mem_of_getElem? (i := 924) (by decide +kernel)⟩
theorem lw_p29 : lw_okq (⟨"TenPledgesModel", "ends", "(III)Z"⟩, 26) := ⟨⟨by decide +kernel, by decide +kernel⟩, List.mem_of_getElem? (i := 790) (by decide +kernel), List.mem_of_getElem? (i := 927) (by decide +kernel), List.mem_of_getElem? (i := 928) (by decide +kernel)⟩
theorem lw_p30 : lw_okq (⟨"TenPledgesModel", "readLineOf", "(I)V"⟩, 26) := ⟨⟨by decide +kernel, by decide +kernel⟩, List.mem_of_getElem? (i := 790) (by decide +kernel), List.mem_of_getElem? (i := 933) (by decide +kernel), List.mem_of_getElem? (i := 934) (by decide +kernel)⟩
theorem lw_p31 : lw_okq (⟨"TenPledgesModel", "readNumber", "(II)I"⟩, 26) := ⟨⟨by decide +kernel, by decide +kernel⟩, List.mem_of_getElem? (i := 790) (by decide +kernel), List.mem_of_getElem? (i := 937) (by decide +kernel), List.mem_of_getElem? (i := 938) (by decide +kernel)⟩
def lw_privs_2 : List (MethodName × Nat) := [(⟨"TenPledges$Putting", "fewestRough", "()I"⟩, 6), (⟨"TenPledges$Putting", "takeIt", "(I)V"⟩, 6), (⟨"TenPledges$Putting", "isLikeEarlier", "(I)Z"⟩, 6), (⟨"TenPledges", "harmBySwap", "(II)I"⟩, 12), (⟨"TenPledges$Fitting", "addSet", "(II)V"⟩, 5), (⟨"TenPledgesModel", "firstDraft", "()V"⟩, 26), (⟨"TenPledgesModel", "keepDraft", "()V"⟩, 26), (⟨"TenPledgesModel", "next", "()V"⟩, 26), (⟨"TenPledgesModel", "byteAt", "(I)I"⟩, 26), (⟨"TenPledgesModel", "needs", "(ZI)V"⟩, 26), (⟨"TenPledgesModel", "readLine", "()V"⟩, 26), (⟨"TenPledgesModel", "lineNow", "()I"⟩, 26), (⟨"TenPledgesModel", "is", "(IIIII)Z"⟩, 26), (⟨"TenPledgesModel", "ends", "(III)Z"⟩, 26), (⟨"TenPledgesModel", "readLineOf", "(I)V"⟩, 26), (⟨"TenPledgesModel", "readNumber", "(II)I"⟩, 26)]
theorem lw_r2 : ∀ q ∈ lw_privs_2, lw_okq q := List.forall_mem_cons.mpr ⟨lw_p16, List.forall_mem_cons.mpr ⟨lw_p17, List.forall_mem_cons.mpr ⟨lw_p18, List.forall_mem_cons.mpr ⟨lw_p19, List.forall_mem_cons.mpr ⟨lw_p20, List.forall_mem_cons.mpr ⟨lw_p21, List.forall_mem_cons.mpr ⟨lw_p22, List.forall_mem_cons.mpr ⟨lw_p23, List.forall_mem_cons.mpr ⟨lw_p24, List.forall_mem_cons.mpr ⟨lw_p25, List.forall_mem_cons.mpr ⟨lw_p26, List.forall_mem_cons.mpr ⟨lw_p27, List.forall_mem_cons.mpr ⟨lw_p28, List.forall_mem_cons.mpr ⟨lw_p29, List.forall_mem_cons.mpr ⟨lw_p30, List.forall_mem_cons.mpr ⟨lw_p31, fun _ h => absurd h List.not_mem_nil⟩⟩⟩⟩⟩⟩⟩⟩⟩⟩⟩⟩⟩⟩⟩⟩
theorem lw_p32 : lw_okq (⟨"TenPledgesModel", "looked", "(II)I"⟩, 26) := ⟨⟨by decide +kernel, by decide +kernel⟩, List.mem_of_getElem? (i := 790) (by decide +kernel), List.mem_of_getElem? (i := 941) (by decide +kernel), List.mem_of_getElem? (i := 942) (by decide +kernel)⟩
theorem lw_p33 : lw_okq (⟨"TenPledgesModel", "readMost", "()V"⟩, 26) := ⟨⟨by decide +kernel, by decide +kernel⟩, List.mem_of_getElem? (i := 790) (by decide +kernel), List.mem_of_getElem? (i := 945) (by decide +kernel), List.mem_of_getElem? (i := 946) (by decide +kernel)⟩
theorem lw_p34 : lw_okq (⟨"TenPledgesModel", "readKin", "()V"⟩, 26) := ⟨⟨by decide +kernel, by decide +kernel⟩, List.mem_of_getElem? (i := 790) (by decide +kernel), List.mem_of_getElem? (i := 949) (by decide +kernel), List.mem_of_getElem? (i := 950) (by decide +kernel)⟩
theorem lw_p35 : lw_okq (⟨"TenPledgesModel", "readMan", "(I)V"⟩, 26) := ⟨⟨by decide +kernel, by decide +kernel⟩, List.mem_of_getElem? (i := 790) (by decide +kernel), List.mem_of_getElem? (i := 953) (by decide +kernel), List.mem_of_getElem? (i := 954) (by decide +kernel)⟩
theorem lw_p36 : lw_okq (⟨"TenPledgesModel", "doFit", "()Z"⟩, 26) := ⟨⟨by decide +kernel, by decide +kernel⟩, List.mem_of_getElem? (i := 790) (by decide +kernel), List.mem_of_getElem? (i := 957) (by decide +kernel), List.mem_of_getElem? (i := 958) (by decide +kernel)⟩
theorem lw_p37 : lw_okq (⟨"TenPledgesModel", "isMan", "(I)Z"⟩, 26) := ⟨⟨by decide +kernel, by decide +kernel⟩, List.mem_of_getElem? (i := 790) (by decide +kernel), List.mem_of_getElem? (i := 976) (by decide +kernel), List.mem_of_getElem? (i := 977) (by decide +kernel)⟩
theorem lw_p38 : lw_okq (⟨"TenPledgesModel", "starts", "()V"⟩, 26) := ⟨⟨by decide +kernel, by decide +kernel⟩, List.mem_of_getElem? (i := 790) (by decide +kernel), List.mem_of_getElem? (i := 980) (by decide +kernel), List.mem_of_getElem? (i := 981) (by decide +kernel)⟩
theorem lw_p39 : lw_okq (⟨"TenPledgesModel", "of", "(II)I"⟩, 26) := ⟨⟨by decide +kernel, by decide +kernel⟩, List.mem_of_getElem? (i := 790) (by decide +kernel), List.mem_of_getElem? (i := 984) (by decide +kernel), List.mem_of_getElem? (i := 985) (by decide +kernel)⟩
theorem lw_p40 : lw_okq (⟨"TenPledgesModel", "oddsOf", "(I)I"⟩, 26) := ⟨⟨by decide +kernel, by decide +kernel⟩, List.mem_of_getElem? (i := 790) (by decide +kernel), List.mem_of_getElem? (i := 988) (by decide +kernel), List.mem_of_getElem? (i := 989) (by decide +kernel)⟩
theorem lw_p41 : lw_okq (⟨"TenPledgesModel", "isWatched", "(I)Z"⟩, 26) := ⟨⟨by decide +kernel, by decide +kernel⟩, List.mem_of_getElem? (i := 790) (by decide +kernel), List.mem_of_getElem? (i := 992) (by decide +kernel), List.mem_of_getElem? (i := 993) (by decide +kernel)⟩
theorem lw_p42 : lw_okq (⟨"TenPledgesModel", "menOf", "(I)I"⟩, 26) := ⟨⟨by decide +kernel, by decide +kernel⟩, List.mem_of_getElem? (i := 790) (by decide +kernel), List.mem_of_getElem? (i := 1004) (by decide +kernel), List.mem_of_getElem? (i := 1005) (by decide +kernel)⟩
theorem lw_p43 : lw_okq (⟨"TenPledgesModel", "harmOf", "(I)I"⟩, 26) := ⟨⟨by decide +kernel, by decide +kernel⟩, List.mem_of_getElem? (i := 790) (by decide +kernel), List.mem_of_getElem? (i := 1008) (by decide +kernel), List.mem_of_getElem? (i := 1009) (by decide +kernel)⟩
theorem lw_p44 : lw_okq (⟨"TenPledgesModel", "allGoods", "(I)I"⟩, 26) := ⟨⟨by decide +kernel, by decide +kernel⟩, List.mem_of_getElem? (i := 790) (by decide +kernel), List.mem_of_getElem? (i := 1012) (by decide +kernel), List.mem_of_getElem? (i := 1013) (by decide +kernel)⟩
theorem lw_p45 : lw_okq (⟨"TenPledgesModel", "isFull", "(I)Z"⟩, 26) := ⟨⟨by decide +kernel, by decide +kernel⟩, List.mem_of_getElem? (i := 790) (by decide +kernel), List.mem_of_getElem? (i := 1020) (by decide +kernel), List.mem_of_getElem? (i := 1021) (by decide +kernel)⟩
theorem lw_p46 : lw_okq (⟨"TenPledgesModel", "becomes", "(II)I"⟩, 26) := ⟨⟨by decide +kernel, by decide +kernel⟩, List.mem_of_getElem? (i := 790) (by decide +kernel), List.mem_of_getElem? (i := 1027) (by decide +kernel), List.mem_of_getElem? (i := 1028) (by decide +kernel)⟩
theorem lw_p47 : lw_okq (⟨"TenPledgesModel", "isWanderer", "(I)Z"⟩, 26) := ⟨⟨by decide +kernel, by decide +kernel⟩, List.mem_of_getElem? (i := 790) (by decide +kernel), List.mem_of_getElem? (i := 1035) (by decide +kernel), List.mem_of_getElem? (i := 1036) (by decide +kernel)⟩
def lw_privs_3 : List (MethodName × Nat) := [(⟨"TenPledgesModel", "looked", "(II)I"⟩, 26), (⟨"TenPledgesModel", "readMost", "()V"⟩, 26), (⟨"TenPledgesModel", "readKin", "()V"⟩, 26), (⟨"TenPledgesModel", "readMan", "(I)V"⟩, 26), (⟨"TenPledgesModel", "doFit", "()Z"⟩, 26), (⟨"TenPledgesModel", "isMan", "(I)Z"⟩, 26), (⟨"TenPledgesModel", "starts", "()V"⟩, 26), (⟨"TenPledgesModel", "of", "(II)I"⟩, 26), (⟨"TenPledgesModel", "oddsOf", "(I)I"⟩, 26), (⟨"TenPledgesModel", "isWatched", "(I)Z"⟩, 26), (⟨"TenPledgesModel", "menOf", "(I)I"⟩, 26), (⟨"TenPledgesModel", "harmOf", "(I)I"⟩, 26), (⟨"TenPledgesModel", "allGoods", "(I)I"⟩, 26), (⟨"TenPledgesModel", "isFull", "(I)Z"⟩, 26), (⟨"TenPledgesModel", "becomes", "(II)I"⟩, 26), (⟨"TenPledgesModel", "isWanderer", "(I)Z"⟩, 26)]
theorem lw_r3 : ∀ q ∈ lw_privs_3, lw_okq q := List.forall_mem_cons.mpr ⟨lw_p32, List.forall_mem_cons.mpr ⟨lw_p33, List.forall_mem_cons.mpr ⟨lw_p34, List.forall_mem_cons.mpr ⟨lw_p35, List.forall_mem_cons.mpr ⟨lw_p36, List.forall_mem_cons.mpr ⟨lw_p37, List.forall_mem_cons.mpr ⟨lw_p38, List.forall_mem_cons.mpr ⟨lw_p39, List.forall_mem_cons.mpr ⟨lw_p40, List.forall_mem_cons.mpr ⟨lw_p41, List.forall_mem_cons.mpr ⟨lw_p42, List.forall_mem_cons.mpr ⟨lw_p43, List.forall_mem_cons.mpr ⟨lw_p44, List.forall_mem_cons.mpr ⟨lw_p45, List.forall_mem_cons.mpr ⟨lw_p46, List.forall_mem_cons.mpr ⟨lw_p47, fun _ h => absurd h List.not_mem_nil⟩⟩⟩⟩⟩⟩⟩⟩⟩⟩⟩⟩⟩⟩⟩⟩
theorem lw_p48 : lw_okq (⟨"TenPledgesModel", "becomesBit", "(IIZ)I"⟩, 26) := ⟨⟨by decide +kernel, by decide +kernel⟩, List.mem_of_getElem? (i := 790) (by decide +kernel), List.mem_of_getElem? (i := 1047) (by decide +kernel), List.mem_of_getElem? (i := 1048) (by decide +kernel)⟩
theorem lw_p49 : lw_okq (⟨"TenPledgesModel", "isWrong", "(I)Z"⟩, 26) := ⟨⟨by decide +kernel, by decide +kernel⟩, List.mem_of_getElem? (i := 790) (by decide +kernel), List.mem_of_getElem? (i := 1076) (by decide +kernel), List.mem_of_getElem? (i := 1077) (by decide +kernel)⟩
theorem lw_p50 : lw_okq (⟨"TenPledgesModel", "saints", "()I"⟩, 26) := ⟨⟨by decide +kernel, by decide +kernel⟩, List.mem_of_getElem? (i := 790) (by decide +kernel), List.mem_of_getElem? (i := 1080) (by decide +kernel), List.mem_of_getElem? (i := 1081) (by decide +kernel)⟩
theorem lw_p51 : lw_okq (⟨"TenPledgesModel", "yearGoes", "(I)I"⟩, 26) := ⟨⟨by decide +kernel, by decide +kernel⟩, List.mem_of_getElem? (i := 790) (by decide +kernel), List.mem_of_getElem? (i := 1084) (by decide +kernel), List.mem_of_getElem? (i := 1085) (by decide +kernel)⟩
theorem lw_p52 : lw_okq (⟨"TenPledgesModel", "runs", "(I)I"⟩, 26) := ⟨⟨by decide +kernel, by decide +kernel⟩, List.mem_of_getElem? (i := 790) (by decide +kernel), List.mem_of_getElem? (i := 1088) (by decide +kernel), List.mem_of_getElem? (i := 1089) (by decide +kernel)⟩
theorem lw_p53 : lw_okq (⟨"TenPledgesModel", "pay", "(II)I"⟩, 26) := ⟨⟨by decide +kernel, by decide +kernel⟩, List.mem_of_getElem? (i := 790) (by decide +kernel), List.mem_of_getElem? (i := 1092) (by decide +kernel), List.mem_of_getElem? (i := 1093) (by decide +kernel)⟩
theorem lw_p54 : lw_okq (⟨"TenPledgesModel", "becomesOf", "(III)V"⟩, 26) := ⟨⟨by decide +kernel, by decide +kernel⟩, List.mem_of_getElem? (i := 790) (by decide +kernel), List.mem_of_getElem? (i := 1096) (by decide +kernel), List.mem_of_getElem? (i := 1097) (by decide +kernel)⟩
theorem lw_p55 : lw_okq (⟨"TenPledgesModel", "watches", "(I)I"⟩, 26) := ⟨⟨by decide +kernel, by decide +kernel⟩, List.mem_of_getElem? (i := 790) (by decide +kernel), List.mem_of_getElem? (i := 1100) (by decide +kernel), List.mem_of_getElem? (i := 1101) (by decide +kernel)⟩
theorem lw_p56 : lw_okq (⟨"TenPledgesModel", "settles", "()V"⟩, 26) := ⟨⟨by decide +kernel, by decide +kernel⟩, List.mem_of_getElem? (i := 790) (by decide +kernel), List.mem_of_getElem? (i := 1104) (by decide +kernel), List.mem_of_getElem? (i := 1105) (by decide +kernel)⟩
theorem lw_p57 : lw_okq (⟨"TenPledgesModel", "harmAll", "()I"⟩, 26) := ⟨⟨by decide +kernel, by decide +kernel⟩, List.mem_of_getElem? (i := 790) (by decide +kernel), List.mem_of_getElem? (i := 1116) (by decide +kernel), List.mem_of_getElem? (i := 1117) (by decide +kernel)⟩
theorem lw_p58 : lw_okq (⟨"TenPledgesModel", "findOdds", "()V"⟩, 26) := ⟨⟨by decide +kernel, by decide +kernel⟩, List.mem_of_getElem? (i := 790) (by decide +kernel), List.mem_of_getElem? (i := 1136) (by decide +kernel), List.mem_of_getElem? (i := 1137) (by decide +kernel)⟩
theorem lw_p59 : lw_okq (⟨"TenPledgesModel", "puttings", "()I"⟩, 26) := ⟨⟨by decide +kernel, by decide +kernel⟩, List.mem_of_getElem? (i := 790) (by decide +kernel), List.mem_of_getElem? (i := 1145) (by decide +kernel), List.mem_of_getElem? (i := 1146) (by decide +kernel)⟩
theorem lw_p60 : lw_okq (⟨"TenPledgesModel", "putsBy", "(I)Z"⟩, 26) := ⟨⟨by decide +kernel, by decide +kernel⟩, List.mem_of_getElem? (i := 790) (by decide +kernel), List.mem_of_getElem? (i := 1149) (by decide +kernel), List.mem_of_getElem? (i := 1150) (by decide +kernel)⟩
theorem lw_p61 : lw_okq (⟨"TenPledgesModel", "goesAway", "(I)V"⟩, 26) := ⟨⟨by decide +kernel, by decide +kernel⟩, List.mem_of_getElem? (i := 790) (by decide +kernel), List.mem_of_getElem? (i := 1166) (by decide +kernel), List.mem_of_getElem? (i := 1167) (by decide +kernel)⟩
theorem lw_p62 : lw_okq (⟨"TenPledgesModel", "isSo", "(I)Z"⟩, 26) := ⟨⟨by decide +kernel, by decide +kernel⟩, List.mem_of_getElem? (i := 790) (by decide +kernel), List.mem_of_getElem? (i := 1195) (by decide +kernel), List.mem_of_getElem? (i := 1196) (by decide +kernel)⟩
theorem lw_p63 : lw_okq (⟨"TenPledgesModel", "tensOf", "(I)I"⟩, 26) := ⟨⟨by decide +kernel, by decide +kernel⟩, List.mem_of_getElem? (i := 790) (by decide +kernel), List.mem_of_getElem? (i := 1199) (by decide +kernel), List.mem_of_getElem? (i := 1200) (by decide +kernel)⟩
def lw_privs_4 : List (MethodName × Nat) := [(⟨"TenPledgesModel", "becomesBit", "(IIZ)I"⟩, 26), (⟨"TenPledgesModel", "isWrong", "(I)Z"⟩, 26), (⟨"TenPledgesModel", "saints", "()I"⟩, 26), (⟨"TenPledgesModel", "yearGoes", "(I)I"⟩, 26), (⟨"TenPledgesModel", "runs", "(I)I"⟩, 26), (⟨"TenPledgesModel", "pay", "(II)I"⟩, 26), (⟨"TenPledgesModel", "becomesOf", "(III)V"⟩, 26), (⟨"TenPledgesModel", "watches", "(I)I"⟩, 26), (⟨"TenPledgesModel", "settles", "()V"⟩, 26), (⟨"TenPledgesModel", "harmAll", "()I"⟩, 26), (⟨"TenPledgesModel", "findOdds", "()V"⟩, 26), (⟨"TenPledgesModel", "puttings", "()I"⟩, 26), (⟨"TenPledgesModel", "putsBy", "(I)Z"⟩, 26), (⟨"TenPledgesModel", "goesAway", "(I)V"⟩, 26), (⟨"TenPledgesModel", "isSo", "(I)Z"⟩, 26), (⟨"TenPledgesModel", "tensOf", "(I)I"⟩, 26)]
theorem lw_r4 : ∀ q ∈ lw_privs_4, lw_okq q := List.forall_mem_cons.mpr ⟨lw_p48, List.forall_mem_cons.mpr ⟨lw_p49, List.forall_mem_cons.mpr ⟨lw_p50, List.forall_mem_cons.mpr ⟨lw_p51, List.forall_mem_cons.mpr ⟨lw_p52, List.forall_mem_cons.mpr ⟨lw_p53, List.forall_mem_cons.mpr ⟨lw_p54, List.forall_mem_cons.mpr ⟨lw_p55, List.forall_mem_cons.mpr ⟨lw_p56, List.forall_mem_cons.mpr ⟨lw_p57, List.forall_mem_cons.mpr ⟨lw_p58, List.forall_mem_cons.mpr ⟨lw_p59, List.forall_mem_cons.mpr ⟨lw_p60, List.forall_mem_cons.mpr ⟨lw_p61, List.forall_mem_cons.mpr ⟨lw_p62, List.forall_mem_cons.mpr ⟨lw_p63, fun _ h => absurd h List.not_mem_nil⟩⟩⟩⟩⟩⟩⟩⟩⟩⟩⟩⟩⟩⟩⟩⟩
theorem lw_p64 : lw_okq (⟨"TenPledgesModel", "copies", "(II)V"⟩, 26) := ⟨⟨by decide +kernel, by decide +kernel⟩, List.mem_of_getElem? (i := 790) (by decide +kernel), List.mem_of_getElem? (i := 1213) (by decide +kernel), List.mem_of_getElem? (i := 1214) (by decide +kernel)⟩
def lw_privs_5 : List (MethodName × Nat) := [(⟨"TenPledgesModel", "copies", "(II)V"⟩, 26)]
theorem lw_r5 : ∀ q ∈ lw_privs_5, lw_okq q := List.forall_mem_cons.mpr ⟨lw_p64, fun _ h => absurd h List.not_mem_nil⟩
def lw_privs : List (MethodName × Nat) := lw_privs_1 ++ (lw_privs_2 ++ (lw_privs_3 ++ (lw_privs_4 ++ (lw_privs_5))))
def lw_tbl : List Cond := k2_sels lw_privs ++ tables_1
theorem lw_privs_ok : ∀ q ∈ lw_privs, lw_okq q := by
  show ∀ q ∈ lw_privs_1 ++ (lw_privs_2 ++ (lw_privs_3 ++ (lw_privs_4 ++ (lw_privs_5)))), lw_okq q
  exact List.forall_mem_append.mpr ⟨lw_r1, List.forall_mem_append.mpr ⟨lw_r2, List.forall_mem_append.mpr ⟨lw_r3, List.forall_mem_append.mpr ⟨lw_r4, lw_r5⟩⟩⟩⟩
def RX0 : String := "TenPledges$Fitting"
def TX0 : u_T := fun k => match k with
  | 0 => ("TenPledges$Fitting", "sets", "I", false)
  | 1 => ("TenPledges$Fitting", "first", "I", false)
  | 2 => ("TenPledges$Fitting", "inAll", "I", false)
  | 3 => ("TenPledges$Fitting", "inAny", "I", false)
  | _ => ("TenPledges$Fitting", "tensOfAll", "I", false)
def tyX0 : Nat → FieldType := fun k => match k with
  | 0 => .int
  | 1 => .int
  | 2 => .int
  | 3 => .int
  | _ => .int
abbrev wsX00 : List Cond := u_ws RX0 TX0 5
theorem nmX0 : ∀ a, a < 5 → ∀ b, b < 5 → a ≠ b → (TX0 a).2.1 ≠ (TX0 b).2.1 := by decide +kernel
theorem tyX0_ok : ∀ k, k < 5 → parseFieldDescriptor (TX0 k).2.2.1 = some (tyX0 k) := by decide +kernel
def RX1 : String := "TenPledges$Putting"
def TX1 : u_T := fun k => match k with
  | 0 => ("TenPledges$Putting", "seats", "[I", true)
  | 1 => ("TenPledges$Putting", "least", "I", false)
  | 2 => ("TenPledges$Putting", "town", "LTenPledges$Town;", false)
  | 3 => ("TenPledges$Putting", "tried", "[I", true)
  | 4 => ("TenPledges$Putting", "sizes", "[I", true)
  | _ => ("TenPledges$Putting", "roughs", "[I", true)
def tyX1 : Nat → FieldType := fun k => match k with
  | 0 => .array .int
  | 1 => .int
  | 2 => .object "TenPledges$Town"
  | 3 => .array .int
  | 4 => .array .int
  | _ => .array .int
abbrev wsX10 : List Cond := u_ws RX1 TX1 6
theorem nmX1 : ∀ a, a < 6 → ∀ b, b < 6 → a ≠ b → (TX1 a).2.1 ≠ (TX1 b).2.1 := by decide +kernel
theorem tyX1_ok : ∀ k, k < 6 → parseFieldDescriptor (TX1 k).2.2.1 = some (tyX1 k) := by decide +kernel
def RX2 : String := "TenPledges$Sheet"
def TX2 : u_T := fun k => match k with
  | 0 => ("TenPledges$Sheet", "lane", "I", false)
  | 1 => ("TenPledges$Sheet", "size", "I", false)
  | _ => ("TenPledges$Sheet", "cells", "[I", true)
def tyX2 : Nat → FieldType := fun k => match k with
  | 0 => .int
  | 1 => .int
  | _ => .array .int
abbrev wsX20 : List Cond := u_ws RX2 TX2 3
theorem nmX2 : ∀ a, a < 3 → ∀ b, b < 3 → a ≠ b → (TX2 a).2.1 ≠ (TX2 b).2.1 := by decide +kernel
theorem tyX2_ok : ∀ k, k < 3 → parseFieldDescriptor (TX2 k).2.2.1 = some (tyX2 k) := by decide +kernel
def RX3 : String := "TenPledges$Teller"
def TX3 : u_T := fun k => match k with
  | 0 => ("TenPledges$Teller", "lines", "I", false)
  | 1 => ("TenPledges$Teller", "problem", "I", false)
  | 2 => ("TenPledges$Teller", "problemAt", "I", false)
  | 3 => ("TenPledges$Teller", "told", "LTenPledges$Town;", false)
  | 4 => ("TenPledges$Teller", "bytes", "[B", false)
  | 5 => ("TenPledges$Teller", "length", "I", false)
  | 6 => ("TenPledges$Teller", "place", "I", false)
  | 7 => ("TenPledges$Teller", "token", "I", false)
  | 8 => ("TenPledges$Teller", "tokenAt", "I", false)
  | 9 => ("TenPledges$Teller", "value", "I", false)
  | 10 => ("TenPledges$Teller", "numbers", "[I", true)
  | 11 => ("TenPledges$Teller", "fineTold", "Z", false)
  | 12 => ("TenPledges$Teller", "watchTold", "Z", false)
  | 13 => ("TenPledges$Teller", "mostsTold", "I", false)
  | _ => ("TenPledges$Teller", "kinMen", "I", false)
def tyX3 : Nat → FieldType := fun k => match k with
  | 0 => .int
  | 1 => .int
  | 2 => .int
  | 3 => .object "TenPledges$Town"
  | 4 => .array .byte
  | 5 => .int
  | 6 => .int
  | 7 => .int
  | 8 => .int
  | 9 => .int
  | 10 => .array .int
  | 11 => .boolean
  | 12 => .boolean
  | 13 => .int
  | _ => .int
abbrev wsX30 : List Cond := u_ws RX3 TX3 15
theorem nmX3 : ∀ a, a < 15 → ∀ b, b < 15 → a ≠ b → (TX3 a).2.1 ≠ (TX3 b).2.1 := by decide +kernel
theorem tyX3_ok : ∀ k, k < 15 → parseFieldDescriptor (TX3 k).2.2.1 = some (tyX3 k) := by decide +kernel
def RX4 : String := "TenPledges$Town"
def TX4 : u_T := fun k => match k with
  | 0 => ("TenPledges$Town", "men", "I", false)
  | 1 => ("TenPledges$Town", "fine", "I", false)
  | 2 => ("TenPledges$Town", "cost", "I", false)
  | 3 => ("TenPledges$Town", "year", "I", false)
  | 4 => ("TenPledges$Town", "watched", "I", false)
  | 5 => ("TenPledges$Town", "seen", "I", false)
  | 6 => ("TenPledges$Town", "kinds", "[I", true)
  | 7 => ("TenPledges$Town", "odds", "[I", true)
  | 8 => ("TenPledges$Town", "stock", "[I", true)
  | 9 => ("TenPledges$Town", "tens", "[I", true)
  | 10 => ("TenPledges$Town", "kins", "[I", true)
  | 11 => ("TenPledges$Town", "mosts", "[I", true)
  | 12 => ("TenPledges$Town", "seenMen", "[I", true)
  | _ => ("TenPledges$Town", "seenLess", "[I", true)
def tyX4 : Nat → FieldType := fun k => match k with
  | 0 => .int
  | 1 => .int
  | 2 => .int
  | 3 => .int
  | 4 => .int
  | 5 => .int
  | 6 => .array .int
  | 7 => .array .int
  | 8 => .array .int
  | 9 => .array .int
  | 10 => .array .int
  | 11 => .array .int
  | 12 => .array .int
  | _ => .array .int
abbrev wsX40 : List Cond := u_ws RX4 TX4 14
theorem nmX4 : ∀ a, a < 14 → ∀ b, b < 14 → a ≠ b → (TX4 a).2.1 ≠ (TX4 b).2.1 := by decide +kernel
theorem tyX4_ok : ∀ k, k < 14 → parseFieldDescriptor (TX4 k).2.2.1 = some (tyX4 k) := by decide +kernel
def RX5 : String := "TenPledges"
def TX5 : u_T := fun k => match k with
  | 0 => ("TenPledges", "town", "LTenPledges$Town;", true)
  | 1 => ("TenPledges", "trial", "LTenPledges$Town;", true)
  | 2 => ("TenPledges", "images", "[LTenPledges$Town;", true)
  | 3 => ("TenPledges", "kept", "[Z", true)
  | 4 => ("TenPledges", "sheets", "[LTenPledges$Sheet;", true)
  | 5 => ("TenPledges", "tape", "[B", true)
  | 6 => ("TenPledges", "teller", "LTenPledges$Teller;", true)
  | 7 => ("TenPledges", "putting", "LTenPledges$Putting;", true)
  | 8 => ("TenPledges", "fitting", "LTenPledges$Fitting;", true)
  | 9 => ("TenPledges", "tapeLength", "I", false)
  | 10 => ("TenPledges", "textFault", "I", false)
  | _ => ("TenPledges", "readFault", "I", false)
def tyX5 : Nat → FieldType := fun k => match k with
  | 0 => .object "TenPledges$Town"
  | 1 => .object "TenPledges$Town"
  | 2 => .array (.object "TenPledges$Town")
  | 3 => .array .boolean
  | 4 => .array (.object "TenPledges$Sheet")
  | 5 => .array .byte
  | 6 => .object "TenPledges$Teller"
  | 7 => .object "TenPledges$Putting"
  | 8 => .object "TenPledges$Fitting"
  | 9 => .int
  | 10 => .int
  | _ => .int
abbrev wsX50 : List Cond := u_ws RX5 TX5 12
theorem nmX5 : ∀ a, a < 12 → ∀ b, b < 12 → a ≠ b → (TX5 a).2.1 ≠ (TX5 b).2.1 := by decide +kernel
theorem tyX5_ok : ∀ k, k < 12 → parseFieldDescriptor (TX5 k).2.2.1 = some (tyX5 k) := by decide +kernel
def RX6 : String := "TenPledgesModel"
def TX6 : u_T := fun k => match k with
  | 0 => ("TenPledgesModel", "st", "[I", true)
  | 1 => ("TenPledgesModel", "at", "[I", true)
  | 2 => ("TenPledgesModel", "isKept", "[Z", true)
  | 3 => ("TenPledgesModel", "men", "I", false)
  | 4 => ("TenPledgesModel", "mosts", "[I", true)
  | 5 => ("TenPledgesModel", "draft", "[I", true)
  | 6 => ("TenPledgesModel", "dMen", "I", false)
  | 7 => ("TenPledgesModel", "dMosts", "[I", true)
  | 8 => ("TenPledgesModel", "toldLines", "I", false)
  | 9 => ("TenPledgesModel", "toldMosts", "I", false)
  | 10 => ("TenPledgesModel", "highest", "I", false)
  | 11 => ("TenPledgesModel", "tape", "[I", true)
  | 12 => ("TenPledgesModel", "taped", "I", false)
  | 13 => ("TenPledgesModel", "pos", "I", false)
  | 14 => ("TenPledgesModel", "from", "I", false)
  | 15 => ("TenPledgesModel", "sort", "I", false)
  | 16 => ("TenPledgesModel", "value", "I", false)
  | 17 => ("TenPledgesModel", "fault", "I", false)
  | 18 => ("TenPledgesModel", "wrongAt", "I", false)
  | 19 => ("TenPledgesModel", "fines", "[I", true)
  | 20 => ("TenPledgesModel", "odds", "[I", true)
  | 21 => ("TenPledgesModel", "lanes", "[I", true)
  | 22 => ("TenPledgesModel", "sizes", "[I", true)
  | 23 => ("TenPledgesModel", "cells", "[I", true)
  | 24 => ("TenPledgesModel", "torn", "I", false)
  | _ => ("TenPledgesModel", "had", "[I", true)
def tyX6 : Nat → FieldType := fun k => match k with
  | 0 => .array .int
  | 1 => .array .int
  | 2 => .array .boolean
  | 3 => .int
  | 4 => .array .int
  | 5 => .array .int
  | 6 => .int
  | 7 => .array .int
  | 8 => .int
  | 9 => .int
  | 10 => .int
  | 11 => .array .int
  | 12 => .int
  | 13 => .int
  | 14 => .int
  | 15 => .int
  | 16 => .int
  | 17 => .int
  | 18 => .int
  | 19 => .array .int
  | 20 => .array .int
  | 21 => .array .int
  | 22 => .array .int
  | 23 => .array .int
  | 24 => .int
  | _ => .array .int
abbrev wsX60 : List Cond := u_ws RX6 TX6 26
theorem nmX6 : ∀ a, a < 26 → ∀ b, b < 26 → a ≠ b → (TX6 a).2.1 ≠ (TX6 b).2.1 := by decide +kernel
theorem tyX6_ok : ∀ k, k < 26 → parseFieldDescriptor (TX6 k).2.2.1 = some (tyX6 k) := by decide +kernel
def RJ6 : String := "java/lang/Integer"
def RJ9 : String := "java/lang/Math"
def RJ0 : String := "java/lang/String"
def RJ1 : String := "java/lang/StringLatin1"
def RJ3 : String := "jdk/internal/util/Preconditions"
def RL : String := "TenPledgesLaw"
abbrev cX0_init : ByteArray := prog_2_method_1_code
def yX0_init : MethodName := ⟨RX0, "<init>", "()V"⟩
abbrev cX0_search : ByteArray := prog_2_method_2_code
def yX0_search : MethodName := ⟨RX0, "search", "(LTenPledges$Town;LTenPledges$Town;)V"⟩
abbrev cX0_addSet : ByteArray := prog_2_method_3_code
def yX0_addSet : MethodName := ⟨RX0, "addSet", "(II)V"⟩
abbrev cX0_isAsSeen : ByteArray := prog_2_method_4_code
def yX0_isAsSeen : MethodName := ⟨RX0, "isAsSeen", "(LTenPledges$Town;LTenPledges$Town;I)Z"⟩
abbrev cX1_init : ByteArray := prog_3_method_1_code
def yX1_init : MethodName := ⟨RX1, "<init>", "()V"⟩
abbrev cX1_search : ByteArray := prog_3_method_2_code
def yX1_search : MethodName := ⟨RX1, "search", "(LTenPledges$Town;)V"⟩
abbrev cX1_seatFrom : ByteArray := prog_3_method_3_code
def yX1_seatFrom : MethodName := ⟨RX1, "seatFrom", "(I)V"⟩
abbrev cX1_takeIt : ByteArray := prog_3_method_4_code
def yX1_takeIt : MethodName := ⟨RX1, "takeIt", "(I)V"⟩
abbrev cX1_isLikeEarlier : ByteArray := prog_3_method_5_code
def yX1_isLikeEarlier : MethodName := ⟨RX1, "isLikeEarlier", "(I)Z"⟩
abbrev cX1_atLeastHarm : ByteArray := prog_3_method_6_code
def yX1_atLeastHarm : MethodName := ⟨RX1, "atLeastHarm", "(I)I"⟩
abbrev cX1_fewestRough : ByteArray := prog_3_method_7_code
def yX1_fewestRough : MethodName := ⟨RX1, "fewestRough", "()I"⟩
abbrev cX2_init : ByteArray := prog_4_method_1_code
def yX2_init : MethodName := ⟨RX2, "<init>", "()V"⟩
abbrev cX2_renew : ByteArray := prog_4_method_2_code
def yX2_renew : MethodName := ⟨RX2, "renew", "(II)V"⟩
abbrev cX2_write : ByteArray := prog_4_method_3_code
def yX2_write : MethodName := ⟨RX2, "write", "(II)V"⟩
abbrev cX2_faultAt : ByteArray := prog_4_method_4_code
def yX2_faultAt : MethodName := ⟨RX2, "faultAt", "(II)I"⟩
abbrev cX2_faultAtTwo : ByteArray := prog_4_method_5_code
def yX2_faultAtTwo : MethodName := ⟨RX2, "faultAtTwo", "(II)I"⟩
abbrev cX3_init : ByteArray := prog_5_method_1_code
def yX3_init : MethodName := ⟨RX3, "<init>", "()V"⟩
abbrev cX3_tell : ByteArray := prog_5_method_2_code
def yX3_tell : MethodName := ⟨RX3, "tell", "([BILTenPledges$Town;)Z"⟩
abbrev cX3_start : ByteArray := prog_5_method_3_code
def yX3_start : MethodName := ⟨RX3, "start", "([BILTenPledges$Town;)V"⟩
abbrev cX3_refuse : ByteArray := prog_5_method_4_code
def yX3_refuse : MethodName := ⟨RX3, "refuse", "(II)Z"⟩
abbrev cX3_agrees : ByteArray := prog_5_method_5_code
def yX3_agrees : MethodName := ⟨RX3, "agrees", "()Z"⟩
abbrev cX3_nextToken : ByteArray := prog_5_method_6_code
def yX3_nextToken : MethodName := ⟨RX3, "nextToken", "()Z"⟩
abbrev cX3_takeFigures : ByteArray := prog_5_method_7_code
def yX3_takeFigures : MethodName := ⟨RX3, "takeFigures", "()Z"⟩
abbrev cX3_pass : ByteArray := prog_5_method_8_code
def yX3_pass : MethodName := ⟨RX3, "pass", "(CC)V"⟩
abbrev cX3_isIn : ByteArray := prog_5_method_9_code
def yX3_isIn : MethodName := ⟨RX3, "isIn", "(ICC)Z"⟩
abbrev cX3_takeLine : ByteArray := prog_5_method_10_code
def yX3_takeLine : MethodName := ⟨RX3, "takeLine", "()Z"⟩
abbrev cX3_takeNumber : ByteArray := prog_5_method_11_code
def yX3_takeNumber : MethodName := ⟨RX3, "takeNumber", "(II)Z"⟩
abbrev cX3_putDown : ByteArray := prog_5_method_12_code
def yX3_putDown : MethodName := ⟨RX3, "putDown", "(I)V"⟩
abbrev cX3_wordHere : ByteArray := prog_5_method_13_code
def yX3_wordHere : MethodName := ⟨RX3, "wordHere", "()I"⟩
abbrev cX3_isHere : ByteArray := prog_5_method_14_code
def yX3_isHere : MethodName := ⟨RX3, "isHere", "(Ljava/lang/String;)Z"⟩
abbrev cX3_wordOf : ByteArray := prog_5_method_15_code
def yX3_wordOf : MethodName := ⟨RX3, "wordOf", "(I)Ljava/lang/String;"⟩
abbrev cX4_init : ByteArray := prog_6_method_1_code
def yX4_init : MethodName := ⟨RX4, "<init>", "()V"⟩
abbrev cX4_clear : ByteArray := prog_6_method_2_code
def yX4_clear : MethodName := ⟨RX4, "clear", "()V"⟩
abbrev cX4_copyFrom : ByteArray := prog_6_method_3_code
def yX4_copyFrom : MethodName := ⟨RX4, "copyFrom", "(LTenPledges$Town;)V"⟩
abbrev cX4_copyStock : ByteArray := prog_6_method_4_code
def yX4_copyStock : MethodName := ⟨RX4, "copyStock", "(LTenPledges$Town;)V"⟩
abbrev cX4_hasMan : ByteArray := prog_6_method_5_code
def yX4_hasMan : MethodName := ⟨RX4, "hasMan", "(I)Z"⟩
abbrev cX4_allMen : ByteArray := prog_6_method_6_code
def yX4_allMen : MethodName := ⟨RX4, "allMen", "()I"⟩
abbrev cX4_menOfKind : ByteArray := prog_6_method_7_code
def yX4_menOfKind : MethodName := ⟨RX4, "menOfKind", "(I)I"⟩
abbrev cX4_menOfTen : ByteArray := prog_6_method_8_code
def yX4_menOfTen : MethodName := ⟨RX4, "menOfTen", "(I)I"⟩
abbrev cX4_sizeOfTen : ByteArray := prog_6_method_9_code
def yX4_sizeOfTen : MethodName := ⟨RX4, "sizeOfTen", "(I)I"⟩
abbrev cX4_tensWithMen : ByteArray := prog_6_method_10_code
def yX4_tensWithMen : MethodName := ⟨RX4, "tensWithMen", "()I"⟩
abbrev cX4_tensOf : ByteArray := prog_6_method_11_code
def yX4_tensOf : MethodName := ⟨RX4, "tensOf", "(I)I"⟩
abbrev cX4_stockOf : ByteArray := prog_6_method_12_code
def yX4_stockOf : MethodName := ⟨RX4, "stockOf", "(I)I"⟩
abbrev cX4_addMan : ByteArray := prog_6_method_13_code
def yX4_addMan : MethodName := ⟨RX4, "addMan", "(IIII)V"⟩
abbrev cX4_setKin : ByteArray := prog_6_method_14_code
def yX4_setKin : MethodName := ⟨RX4, "setKin", "(IIZ)V"⟩
abbrev cX4_whyNoSeat : ByteArray := prog_6_method_15_code
def yX4_whyNoSeat : MethodName := ⟨RX4, "whyNoSeat", "(II)I"⟩
abbrev cX4_seat : ByteArray := prog_6_method_16_code
def yX4_seat : MethodName := ⟨RX4, "seat", "(II)I"⟩
abbrev cX4_giveUp : ByteArray := prog_6_method_17_code
def yX4_giveUp : MethodName := ⟨RX4, "giveUp", "(I)V"⟩
abbrev cX4_maySwap : ByteArray := prog_6_method_18_code
def yX4_maySwap : MethodName := ⟨RX4, "maySwap", "(II)Z"⟩
abbrev cX4_exchange : ByteArray := prog_6_method_19_code
def yX4_exchange : MethodName := ⟨RX4, "exchange", "(II)V"⟩
abbrev cX4_oddsInTen : ByteArray := prog_6_method_20_code
def yX4_oddsInTen : MethodName := ⟨RX4, "oddsInTen", "(I)I"⟩
abbrev cX4_oddsIfWatched : ByteArray := prog_6_method_21_code
def yX4_oddsIfWatched : MethodName := ⟨RX4, "oddsIfWatched", "(IZ)I"⟩
abbrev cX4_oddsAmong : ByteArray := prog_6_method_22_code
def yX4_oddsAmong : MethodName := ⟨RX4, "oddsAmong", "(IIZ)I"⟩
abbrev cX4_wonByWatch : ByteArray := prog_6_method_23_code
def yX4_wonByWatch : MethodName := ⟨RX4, "wonByWatch", "(I)I"⟩
abbrev cX4_harmOfTen : ByteArray := prog_6_method_24_code
def yX4_harmOfTen : MethodName := ⟨RX4, "harmOfTen", "(I)I"⟩
abbrev cX4_harmOfAll : ByteArray := prog_6_method_25_code
def yX4_harmOfAll : MethodName := ⟨RX4, "harmOfAll", "()I"⟩
abbrev cX4_chanceOf : ByteArray := prog_6_method_26_code
def yX4_chanceOf : MethodName := ⟨RX4, "chanceOf", "(II)J"⟩
abbrev cX4_mayDoWrong : ByteArray := prog_6_method_27_code
def yX4_mayDoWrong : MethodName := ⟨RX4, "mayDoWrong", "(I)Z"⟩
abbrev cX4_payAll : ByteArray := prog_6_method_28_code
def yX4_payAll : MethodName := ⟨RX4, "payAll", "(I)I"⟩
abbrev cX4_payFines : ByteArray := prog_6_method_29_code
def yX4_payFines : MethodName := ⟨RX4, "payFines", "(I)I"⟩
abbrev cX4_payFor : ByteArray := prog_6_method_30_code
def yX4_payFor : MethodName := ⟨RX4, "payFor", "(I)I"⟩
abbrev cX4_payCosts : ByteArray := prog_6_method_31_code
def yX4_payCosts : MethodName := ⟨RX4, "payCosts", "()I"⟩
abbrev cX4_takeFrom : ByteArray := prog_6_method_32_code
def yX4_takeFrom : MethodName := ⟨RX4, "takeFrom", "(II)I"⟩
abbrev cX5_init : ByteArray := prog_1_method_1_code
def yX5_init : MethodName := ⟨RX5, "<init>", "()V"⟩
abbrev cX5_feed : ByteArray := prog_1_method_2_code
def yX5_feed : MethodName := ⟨RX5, "feed", "(I)I"⟩
abbrev cX5_end : ByteArray := prog_1_method_3_code
def yX5_end : MethodName := ⟨RX5, "end", "(I)I"⟩
abbrev cX5_text : ByteArray := prog_1_method_4_code
def yX5_text : MethodName := ⟨RX5, "text", "()I"⟩
abbrev cX5_fault : ByteArray := prog_1_method_5_code
def yX5_fault : MethodName := ⟨RX5, "fault", "()I"⟩
abbrev cX5_rule : ByteArray := prog_1_method_6_code
def yX5_rule : MethodName := ⟨RX5, "rule", "(I)I"⟩
abbrev cX5_man : ByteArray := prog_1_method_7_code
def yX5_man : MethodName := ⟨RX5, "man", "(II)I"⟩
abbrev cX5_ten : ByteArray := prog_1_method_8_code
def yX5_ten : MethodName := ⟨RX5, "ten", "(II)I"⟩
abbrev cX5_move : ByteArray := prog_1_method_9_code
def yX5_move : MethodName := ⟨RX5, "move", "(II)I"⟩
abbrev cX5_leave : ByteArray := prog_1_method_10_code
def yX5_leave : MethodName := ⟨RX5, "leave", "(I)I"⟩
abbrev cX5_swap : ByteArray := prog_1_method_11_code
def yX5_swap : MethodName := ⟨RX5, "swap", "(II)I"⟩
abbrev cX5_watch : ByteArray := prog_1_method_12_code
def yX5_watch : MethodName := ⟨RX5, "watch", "(IZ)I"⟩
abbrev cX5_kin : ByteArray := prog_1_method_13_code
def yX5_kin : MethodName := ⟨RX5, "kin", "(IIZ)I"⟩
abbrev cX5_odd : ByteArray := prog_1_method_14_code
def yX5_odd : MethodName := ⟨RX5, "odd", "(II)I"⟩
abbrev cX5_law : ByteArray := prog_1_method_15_code
def yX5_law : MethodName := ⟨RX5, "law", "(II)I"⟩
abbrev cX5_goods : ByteArray := prog_1_method_16_code
def yX5_goods : MethodName := ⟨RX5, "goods", "(II)I"⟩
abbrev cX5_year : ByteArray := prog_1_method_17_code
def yX5_year : MethodName := ⟨RX5, "year", "(I)I"⟩
abbrev cX5_pays : ByteArray := prog_1_method_18_code
def yX5_pays : MethodName := ⟨RX5, "pays", "(II)I"⟩
abbrev cX5_harm : ByteArray := prog_1_method_19_code
def yX5_harm : MethodName := ⟨RX5, "harm", "()I"⟩
abbrev cX5_calm : ByteArray := prog_1_method_20_code
def yX5_calm : MethodName := ⟨RX5, "calm", "(II)J"⟩
abbrev cX5_mean : ByteArray := prog_1_method_21_code
def yX5_mean : MethodName := ⟨RX5, "mean", "(II)J"⟩
abbrev cX5_best : ByteArray := prog_1_method_22_code
def yX5_best : MethodName := ⟨RX5, "best", "(I)I"⟩
abbrev cX5_change : ByteArray := prog_1_method_23_code
def yX5_change : MethodName := ⟨RX5, "change", "(I)I"⟩
abbrev cX5_takes : ByteArray := prog_1_method_24_code
def yX5_takes : MethodName := ⟨RX5, "takes", "(I)I"⟩
abbrev cX5_weight : ByteArray := prog_1_method_25_code
def yX5_weight : MethodName := ⟨RX5, "weight", "(I)I"⟩
abbrev cX5_should : ByteArray := prog_1_method_26_code
def yX5_should : MethodName := ⟨RX5, "should", "(I)I"⟩
abbrev cX5_guard : ByteArray := prog_1_method_27_code
def yX5_guard : MethodName := ⟨RX5, "guard", "(I)I"⟩
abbrev cX5_worth : ByteArray := prog_1_method_28_code
def yX5_worth : MethodName := ⟨RX5, "worth", "(I)I"⟩
abbrev cX5_see : ByteArray := prog_1_method_29_code
def yX5_see : MethodName := ⟨RX5, "see", "(II)I"⟩
abbrev cX5_forget : ByteArray := prog_1_method_30_code
def yX5_forget : MethodName := ⟨RX5, "forget", "(I)I"⟩
abbrev cX5_fits : ByteArray := prog_1_method_31_code
def yX5_fits : MethodName := ⟨RX5, "fits", "(I)I"⟩
abbrev cX5_drift : ByteArray := prog_1_method_32_code
def yX5_drift : MethodName := ⟨RX5, "drift", "(III)I"⟩
abbrev cX5_keep : ByteArray := prog_1_method_33_code
def yX5_keep : MethodName := ⟨RX5, "keep", "(I)I"⟩
abbrev cX5_back : ByteArray := prog_1_method_34_code
def yX5_back : MethodName := ⟨RX5, "back", "(I)I"⟩
abbrev cX5_sheet : ByteArray := prog_1_method_35_code
def yX5_sheet : MethodName := ⟨RX5, "sheet", "(III)I"⟩
abbrev cX5_lay : ByteArray := prog_1_method_36_code
def yX5_lay : MethodName := ⟨RX5, "lay", "(III)I"⟩
abbrev cX5_read : ByteArray := prog_1_method_37_code
def yX5_read : MethodName := ⟨RX5, "read", "(IIII)I"⟩
abbrev cX5_torn : ByteArray := prog_1_method_38_code
def yX5_torn : MethodName := ⟨RX5, "torn", "()I"⟩
abbrev cX5_count : ByteArray := prog_1_method_39_code
def yX5_count : MethodName := ⟨RX5, "count", "(I)I"⟩
abbrev cX5_refusalInTen : ByteArray := prog_1_method_40_code
def yX5_refusalInTen : MethodName := ⟨RX5, "refusalInTen", "(I)I"⟩
abbrev cX5_isPair : ByteArray := prog_1_method_41_code
def yX5_isPair : MethodName := ⟨RX5, "isPair", "(II)Z"⟩
abbrev cX5_finesOnTrial : ByteArray := prog_1_method_42_code
def yX5_finesOnTrial : MethodName := ⟨RX5, "finesOnTrial", "(II)I"⟩
abbrev cX5_harmBySwap : ByteArray := prog_1_method_43_code
def yX5_harmBySwap : MethodName := ⟨RX5, "harmBySwap", "(II)I"⟩
abbrev cX5_isTen : ByteArray := prog_1_method_44_code
def yX5_isTen : MethodName := ⟨RX5, "isTen", "(I)Z"⟩
abbrev cX5_isWithin : ByteArray := prog_1_method_45_code
def yX5_isWithin : MethodName := ⟨RX5, "isWithin", "(II)Z"⟩
abbrev cX5_bitOf : ByteArray := prog_1_method_46_code
def yX5_bitOf : MethodName := ⟨RX5, "bitOf", "(II)I"⟩
abbrev cX5_withBit : ByteArray := prog_1_method_47_code
def yX5_withBit : MethodName := ⟨RX5, "withBit", "(IIZ)I"⟩
abbrev cX5_tenthsOf : ByteArray := prog_1_method_48_code
def yX5_tenthsOf : MethodName := ⟨RX5, "tenthsOf", "(I)J"⟩
abbrev cX5_inLowestTerms : ByteArray := prog_1_method_49_code
def yX5_inLowestTerms : MethodName := ⟨RX5, "inLowestTerms", "(JJI)J"⟩
abbrev cX5_greatestCommon : ByteArray := prog_1_method_50_code
def yX5_greatestCommon : MethodName := ⟨RX5, "greatestCommon", "(JJ)J"⟩
abbrev cX6_init : ByteArray := prog_8_method_1_code
def yX6_init : MethodName := ⟨RX6, "<init>", "()V"⟩
abbrev cX6_in : ByteArray := prog_8_method_3_code
def yX6_in : MethodName := ⟨RX6, "in", "(JJJ)Z"⟩
abbrev cX6_flag : ByteArray := prog_8_method_4_code
def yX6_flag : MethodName := ⟨RX6, "flag", "(Z)I"⟩
abbrev cX6_firstDraft : ByteArray := prog_8_method_5_code
def yX6_firstDraft : MethodName := ⟨RX6, "firstDraft", "()V"⟩
abbrev cX6_keepDraft : ByteArray := prog_8_method_6_code
def yX6_keepDraft : MethodName := ⟨RX6, "keepDraft", "()V"⟩
abbrev cX6_feed : ByteArray := prog_8_method_7_code
def yX6_feed : MethodName := ⟨RX6, "feed", "(I)I"⟩
abbrev cX6_end : ByteArray := prog_8_method_8_code
def yX6_end : MethodName := ⟨RX6, "end", "(I)I"⟩
abbrev cX6_needs : ByteArray := prog_8_method_9_code
def yX6_needs : MethodName := ⟨RX6, "needs", "(ZI)V"⟩
abbrev cX6_byteAt : ByteArray := prog_8_method_10_code
def yX6_byteAt : MethodName := ⟨RX6, "byteAt", "(I)I"⟩
abbrev cX6_is : ByteArray := prog_8_method_11_code
def yX6_is : MethodName := ⟨RX6, "is", "(IIIII)Z"⟩
abbrev cX6_ends : ByteArray := prog_8_method_12_code
def yX6_ends : MethodName := ⟨RX6, "ends", "(III)Z"⟩
abbrev cX6_lineNow : ByteArray := prog_8_method_13_code
def yX6_lineNow : MethodName := ⟨RX6, "lineNow", "()I"⟩
abbrev cX6_next : ByteArray := prog_8_method_14_code
def yX6_next : MethodName := ⟨RX6, "next", "()V"⟩
abbrev cX6_looked : ByteArray := prog_8_method_15_code
def yX6_looked : MethodName := ⟨RX6, "looked", "(II)I"⟩
abbrev cX6_readNumber : ByteArray := prog_8_method_16_code
def yX6_readNumber : MethodName := ⟨RX6, "readNumber", "(II)I"⟩
abbrev cX6_readMan : ByteArray := prog_8_method_17_code
def yX6_readMan : MethodName := ⟨RX6, "readMan", "(I)V"⟩
abbrev cX6_readMost : ByteArray := prog_8_method_18_code
def yX6_readMost : MethodName := ⟨RX6, "readMost", "()V"⟩
abbrev cX6_readKin : ByteArray := prog_8_method_19_code
def yX6_readKin : MethodName := ⟨RX6, "readKin", "()V"⟩
abbrev cX6_readLineOf : ByteArray := prog_8_method_20_code
def yX6_readLineOf : MethodName := ⟨RX6, "readLineOf", "(I)V"⟩
abbrev cX6_readLine : ByteArray := prog_8_method_21_code
def yX6_readLine : MethodName := ⟨RX6, "readLine", "()V"⟩
abbrev cX6_doFit : ByteArray := prog_8_method_22_code
def yX6_doFit : MethodName := ⟨RX6, "doFit", "()Z"⟩
abbrev cX6_text : ByteArray := prog_8_method_23_code
def yX6_text : MethodName := ⟨RX6, "text", "()I"⟩
abbrev cX6_fault : ByteArray := prog_8_method_24_code
def yX6_fault : MethodName := ⟨RX6, "fault", "()I"⟩
abbrev cX6_isMan : ByteArray := prog_8_method_25_code
def yX6_isMan : MethodName := ⟨RX6, "isMan", "(I)Z"⟩
abbrev cX6_isTen : ByteArray := prog_8_method_26_code
def yX6_isTen : MethodName := ⟨RX6, "isTen", "(I)Z"⟩
abbrev cX6_isPart : ByteArray := prog_8_method_27_code
def yX6_isPart : MethodName := ⟨RX6, "isPart", "(I)Z"⟩
abbrev cX6_bitsOf : ByteArray := prog_8_method_28_code
def yX6_bitsOf : MethodName := ⟨RX6, "bitsOf", "(I)I"⟩
abbrev cX6_starts : ByteArray := prog_8_method_29_code
def yX6_starts : MethodName := ⟨RX6, "starts", "()V"⟩
abbrev cX6_settles : ByteArray := prog_8_method_30_code
def yX6_settles : MethodName := ⟨RX6, "settles", "()V"⟩
abbrev cX6_of : ByteArray := prog_8_method_31_code
def yX6_of : MethodName := ⟨RX6, "of", "(II)I"⟩
abbrev cX6_becomesOf : ByteArray := prog_8_method_32_code
def yX6_becomesOf : MethodName := ⟨RX6, "becomesOf", "(III)V"⟩
abbrev cX6_menOf : ByteArray := prog_8_method_33_code
def yX6_menOf : MethodName := ⟨RX6, "menOf", "(I)I"⟩
abbrev cX6_isWatched : ByteArray := prog_8_method_34_code
def yX6_isWatched : MethodName := ⟨RX6, "isWatched", "(I)Z"⟩
abbrev cX6_oddsOf : ByteArray := prog_8_method_35_code
def yX6_oddsOf : MethodName := ⟨RX6, "oddsOf", "(I)I"⟩
abbrev cX6_harmOf : ByteArray := prog_8_method_36_code
def yX6_harmOf : MethodName := ⟨RX6, "harmOf", "(I)I"⟩
abbrev cX6_harmAll : ByteArray := prog_8_method_37_code
def yX6_harmAll : MethodName := ⟨RX6, "harmAll", "()I"⟩
abbrev cX6_allGoods : ByteArray := prog_8_method_38_code
def yX6_allGoods : MethodName := ⟨RX6, "allGoods", "(I)I"⟩
abbrev cX6_rule : ByteArray := prog_8_method_39_code
def yX6_rule : MethodName := ⟨RX6, "rule", "(I)I"⟩
abbrev cX6_man : ByteArray := prog_8_method_40_code
def yX6_man : MethodName := ⟨RX6, "man", "(II)I"⟩
abbrev cX6_ten : ByteArray := prog_8_method_41_code
def yX6_ten : MethodName := ⟨RX6, "ten", "(II)I"⟩
abbrev cX6_becomes : ByteArray := prog_8_method_42_code
def yX6_becomes : MethodName := ⟨RX6, "becomes", "(II)I"⟩
abbrev cX6_isWanderer : ByteArray := prog_8_method_43_code
def yX6_isWanderer : MethodName := ⟨RX6, "isWanderer", "(I)Z"⟩
abbrev cX6_isFull : ByteArray := prog_8_method_44_code
def yX6_isFull : MethodName := ⟨RX6, "isFull", "(I)Z"⟩
abbrev cX6_move : ByteArray := prog_8_method_45_code
def yX6_move : MethodName := ⟨RX6, "move", "(II)I"⟩
abbrev cX6_leave : ByteArray := prog_8_method_46_code
def yX6_leave : MethodName := ⟨RX6, "leave", "(I)I"⟩
abbrev cX6_swap : ByteArray := prog_8_method_47_code
def yX6_swap : MethodName := ⟨RX6, "swap", "(II)I"⟩
abbrev cX6_becomesBit : ByteArray := prog_8_method_48_code
def yX6_becomesBit : MethodName := ⟨RX6, "becomesBit", "(IIZ)I"⟩
abbrev cX6_watch : ByteArray := prog_8_method_49_code
def yX6_watch : MethodName := ⟨RX6, "watch", "(IZ)I"⟩
abbrev cX6_kin : ByteArray := prog_8_method_50_code
def yX6_kin : MethodName := ⟨RX6, "kin", "(IIZ)I"⟩
abbrev cX6_odd : ByteArray := prog_8_method_51_code
def yX6_odd : MethodName := ⟨RX6, "odd", "(II)I"⟩
abbrev cX6_law : ByteArray := prog_8_method_52_code
def yX6_law : MethodName := ⟨RX6, "law", "(II)I"⟩
abbrev cX6_goods : ByteArray := prog_8_method_53_code
def yX6_goods : MethodName := ⟨RX6, "goods", "(II)I"⟩
abbrev cX6_pay : ByteArray := prog_8_method_54_code
def yX6_pay : MethodName := ⟨RX6, "pay", "(II)I"⟩
abbrev cX6_runs : ByteArray := prog_8_method_55_code
def yX6_runs : MethodName := ⟨RX6, "runs", "(I)I"⟩
abbrev cX6_watches : ByteArray := prog_8_method_56_code
def yX6_watches : MethodName := ⟨RX6, "watches", "(I)I"⟩
abbrev cX6_yearGoes : ByteArray := prog_8_method_57_code
def yX6_yearGoes : MethodName := ⟨RX6, "yearGoes", "(I)I"⟩
abbrev cX6_saints : ByteArray := prog_8_method_58_code
def yX6_saints : MethodName := ⟨RX6, "saints", "()I"⟩
abbrev cX6_isWrong : ByteArray := prog_8_method_59_code
def yX6_isWrong : MethodName := ⟨RX6, "isWrong", "(I)Z"⟩
abbrev cX6_year : ByteArray := prog_8_method_60_code
def yX6_year : MethodName := ⟨RX6, "year", "(I)I"⟩
abbrev cX6_pays : ByteArray := prog_8_method_61_code
def yX6_pays : MethodName := ⟨RX6, "pays", "(II)I"⟩
abbrev cX6_harm : ByteArray := prog_8_method_62_code
def yX6_harm : MethodName := ⟨RX6, "harm", "()I"⟩
abbrev cX6_common : ByteArray := prog_8_method_63_code
def yX6_common : MethodName := ⟨RX6, "common", "(JJ)J"⟩
abbrev cX6_told : ByteArray := prog_8_method_64_code
def yX6_told : MethodName := ⟨RX6, "told", "(JJI)J"⟩
abbrev cX6_calm : ByteArray := prog_8_method_65_code
def yX6_calm : MethodName := ⟨RX6, "calm", "(II)J"⟩
abbrev cX6_findOdds : ByteArray := prog_8_method_66_code
def yX6_findOdds : MethodName := ⟨RX6, "findOdds", "()V"⟩
abbrev cX6_mean : ByteArray := prog_8_method_67_code
def yX6_mean : MethodName := ⟨RX6, "mean", "(II)J"⟩
abbrev cX6_puttings : ByteArray := prog_8_method_68_code
def yX6_puttings : MethodName := ⟨RX6, "puttings", "()I"⟩
abbrev cX6_putsBy : ByteArray := prog_8_method_69_code
def yX6_putsBy : MethodName := ⟨RX6, "putsBy", "(I)Z"⟩
abbrev cX6_best : ByteArray := prog_8_method_70_code
def yX6_best : MethodName := ⟨RX6, "best", "(I)I"⟩
abbrev cX6_change : ByteArray := prog_8_method_71_code
def yX6_change : MethodName := ⟨RX6, "change", "(I)I"⟩
abbrev cX6_takes : ByteArray := prog_8_method_72_code
def yX6_takes : MethodName := ⟨RX6, "takes", "(I)I"⟩
abbrev cX6_goesAway : ByteArray := prog_8_method_73_code
def yX6_goesAway : MethodName := ⟨RX6, "goesAway", "(I)V"⟩
abbrev cX6_weight : ByteArray := prog_8_method_74_code
def yX6_weight : MethodName := ⟨RX6, "weight", "(I)I"⟩
abbrev cX6_should : ByteArray := prog_8_method_75_code
def yX6_should : MethodName := ⟨RX6, "should", "(I)I"⟩
abbrev cX6_guard : ByteArray := prog_8_method_76_code
def yX6_guard : MethodName := ⟨RX6, "guard", "(I)I"⟩
abbrev cX6_worth : ByteArray := prog_8_method_77_code
def yX6_worth : MethodName := ⟨RX6, "worth", "(I)I"⟩
abbrev cX6_see : ByteArray := prog_8_method_78_code
def yX6_see : MethodName := ⟨RX6, "see", "(II)I"⟩
abbrev cX6_forget : ByteArray := prog_8_method_79_code
def yX6_forget : MethodName := ⟨RX6, "forget", "(I)I"⟩
abbrev cX6_isSo : ByteArray := prog_8_method_80_code
def yX6_isSo : MethodName := ⟨RX6, "isSo", "(I)Z"⟩
abbrev cX6_tensOf : ByteArray := prog_8_method_81_code
def yX6_tensOf : MethodName := ⟨RX6, "tensOf", "(I)I"⟩
abbrev cX6_fits : ByteArray := prog_8_method_82_code
def yX6_fits : MethodName := ⟨RX6, "fits", "(I)I"⟩
abbrev cX6_drift : ByteArray := prog_8_method_83_code
def yX6_drift : MethodName := ⟨RX6, "drift", "(III)I"⟩
abbrev cX6_copies : ByteArray := prog_8_method_84_code
def yX6_copies : MethodName := ⟨RX6, "copies", "(II)V"⟩
abbrev cX6_keep : ByteArray := prog_8_method_85_code
def yX6_keep : MethodName := ⟨RX6, "keep", "(I)I"⟩
abbrev cX6_back : ByteArray := prog_8_method_86_code
def yX6_back : MethodName := ⟨RX6, "back", "(I)I"⟩
abbrev cX6_isSheet : ByteArray := prog_8_method_87_code
def yX6_isSheet : MethodName := ⟨RX6, "isSheet", "(II)Z"⟩
abbrev cX6_sheet : ByteArray := prog_8_method_88_code
def yX6_sheet : MethodName := ⟨RX6, "sheet", "(III)I"⟩
abbrev cX6_lay : ByteArray := prog_8_method_89_code
def yX6_lay : MethodName := ⟨RX6, "lay", "(III)I"⟩
abbrev cX6_read : ByteArray := prog_8_method_90_code
def yX6_read : MethodName := ⟨RX6, "read", "(IIII)I"⟩
abbrev cX6_torn : ByteArray := prog_8_method_91_code
def yX6_torn : MethodName := ⟨RX6, "torn", "()I"⟩
abbrev cX6_count : ByteArray := prog_8_method_92_code
def yX6_count : MethodName := ⟨RX6, "count", "(I)I"⟩
abbrev cJ6_bitCount_0f7a4 : ByteArray := prog_9_method_49_code
def yJ6_bitCount_0f7a4 : MethodName := ⟨RJ6, "bitCount", "(I)I"⟩
abbrev cJ9_min_7cf53 : ByteArray := prog_10_method_69_code
def yJ9_min_7cf53 : MethodName := ⟨RJ9, "min", "(II)I"⟩
abbrev cJ0_length_8abf5 : ByteArray := prog_11_method_54_code
def yJ0_length_8abf5 : MethodName := ⟨RJ0, "length", "()I"⟩
abbrev cJ0_charAt_5068e : ByteArray := prog_11_method_56_code
def yJ0_charAt_5068e : MethodName := ⟨RJ0, "charAt", "(I)C"⟩
abbrev cJ0_coder_7d493 : ByteArray := prog_11_method_152_code
def yJ0_coder_7d493 : MethodName := ⟨RJ0, "coder", "()B"⟩
abbrev cJ0_isLatin1_aae02 : ByteArray := prog_11_method_154_code
def yJ0_isLatin1_aae02 : MethodName := ⟨RJ0, "isLatin1", "()Z"⟩
abbrev cJ0_checkIndex_df160 : ByteArray := prog_11_method_155_code
def yJ0_checkIndex_df160 : MethodName := ⟨RJ0, "checkIndex", "(II)V"⟩
abbrev cJ1_charAt_3b067 : ByteArray := prog_12_method_2_code
def yJ1_charAt_3b067 : MethodName := ⟨RJ1, "charAt", "([BI)C"⟩
abbrev cJ3_checkIndex_8e157 : ByteArray := prog_14_method_11_code
def yJ3_checkIndex_8e157 : MethodName := ⟨RJ3, "checkIndex", "(IILjava/util/function/BiFunction;)I"⟩
abbrev cL_law : ByteArray := code
def yL_law : MethodName := ⟨RL, "law", "([I)Z"⟩
end
section
def cd_X0_init : List (Instr ⊕ Value) := [.inl (.aload 0), .inl .monitorexit, .inl .return_]
def pb_X0_init : List Nat := [0, 1, 4]
def cd_X0_search : List (Instr ⊕ Value) := [.inl (.aload 0), .inr (.int 0), .inl (.putfield 0), .inl (.aload 0), .inr (.int 0), .inl (.putfield 1), .inl (.aload 0), .inl (.aload 1), .inl (.invokevirtual 36), .inl (.putfield 2), .inl (.aload 0), .inr (.int 0), .inl (.putfield 3), .inl (.aload 0), .inr (.int 15), .inl (.putfield 4), .inl (.aload 2), .inl (.aload 1), .inl (.invokevirtual 33), .inl (.aload 1), .inr (.int 2), .inl (.invokevirtual 37), .inl (.istore 3), .inl (.aload 1), .inl (.invokevirtual 36), .inl (.istore 4), .inr (.int 0), .inl (.istore 5), .inl .nop, .inl (.iload 5), .inl (.iload 4), .inl (.if_icmp .gt (.ofNat 49)), .inl (.iload 5), .inl (.iload 3), .inl .iand, .inl (.ifCond .ne (.ofNat 47)), .inl (.aload 1), .inl (.aload 2), .inl (.iload 5), .inl (.invokestatic 3), .inl (.ifCond .eq (.ofNat 47)), .inl (.aload 0), .inl (.iload 5), .inl (.aload 1), .inl (.iload 5), .inl (.invokevirtual 41), .inl (.invokevirtual 2), .inl (.iinc 5 1), .inl (.goto (.ofNat 28)), .inl .return_]
def pb_X0_search : List Nat := [0, 1, 2, 5, 6, 7, 10, 11, 12, 15, 18, 19, 20, 23, 24, 26, 29, 30, 31, 34, 35, 36, 39, 40, 41, 44, 46, 47, 49, 49, 51, 53, 56, 58, 59, 60, 63, 64, 65, 67, 70, 73, 74, 76, 77, 79, 82, 85, 88, 91]
def cd_X0_addSet : List (Instr ⊕ Value) := [.inl (.aload 0), .inl (.getfield 0), .inl (.ifCond .ne (.ofNat 6)), .inl (.aload 0), .inl (.iload 1), .inl (.putfield 1), .inl (.aload 0), .inl .dup, .inl (.getfield 0), .inr (.int 1), .inl .iadd, .inl (.putfield 0), .inl (.aload 0), .inl .dup, .inl (.getfield 2), .inl (.iload 1), .inl .iand, .inl (.putfield 2), .inl (.aload 0), .inl .dup, .inl (.getfield 3), .inl (.iload 1), .inl .ior, .inl (.putfield 3), .inl (.aload 0), .inl .dup, .inl (.getfield 4), .inl (.iload 2), .inl .iand, .inl (.putfield 4), .inl .return_]
def pb_X0_addSet : List Nat := [0, 1, 4, 7, 8, 9, 12, 13, 14, 17, 18, 19, 22, 23, 24, 27, 28, 29, 32, 33, 34, 37, 38, 39, 42, 43, 44, 47, 48, 49, 52]
def cd_X0_isAsSeen : List (Instr ⊕ Value) := [.inl (.aload 1), .inl (.aload 0), .inl (.invokevirtual 34), .inl (.aload 1), .inl (.iload 2), .inl (.invokevirtual 58), .inl .pop, .inr (.int 0), .inl (.istore 3), .inl .nop, .inl (.iload 3), .inl (.aload 0), .inl (.getfield 133), .inl (.if_icmp .ge (.ofNat 37)), .inl (.aload 0), .inl (.getfield 140), .inl (.iload 3), .inl .iaload, .inl (.istore 4), .inl (.aload 0), .inl (.getfield 136), .inl (.iload 4), .inl .iaload, .inl (.aload 1), .inl (.getfield 136), .inl (.iload 4), .inl .iaload, .inl .isub, .inl (.aload 0), .inl (.getfield 141), .inl (.iload 3), .inl .iaload, .inl (.if_icmp .eq (.ofNat 35)), .inr (.int 0), .inl (.ret 0), .inl (.iinc 3 1), .inl (.goto (.ofNat 9)), .inr (.int 1), .inl (.ret 0)]
def pb_X0_isAsSeen : List Nat := [0, 1, 2, 5, 6, 7, 10, 11, 12, 13, 13, 14, 15, 18, 21, 22, 25, 26, 27, 29, 30, 33, 35, 36, 37, 40, 42, 43, 44, 45, 48, 49, 50, 53, 54, 55, 58, 61, 62]
def cd_X1_init : List (Instr ⊕ Value) := [.inl (.aload 0), .inl .monitorexit, .inl (.aload 0), .inr (.int 8), .inl (.newarray .int), .inl (.putstatic 32), .inl (.aload 0), .inr (.int 8), .inl (.newarray .int), .inl (.putstatic 35), .inl (.aload 0), .inr (.int 4), .inl (.newarray .int), .inl (.putstatic 36), .inl (.aload 0), .inr (.int 4), .inl (.newarray .int), .inl (.putstatic 37), .inl .return_]
def pb_X1_init : List Nat := [0, 1, 4, 5, 7, 9, 12, 13, 15, 17, 20, 21, 22, 24, 27, 28, 29, 31, 34]
def cd_X1_search : List (Instr ⊕ Value) := [.inl (.aload 0), .inl (.aload 1), .inl (.putstatic 34), .inl (.aload 0), .inr (.int 1000000), .inl (.putfield 33), .inr (.int 0), .inl (.istore 2), .inl .nop, .inl (.iload 2), .inr (.int 4), .inl (.if_icmp .ge (.ofNat 24)), .inl (.aload 0), .inl (.getfield 36), .inl (.iload 2), .inr (.int 0), .inl .iastore, .inl (.aload 0), .inl (.getfield 37), .inl (.iload 2), .inr (.int 0), .inl .iastore, .inl (.iinc 2 1), .inl (.goto (.ofNat 8)), .inl (.aload 0), .inr (.int 0), .inl (.invokevirtual 6), .inl .return_]
def pb_X1_search : List Nat := [0, 1, 2, 5, 6, 8, 11, 12, 13, 13, 14, 15, 18, 19, 22, 23, 24, 25, 26, 29, 30, 31, 32, 35, 38, 39, 40, 43]
def cd_X1_seatFrom : List (Instr ⊕ Value) := [.inl (.iload 1), .inl (.aload 0), .inl (.getfield 34), .inl (.getfield 128), .inl (.if_icmp .ge (.ofNat 8)), .inl (.iload 1), .inr (.int 8), .inl (.if_icmp .lt (.ofNat 14)), .inl (.aload 0), .inl (.aload 0), .inl (.iload 1), .inl (.invokevirtual 9), .inl (.invokevirtual 7), .inl .return_, .inl (.aload 0), .inl (.getfield 34), .inl (.getfield 134), .inl (.iload 1), .inl .iaload, .inr (.int 3), .inl (.if_icmp .ne (.ofNat 32)), .inl (.aload 0), .inl (.getfield 35), .inl (.iload 1), .inr (.int (-4)), .inl .iastore, .inl (.aload 0), .inl (.iload 1), .inr (.int 1), .inl .iadd, .inl (.invokevirtual 6), .inl .return_, .inl (.aload 0), .inl (.getfield 34), .inl (.getfield 134), .inl (.iload 1), .inl .iaload, .inr (.int 1), .inl (.if_icmp .ne (.ofNat 41)), .inr (.int 1), .inl (.goto (.ofNat 42)), .inr (.int 0), .inl (.istore 2), .inr (.int 0), .inl (.istore 3), .inl .nop, .inl (.iload 3), .inr (.int 4), .inl (.if_icmp .ge (.ofNat 115)), .inl (.aload 0), .inl (.getfield 36), .inl (.iload 3), .inl .iaload, .inl (.aload 0), .inl (.getfield 34), .inl (.getfield 139), .inl (.iload 3), .inl .iaload, .inl (.if_icmp .ge (.ofNat 113)), .inl (.aload 0), .inl (.iload 3), .inl (.invokevirtual 8), .inl (.ifCond .ne (.ofNat 113)), .inl (.aload 0), .inl (.getfield 35), .inl (.iload 1), .inl (.iload 3), .inl .iastore, .inl (.aload 0), .inl (.getfield 36), .inl (.iload 3), .inl .dup2, .inl .iaload, .inr (.int 1), .inl .iadd, .inl .iastore, .inl (.aload 0), .inl (.getfield 37), .inl (.iload 3), .inl .dup2, .inl .iaload, .inl (.iload 2), .inl .iadd, .inl .iastore, .inl (.aload 0), .inl (.iload 1), .inr (.int 1), .inl .iadd, .inl (.invokevirtual 9), .inl (.aload 0), .inl (.getfield 33), .inl (.if_icmp .ge (.ofNat 97)), .inl (.aload 0), .inl (.iload 1), .inr (.int 1), .inl .iadd, .inl (.invokevirtual 6), .inl (.aload 0), .inl (.getfield 36), .inl (.iload 3), .inl .dup2, .inl .iaload, .inr (.int 1), .inl .isub, .inl .iastore, .inl (.aload 0), .inl (.getfield 37), .inl (.iload 3), .inl .dup2, .inl .iaload, .inl (.iload 2), .inl .isub, .inl .iastore, .inl (.iinc 3 1), .inl (.goto (.ofNat 45)), .inl .return_]
def pb_X1_seatFrom : List Nat := [0, 1, 2, 5, 8, 11, 12, 14, 17, 18, 19, 20, 23, 26, 27, 28, 31, 34, 35, 36, 37, 40, 41, 44, 45, 47, 48, 49, 50, 51, 52, 55, 56, 57, 60, 63, 64, 65, 66, 69, 70, 73, 74, 75, 76, 77, 77, 78, 79, 82, 83, 86, 87, 88, 89, 92, 95, 96, 97, 100, 101, 102, 105, 108, 109, 112, 113, 114, 115, 116, 119, 120, 121, 122, 123, 124, 125, 126, 129, 130, 131, 132, 133, 134, 135, 136, 137, 138, 139, 142, 143, 146, 149, 150, 151, 152, 153, 156, 157, 160, 161, 162, 163, 164, 165, 166, 167, 170, 171, 172, 173, 174, 175, 176, 179, 182]
def cd_X1_takeIt : List (Instr ⊕ Value) := [.inl (.aload 0), .inl (.iload 1), .inl (.putfield 33), .inr (.int 0), .inl (.istore 2), .inl .nop, .inl (.iload 2), .inl (.aload 0), .inl (.getfield 34), .inl (.getfield 128), .inl (.if_icmp .ge (.ofNat 21)), .inl (.aload 0), .inl (.getfield 32), .inl (.iload 2), .inl (.aload 0), .inl (.getfield 35), .inl (.iload 2), .inl .iaload, .inl .iastore, .inl (.iinc 2 1), .inl (.goto (.ofNat 5)), .inl .return_]
def pb_X1_takeIt : List Nat := [0, 1, 2, 5, 6, 7, 7, 8, 9, 12, 15, 18, 19, 22, 23, 24, 27, 28, 29, 30, 33, 36]
def cd_X1_isLikeEarlier : List (Instr ⊕ Value) := [.inr (.int 0), .inl (.istore 2), .inl .nop, .inl (.iload 2), .inl (.iload 1), .inl (.if_icmp .ge (.ofNat 31)), .inl (.aload 0), .inl (.getfield 36), .inl (.iload 1), .inl .iaload, .inl (.ifCond .ne (.ofNat 31)), .inl (.aload 0), .inl (.getfield 36), .inl (.iload 2), .inl .iaload, .inl (.ifCond .ne (.ofNat 29)), .inl (.aload 0), .inl (.getfield 34), .inl (.getfield 139), .inl (.iload 2), .inl .iaload, .inl (.aload 0), .inl (.getfield 34), .inl (.getfield 139), .inl (.iload 1), .inl .iaload, .inl (.if_icmp .ne (.ofNat 29)), .inr (.int 1), .inl (.ret 0), .inl (.iinc 2 1), .inl (.goto (.ofNat 2)), .inr (.int 0), .inl (.ret 0)]
def pb_X1_isLikeEarlier : List Nat := [0, 1, 2, 2, 3, 4, 7, 8, 11, 12, 13, 16, 17, 20, 21, 22, 25, 26, 29, 32, 33, 34, 35, 38, 41, 42, 43, 46, 47, 48, 51, 54, 55]
def cd_X1_atLeastHarm : List (Instr ⊕ Value) := [.inl (.aload 0), .inl (.invokevirtual 10), .inl (.istore 2), .inr (.int 0), .inl (.istore 3), .inr (.int 0), .inl (.istore 4), .inl .nop, .inl (.iload 4), .inl (.aload 0), .inl (.getfield 34), .inl (.getfield 128), .inl (.if_icmp .ge (.ofNat 54)), .inl (.iload 2), .inl (.istore 5), .inl (.iload 4), .inl (.iload 1), .inl (.if_icmp .ge (.ofNat 35)), .inl (.aload 0), .inl (.getfield 35), .inl (.iload 4), .inl .iaload, .inl (.ifCond .ge (.ofNat 25)), .inr (.int 0), .inl (.goto (.ofNat 34)), .inl (.aload 0), .inl (.getfield 37), .inl (.aload 0), .inl (.getfield 35), .inl (.iload 4), .inl .iaload, .inl .iaload, .inr (.int 1), .inl .isub, .inl (.istore 5), .inl (.iload 3), .inl (.aload 0), .inl (.getfield 34), .inl (.iload 4), .inl (.iload 5), .inl (.aload 0), .inl (.getfield 34), .inl (.getfield 132), .inl (.iload 4), .inl (.invokestatic 108), .inl (.ifCond .eq (.ofNat 48)), .inr (.int 1), .inl (.goto (.ofNat 49)), .inr (.int 0), .inl (.invokevirtual 52), .inl .iadd, .inl (.istore 3), .inl (.iinc 4 1), .inl (.goto (.ofNat 7)), .inl (.iload 3), .inl (.aload 0), .inl (.getfield 34), .inl (.getfield 129), .inl .imul, .inr (.int 10), .inl (.aload 0), .inl (.getfield 34), .inl (.getfield 130), .inl .imul, .inl (.aload 0), .inl (.getfield 34), .inl (.getfield 132), .inl (.invokestatic 204), .inl .imul, .inl .iadd, .inl .ireturn]
def pb_X1_atLeastHarm : List Nat := [0, 1, 4, 5, 6, 7, 8, 10, 10, 12, 13, 16, 19, 22, 23, 25, 27, 28, 31, 32, 35, 37, 38, 41, 42, 45, 46, 49, 50, 53, 55, 56, 57, 58, 59, 61, 62, 63, 66, 68, 70, 71, 74, 77, 79, 82, 85, 86, 89, 90, 93, 94, 95, 98, 101, 102, 103, 106, 109, 110, 112, 113, 116, 119, 120, 121, 124, 127, 130, 131, 132]
def cd_X1_fewestRough : List (Instr ⊕ Value) := [.inr (.int 8), .inl (.istore 1), .inr (.int 0), .inl (.istore 2), .inl .nop, .inl (.iload 2), .inr (.int 4), .inl (.if_icmp .ge (.ofNat 27)), .inl (.aload 0), .inl (.getfield 36), .inl (.iload 2), .inl .iaload, .inl (.aload 0), .inl (.getfield 34), .inl (.getfield 139), .inl (.iload 2), .inl .iaload, .inl (.if_icmp .ge (.ofNat 25)), .inl (.iload 1), .inl (.aload 0), .inl (.getfield 37), .inl (.iload 2), .inl .iaload, .inl (.invokestatic 205), .inl (.istore 1), .inl (.iinc 2 1), .inl (.goto (.ofNat 4)), .inl (.iload 1), .inl .ireturn]
def pb_X1_fewestRough : List Nat := [0, 2, 3, 4, 5, 5, 6, 7, 10, 11, 14, 15, 16, 17, 20, 23, 24, 25, 28, 29, 30, 33, 34, 35, 38, 39, 42, 45, 46]
def cd_X2_init : List (Instr ⊕ Value) := [.inl (.aload 0), .inl .monitorexit, .inl (.aload 0), .inr (.int (-4)), .inl (.putfield 65), .inl (.aload 0), .inr (.int 40), .inl (.newarray .int), .inl (.putstatic 66), .inl .return_]
def pb_X2_init : List Nat := [0, 1, 4, 5, 7, 10, 11, 13, 15, 18]
def cd_X2_renew : List (Instr ⊕ Value) := [.inl (.aload 0), .inl (.iload 1), .inl (.putfield 64), .inl (.aload 0), .inl (.iload 2), .inl (.putfield 65), .inr (.int 0), .inl (.istore 3), .inl .nop, .inl (.iload 3), .inr (.int 40), .inl (.if_icmp .ge (.ofNat 19)), .inl (.aload 0), .inl (.getfield 66), .inl (.iload 3), .inr (.int 0), .inl .iastore, .inl (.iinc 3 1), .inl (.goto (.ofNat 8)), .inl .return_]
def pb_X2_renew : List Nat := [0, 1, 2, 5, 6, 7, 10, 11, 12, 12, 13, 15, 18, 19, 22, 23, 24, 25, 28, 31]
def cd_X2_write : List (Instr ⊕ Value) := [.inl (.aload 0), .inl (.getfield 64), .inl (.lookupswitch (.ofNat 17) #[(0, .ofNat 3), (1, .ofNat 10)]), .inl (.aload 0), .inl (.getfield 66), .inl (.iload 1), .inl (.iload 2), .inl .i2b, .inl .iastore, .inl (.goto (.ofNat 22)), .inl (.aload 0), .inl (.getfield 66), .inl (.iload 1), .inl (.iload 2), .inl .i2s, .inl .iastore, .inl (.goto (.ofNat 22)), .inl (.aload 0), .inl (.getfield 66), .inl (.iload 1), .inl (.iload 2), .inl .iastore, .inl .return_]
def pb_X2_write : List Nat := [0, 1, 4, 32, 33, 36, 37, 38, 39, 40, 43, 44, 47, 48, 49, 50, 51, 54, 55, 58, 59, 60, 61]
def cd_X2_faultAt : List (Instr ⊕ Value) := [.inl (.aload 0), .inl (.getfield 65), .inl (.ifCond .ge (.ofNat 5)), .inr (.int 1), .inl .ireturn, .inl (.iload 1), .inl (.aload 0), .inl (.getfield 64), .inl (.if_icmp .eq (.ofNat 11)), .inr (.int 3), .inl .ireturn, .inl (.iload 2), .inl (.ifCond .lt (.ofNat 17)), .inl (.iload 2), .inl (.aload 0), .inl (.getfield 65), .inl (.if_icmp .lt (.ofNat 19)), .inr (.int 2), .inl (.goto (.ofNat 20)), .inr (.int 0), .inl .ireturn]
def pb_X2_faultAt : List Nat := [0, 1, 4, 7, 8, 9, 10, 11, 14, 17, 18, 19, 20, 23, 24, 25, 28, 31, 32, 35, 36]
def cd_X2_faultAtTwo : List (Instr ⊕ Value) := [.inl (.aload 0), .inl (.iload 1), .inl (.iload 2), .inl (.invokevirtual 14), .inl (.istore 3), .inl (.iload 3), .inl (.ifCond .eq (.ofNat 9)), .inl (.iload 3), .inl (.goto (.ofNat 15)), .inl (.aload 0), .inl (.iload 1), .inl (.iload 2), .inr (.int 1), .inl .iadd, .inl (.invokevirtual 14), .inl .ireturn]
def pb_X2_faultAtTwo : List Nat := [0, 1, 2, 3, 6, 7, 8, 11, 12, 15, 16, 17, 18, 19, 20, 23]
def cd_X3_init : List (Instr ⊕ Value) := [.inl (.aload 0), .inl .monitorexit, .inl (.aload 0), .inr (.int 3), .inl (.newarray .int), .inl (.putstatic 106), .inl .return_]
def pb_X3_init : List Nat := [0, 1, 4, 5, 6, 8, 11]
def cd_X3_tell : List (Instr ⊕ Value) := [.inl (.aload 0), .inl (.aload 1), .inl (.iload 2), .inl (.aload 3), .inl (.invokevirtual 18), .inr (.int 0), .inl (.istore 4), .inl .nop, .inl (.iload 4), .inr (.int 160), .inl (.if_icmp .gt (.ofNat 35)), .inl (.aload 0), .inl (.invokevirtual 21), .inl (.ifCond .ne (.ofNat 16)), .inr (.int 0), .inl (.ret 0), .inl (.aload 0), .inl (.getfield 103), .inl (.ifCond .ne (.ofNat 22)), .inl (.aload 0), .inl (.invokevirtual 20), .inl (.ret 0), .inl (.aload 0), .inl (.invokevirtual 25), .inl (.ifCond .ne (.ofNat 27)), .inr (.int 0), .inl (.ret 0), .inl (.aload 0), .inl .dup, .inl (.getfield 96), .inr (.int 1), .inl .iadd, .inl (.putfield 96), .inl (.iinc 4 1), .inl (.goto (.ofNat 7)), .inr (.int 0), .inl (.ret 0)]
def pb_X3_tell : List Nat := [0, 1, 2, 3, 4, 7, 8, 10, 10, 12, 15, 18, 19, 22, 25, 26, 27, 28, 31, 34, 35, 38, 39, 40, 43, 46, 47, 48, 49, 50, 53, 54, 55, 58, 61, 64, 65]
def cd_X3_start : List (Instr ⊕ Value) := [.inl (.aload 0), .inl (.aload 1), .inl (.putstatic 100), .inl (.aload 0), .inl (.iload 2), .inl (.putfield 101), .inl (.aload 0), .inl (.aload 3), .inl (.putstatic 99), .inl (.aload 0), .inl (.getfield 99), .inl (.invokevirtual 32), .inl (.aload 0), .inr (.int 0), .inl (.putfield 96), .inl (.aload 0), .inr (.int 0), .inl (.putfield 97), .inl (.aload 0), .inr (.int 0), .inl (.putfield 98), .inl (.aload 0), .inr (.int 0), .inl (.putfield 102), .inl (.aload 0), .inr (.int 0), .inl (.multianewarray 107 1), .inl (.aload 0), .inr (.int 0), .inl (.multianewarray 108 1), .inl (.aload 0), .inr (.int 0), .inl (.putfield 109), .inl (.aload 0), .inr (.int 0), .inl (.putfield 110), .inl .return_]
def pb_X3_start : List Nat := [0, 1, 2, 5, 6, 7, 10, 11, 12, 15, 16, 19, 22, 23, 24, 27, 28, 29, 32, 33, 34, 37, 38, 39, 42, 43, 44, 47, 48, 49, 52, 53, 54, 57, 58, 59, 62]
def cd_X3_refuse : List (Instr ⊕ Value) := [.inl (.aload 0), .inl (.iload 1), .inl (.putfield 97), .inl (.aload 0), .inl (.iload 2), .inl (.putfield 98), .inr (.int 0), .inl (.ret 0)]
def pb_X3_refuse : List Nat := [0, 1, 2, 5, 6, 7, 10, 11]
def cd_X3_agrees : List (Instr ⊕ Value) := [.inl (.aload 0), .inl (.getfield 110), .inl (.aload 0), .inl (.getfield 99), .inl (.invokevirtual 36), .inr (.int (-1)), .inl .ixor, .inl .iand, .inl (.ifCond .eq (.ofNat 15)), .inl (.aload 0), .inr (.int 6), .inl (.aload 0), .inl (.getfield 101), .inl (.invokevirtual 19), .inl (.ret 0), .inr (.int 0), .inl (.istore 1), .inl .nop, .inl (.iload 1), .inr (.int 4), .inl (.if_icmp .ge (.ofNat 39)), .inl (.aload 0), .inl (.getfield 99), .inl (.iload 1), .inl (.invokevirtual 39), .inl (.aload 0), .inl (.getfield 99), .inl (.getfield 139), .inl (.iload 1), .inl .iaload, .inl (.if_icmp .le (.ofNat 37)), .inl (.aload 0), .inr (.int 7), .inl (.aload 0), .inl (.getfield 101), .inl (.invokevirtual 19), .inl (.ret 0), .inl (.iinc 1 1), .inl (.goto (.ofNat 17)), .inr (.int 1), .inl (.ret 0)]
def pb_X3_agrees : List Nat := [0, 1, 4, 5, 8, 11, 12, 13, 14, 17, 18, 20, 21, 24, 27, 28, 29, 30, 30, 31, 32, 35, 36, 39, 40, 43, 44, 47, 50, 51, 52, 55, 56, 58, 59, 62, 65, 66, 69, 72, 73]
def cd_X3_nextToken : List (Instr ⊕ Value) := [.inl .nop, .inl (.aload 0), .inl (.getfield 102), .inl (.aload 0), .inl (.getfield 101), .inl (.if_icmp .ge (.ofNat 20)), .inl (.aload 0), .inl (.getfield 100), .inl (.aload 0), .inl (.getfield 102), .inl .baload, .inr (.int 32), .inl (.if_icmp .ne (.ofNat 20)), .inl (.aload 0), .inl .dup, .inl (.getfield 102), .inr (.int 1), .inl .iadd, .inl (.putfield 102), .inl (.goto (.ofNat 0)), .inl (.aload 0), .inl (.aload 0), .inl (.getfield 102), .inl (.putfield 104), .inl (.aload 0), .inl (.getfield 102), .inl (.aload 0), .inl (.getfield 101), .inl (.if_icmp .lt (.ofNat 34)), .inl (.aload 0), .inr (.int 0), .inl (.putfield 103), .inr (.int 1), .inl (.ret 0), .inl (.aload 0), .inl (.getfield 100), .inl (.aload 0), .inl (.getfield 102), .inl .baload, .inl (.istore 1), .inl (.iload 1), .inr (.int 59), .inl (.if_icmp .ne (.ofNat 54)), .inl (.aload 0), .inr (.int 3), .inl (.putfield 103), .inl (.aload 0), .inl .dup, .inl (.getfield 102), .inr (.int 1), .inl .iadd, .inl (.putfield 102), .inr (.int 1), .inl (.ret 0), .inl (.iload 1), .inr (.int 97), .inr (.int 122), .inl (.invokestatic 24), .inl (.ifCond .eq (.ofNat 68)), .inl (.aload 0), .inr (.int 1), .inl (.putfield 103), .inl (.aload 0), .inr (.int 97), .inr (.int 122), .inl (.invokevirtual 23), .inr (.int 1), .inl (.ret 0), .inl (.iload 1), .inr (.int 48), .inr (.int 57), .inl (.invokestatic 24), .inl (.ifCond .eq (.ofNat 76)), .inl (.aload 0), .inl (.invokevirtual 22), .inl (.goto (.ofNat 81)), .inl (.aload 0), .inr (.int 1), .inl (.aload 0), .inl (.getfield 104), .inl (.invokevirtual 19), .inl (.ret 0)]
def pb_X3_nextToken : List Nat := [0, 0, 1, 4, 5, 8, 11, 12, 15, 16, 19, 20, 22, 25, 26, 27, 30, 31, 32, 35, 38, 39, 40, 43, 46, 47, 50, 51, 54, 57, 58, 59, 62, 63, 64, 65, 68, 69, 72, 73, 74, 75, 77, 80, 81, 82, 85, 86, 87, 90, 91, 92, 95, 96, 97, 98, 100, 102, 105, 108, 109, 110, 113, 114, 116, 118, 121, 122, 123, 124, 126, 128, 131, 134, 135, 138, 141, 142, 143, 144, 147, 150]
def cd_X3_takeFigures : List (Instr ⊕ Value) := [.inl (.aload 0), .inr (.int 2), .inl (.putfield 103), .inl (.aload 0), .inr (.int 48), .inr (.int 57), .inl (.invokevirtual 23), .inl (.aload 0), .inl (.getfield 102), .inl (.aload 0), .inl (.getfield 104), .inl .isub, .inr (.int 2), .inl (.if_icmp .le (.ofNat 20)), .inl (.aload 0), .inr (.int 1), .inl (.aload 0), .inl (.getfield 104), .inl (.invokevirtual 19), .inl (.ret 0), .inl (.aload 0), .inr (.int 0), .inl (.putfield 105), .inl (.aload 0), .inl (.getfield 104), .inl (.istore 1), .inl .nop, .inl (.iload 1), .inl (.aload 0), .inl (.getfield 102), .inl (.if_icmp .ge (.ofNat 46)), .inl (.aload 0), .inr (.int 10), .inl (.aload 0), .inl (.getfield 105), .inl .imul, .inl (.aload 0), .inl (.getfield 100), .inl (.iload 1), .inl .baload, .inl .iadd, .inr (.int 48), .inl .isub, .inl (.putfield 105), .inl (.iinc 1 1), .inl (.goto (.ofNat 26)), .inr (.int 1), .inl (.ret 0)]
def pb_X3_takeFigures : List Nat := [0, 1, 2, 5, 6, 8, 10, 13, 14, 17, 18, 21, 22, 23, 26, 27, 28, 29, 32, 35, 36, 37, 38, 41, 42, 45, 46, 46, 47, 48, 51, 54, 55, 57, 58, 61, 62, 63, 66, 67, 68, 69, 71, 72, 75, 78, 81, 82]
def cd_X3_pass : List (Instr ⊕ Value) := [.inl .nop, .inl (.aload 0), .inl (.getfield 102), .inl (.aload 0), .inl (.getfield 101), .inl (.if_icmp .ge (.ofNat 27)), .inl (.aload 0), .inl (.getfield 100), .inl (.aload 0), .inl (.getfield 102), .inl .baload, .inl (.iload 1), .inl (.if_icmp .lt (.ofNat 27)), .inl (.aload 0), .inl (.getfield 100), .inl (.aload 0), .inl (.getfield 102), .inl .baload, .inl (.iload 2), .inl (.if_icmp .gt (.ofNat 27)), .inl (.aload 0), .inl .dup, .inl (.getfield 102), .inr (.int 1), .inl .iadd, .inl (.putfield 102), .inl (.goto (.ofNat 0)), .inl .return_]
def pb_X3_pass : List Nat := [0, 0, 1, 4, 5, 8, 11, 12, 15, 16, 19, 20, 21, 24, 25, 28, 29, 32, 33, 34, 37, 38, 39, 42, 43, 44, 47, 50]
def cd_X3_isIn : List (Instr ⊕ Value) := [.inl (.iload 0), .inl (.iload 1), .inl (.if_icmp .lt (.ofNat 8)), .inl (.iload 0), .inl (.iload 2), .inl (.if_icmp .gt (.ofNat 8)), .inr (.int 1), .inl (.goto (.ofNat 9)), .inr (.int 0), .inl (.ret 0)]
def pb_X3_isIn : List Nat := [0, 1, 2, 5, 6, 7, 10, 11, 14, 15]
def cd_X3_takeLine : List (Instr ⊕ Value) := [.inl (.aload 0), .inl (.getfield 103), .inr (.int 1), .inl (.if_icmp .ne (.ofNat 7)), .inl (.aload 0), .inl (.invokevirtual 28), .inl (.goto (.ofNat 8)), .inr (.int (-1)), .inl (.istore 1), .inl (.iload 1), .inr (.int (-1)), .inl (.if_icmp .ne (.ofNat 18)), .inl (.aload 0), .inr (.int 2), .inl (.aload 0), .inl (.getfield 104), .inl (.invokevirtual 19), .inl (.ret 0), .inl (.iload 1), .inr (.int 4), .inl (.if_icmp .ne (.ofNat 24)), .inl (.aload 0), .inl (.getfield 107), .inl (.ifCond .ne (.ofNat 30)), .inl (.iload 1), .inr (.int 5), .inl (.if_icmp .ne (.ofNat 36)), .inl (.aload 0), .inl (.getfield 108), .inl (.ifCond .eq (.ofNat 36)), .inl (.aload 0), .inr (.int 4), .inl (.aload 0), .inl (.getfield 104), .inl (.invokevirtual 19), .inl (.ret 0), .inl (.iload 1), .inr (.int 3), .inl (.if_icmp .gt (.ofNat 50)), .inl (.aload 0), .inl (.getfield 99), .inl (.getfield 128), .inr (.int 8), .inl (.if_icmp .lt (.ofNat 50)), .inl (.aload 0), .inr (.int 5), .inl (.aload 0), .inl (.getfield 104), .inl (.invokevirtual 19), .inl (.ret 0), .inr (.int 0), .inl (.istore 2), .inl .nop, .inl (.iload 2), .inr (.retAddr 1), .inl (.iload 1), .inl .faload, .inl (.if_icmp .ge (.ofNat 67)), .inl (.aload 0), .inl (.iload 1), .inl (.iload 2), .inl (.invokevirtual 26), .inl (.ifCond .ne (.ofNat 65)), .inr (.int 0), .inl (.ret 0), .inl (.iinc 2 1), .inl (.goto (.ofNat 52)), .inl (.aload 0), .inl (.invokevirtual 21), .inl (.ifCond .ne (.ofNat 72)), .inr (.int 0), .inl (.ret 0), .inl (.aload 0), .inl (.getfield 103), .inr (.int 3), .inl (.if_icmp .eq (.ofNat 82)), .inl (.aload 0), .inr (.int 2), .inl (.aload 0), .inl (.getfield 104), .inl (.invokevirtual 19), .inl (.ret 0), .inl (.aload 0), .inl (.iload 1), .inl (.invokevirtual 27), .inr (.int 1), .inl (.ret 0)]
def pb_X3_takeLine : List Nat := [0, 1, 4, 5, 8, 9, 12, 15, 16, 17, 18, 19, 22, 23, 24, 25, 28, 31, 32, 33, 34, 37, 38, 41, 44, 45, 46, 49, 50, 53, 56, 57, 58, 59, 62, 65, 66, 67, 68, 71, 72, 75, 78, 80, 83, 84, 85, 86, 89, 92, 93, 94, 95, 95, 96, 99, 100, 101, 104, 105, 106, 107, 110, 113, 114, 115, 118, 121, 122, 125, 128, 129, 130, 131, 134, 135, 138, 139, 140, 141, 144, 147, 148, 149, 150, 153, 154]
def cd_X3_takeNumber : List (Instr ⊕ Value) := [.inl (.aload 0), .inl (.invokevirtual 21), .inl (.ifCond .ne (.ofNat 5)), .inr (.int 0), .inl (.ret 0), .inl (.aload 0), .inl (.getfield 103), .inr (.int 2), .inl (.if_icmp .eq (.ofNat 15)), .inl (.aload 0), .inr (.int 2), .inl (.aload 0), .inl (.getfield 104), .inl (.invokevirtual 19), .inl (.ret 0), .inr (.int 3), .inl (.iload 1), .inl .imul, .inl (.iload 2), .inl .iadd, .inl (.istore 3), .inl (.aload 0), .inl (.getfield 105), .inr (.retAddr 2), .inl (.iload 3), .inl .faload, .inl (.if_icmp .lt (.ofNat 33)), .inl (.aload 0), .inl (.getfield 105), .inr (.retAddr 3), .inl (.iload 3), .inl .faload, .inl (.if_icmp .le (.ofNat 39)), .inl (.aload 0), .inr (.int 3), .inl (.aload 0), .inl (.getfield 104), .inl (.invokevirtual 19), .inl (.ret 0), .inl (.iload 1), .inr (.int 7), .inl (.if_icmp .ne (.ofNat 58)), .inl (.iload 2), .inr (.int 1), .inl (.if_icmp .ne (.ofNat 58)), .inl (.aload 0), .inl (.getfield 105), .inl (.aload 0), .inl (.getfield 106), .inr (.int 0), .inl .iaload, .inl (.if_icmp .ne (.ofNat 58)), .inl (.aload 0), .inr (.int 3), .inl (.aload 0), .inl (.getfield 104), .inl (.invokevirtual 19), .inl (.ret 0), .inl (.iload 1), .inr (.int 6), .inl (.if_icmp .ne (.ofNat 75)), .inl (.iload 2), .inl (.ifCond .ne (.ofNat 75)), .inl (.aload 0), .inl (.getfield 109), .inl (.aload 0), .inl (.getfield 105), .inl (.invokestatic 108), .inl (.ifCond .eq (.ofNat 75)), .inl (.aload 0), .inr (.int 4), .inl (.aload 0), .inl (.getfield 104), .inl (.invokevirtual 19), .inl (.ret 0), .inl (.aload 0), .inl (.getfield 106), .inl (.iload 2), .inl (.aload 0), .inl (.getfield 105), .inl .iastore, .inr (.int 1), .inl (.ret 0)]
def pb_X3_takeNumber : List Nat := [0, 1, 4, 7, 8, 9, 10, 13, 14, 17, 18, 19, 20, 23, 26, 27, 28, 29, 30, 31, 32, 33, 34, 37, 40, 41, 42, 45, 46, 49, 52, 53, 54, 57, 58, 59, 60, 63, 66, 67, 68, 70, 73, 74, 75, 78, 79, 82, 83, 86, 87, 88, 91, 92, 93, 94, 97, 100, 101, 102, 104, 107, 108, 111, 112, 115, 116, 119, 122, 125, 126, 127, 128, 131, 134, 135, 136, 139, 140, 141, 144, 145, 146]
def cd_X3_putDown : List (Instr ⊕ Value) := [.inl (.aload 0), .inl (.getfield 106), .inr (.int 0), .inl .iaload, .inl (.istore 2), .inl (.aload 0), .inl (.getfield 106), .inr (.int 1), .inl .iaload, .inl (.istore 3), .inl (.iload 1), .inl (.tableswitch (.ofNat 89) 1 7 #[.ofNat 78, .ofNat 62, .ofNat 70, .ofNat 12, .ofNat 20, .ofNat 28, .ofNat 43]), .inl (.aload 0), .inl (.getfield 99), .inl (.iload 2), .inl (.putfield 129), .inl (.aload 0), .inr (.int 1), .inl (.multianewarray 107 1), .inl (.goto (.ofNat 99)), .inl (.aload 0), .inl (.getfield 99), .inl (.iload 2), .inl (.putfield 130), .inl (.aload 0), .inr (.int 1), .inl (.multianewarray 108 1), .inl (.goto (.ofNat 99)), .inl (.aload 0), .inl (.getfield 99), .inl (.getfield 139), .inl (.iload 2), .inl (.iload 3), .inl .iastore, .inl (.aload 0), .inl .dup, .inl (.getfield 109), .inr (.int 1), .inl (.iload 2), .inl .ishl, .inl .ior, .inl (.putfield 109), .inl (.goto (.ofNat 99)), .inl (.aload 0), .inl (.getfield 99), .inl (.iload 2), .inl (.iload 3), .inr (.int 1), .inl (.invokevirtual 44), .inl (.aload 0), .inl .dup, .inl (.getfield 110), .inr (.int 1), .inl (.iload 2), .inl .ishl, .inr (.int 1), .inl (.iload 3), .inl .ishl, .inl .ior, .inl .ior, .inl (.putfield 110), .inl (.goto (.ofNat 99)), .inl (.aload 0), .inl (.getfield 99), .inr (.int 2), .inr (.int 0), .inl (.iload 2), .inl (.iload 3), .inl (.invokevirtual 43), .inl (.goto (.ofNat 99)), .inl (.aload 0), .inl (.getfield 99), .inr (.int 3), .inl (.iload 2), .inl (.iload 3), .inr (.int (-4)), .inl (.invokevirtual 43), .inl (.goto (.ofNat 99)), .inl (.aload 0), .inl (.getfield 99), .inr (.int 1), .inl (.iload 2), .inl (.iload 3), .inl (.aload 0), .inl (.getfield 106), .inr (.int 2), .inl .iaload, .inl (.invokevirtual 43), .inl (.goto (.ofNat 99)), .inl (.aload 0), .inl (.getfield 99), .inr (.int 0), .inl (.iload 2), .inl (.iload 3), .inl (.aload 0), .inl (.getfield 106), .inr (.int 2), .inl .iaload, .inl (.invokevirtual 43), .inl .return_]
def pb_X3_putDown : List Nat := [0, 1, 4, 5, 6, 7, 8, 11, 12, 13, 14, 15, 56, 57, 60, 61, 64, 65, 66, 69, 72, 73, 76, 77, 80, 81, 82, 85, 88, 89, 92, 95, 96, 97, 98, 99, 100, 103, 104, 105, 106, 107, 110, 113, 114, 117, 118, 119, 120, 123, 124, 125, 128, 129, 130, 131, 132, 133, 134, 135, 136, 139, 142, 143, 146, 147, 148, 149, 150, 153, 156, 157, 160, 161, 162, 163, 165, 168, 171, 172, 175, 176, 177, 178, 179, 182, 183, 184, 187, 190, 191, 194, 195, 196, 197, 198, 201, 202, 203, 206]
def cd_X3_wordHere : List (Instr ⊕ Value) := [.inr (.int 0), .inl (.istore 1), .inl .nop, .inl (.iload 1), .inr (.int 8), .inl (.if_icmp .ge (.ofNat 15)), .inl (.aload 0), .inl (.iload 1), .inl (.invokestatic 30), .inl (.invokevirtual 29), .inl (.ifCond .eq (.ofNat 13)), .inl (.iload 1), .inl .ireturn, .inl (.iinc 1 1), .inl (.goto (.ofNat 2)), .inr (.int (-1)), .inl .ireturn]
def pb_X3_wordHere : List Nat := [0, 1, 2, 2, 3, 5, 8, 9, 10, 13, 16, 19, 20, 21, 24, 27, 28]
def cd_X3_isHere : List (Instr ⊕ Value) := [.inl (.aload 1), .inl (.invokevirtual 206), .inl (.aload 0), .inl (.getfield 102), .inl (.aload 0), .inl (.getfield 104), .inl .isub, .inl (.if_icmp .eq (.ofNat 10)), .inr (.int 0), .inl (.ret 0), .inr (.int 0), .inl (.istore 2), .inl .nop, .inl (.iload 2), .inl (.aload 1), .inl (.invokevirtual 206), .inl (.if_icmp .ge (.ofNat 32)), .inl (.aload 0), .inl (.getfield 100), .inl (.aload 0), .inl (.getfield 104), .inl (.iload 2), .inl .iadd, .inl .baload, .inl (.aload 1), .inl (.iload 2), .inl (.invokevirtual 207), .inl (.if_icmp .eq (.ofNat 30)), .inr (.int 0), .inl (.ret 0), .inl (.iinc 2 1), .inl (.goto (.ofNat 12)), .inr (.int 1), .inl (.ret 0)]
def pb_X3_isHere : List Nat := [0, 1, 4, 5, 8, 9, 12, 13, 16, 17, 18, 19, 20, 20, 21, 22, 25, 28, 29, 32, 33, 36, 37, 38, 39, 40, 41, 44, 47, 48, 49, 52, 55, 56]
def cd_X3_wordOf : List (Instr ⊕ Value) := [.inl (.iload 0), .inl (.tableswitch (.ofNat 16) 0 6 #[.ofNat 2, .ofNat 4, .ofNat 6, .ofNat 8, .ofNat 10, .ofNat 12, .ofNat 14]), .inr (.retAddr 10), .inl .areturn, .inr (.retAddr 11), .inl .areturn, .inr (.retAddr 12), .inl .areturn, .inr (.retAddr 13), .inl .areturn, .inr (.retAddr 14), .inl .areturn, .inr (.retAddr 15), .inl .areturn, .inr (.retAddr 16), .inl .areturn, .inr (.retAddr 17), .inl .areturn]
def pb_X3_wordOf : List Nat := [0, 1, 44, 46, 47, 49, 50, 52, 53, 55, 56, 58, 59, 61, 62, 64, 65, 67]
def cd_X4_init : List (Instr ⊕ Value) := [.inl (.aload 0), .inl .monitorexit, .inl (.aload 0), .inr (.int 12), .inl (.putfield 129), .inl (.aload 0), .inr (.int 2), .inl (.putfield 130), .inl (.aload 0), .inr (.int 8), .inl (.newarray .int), .inl (.putstatic 134), .inl (.aload 0), .inr (.int 8), .inl (.newarray .int), .inl (.putstatic 135), .inl (.aload 0), .inr (.int 8), .inl (.newarray .int), .inl (.putstatic 136), .inl (.aload 0), .inr (.int 8), .inl (.newarray .int), .inl (.putstatic 137), .inl (.aload 0), .inr (.int 8), .inl (.newarray .int), .inl (.putstatic 138), .inl (.aload 0), .inr (.int 4), .inl (.newarray .int), .inl .dup, .inr (.int 0), .inr (.int 3), .inl .iastore, .inl .dup, .inr (.int 1), .inr (.int 3), .inl .iastore, .inl .dup, .inr (.int 2), .inr (.int 3), .inl .iastore, .inl .dup, .inr (.int 3), .inr (.int 3), .inl .iastore, .inl (.putstatic 139), .inl (.aload 0), .inr (.int 6), .inl (.newarray .int), .inl (.putstatic 140), .inl (.aload 0), .inr (.int 6), .inl (.newarray .int), .inl (.putstatic 141), .inl .return_]
def pb_X4_init : List Nat := [0, 1, 4, 5, 7, 10, 11, 12, 15, 16, 18, 20, 23, 24, 26, 28, 31, 32, 34, 36, 39, 40, 42, 44, 47, 48, 50, 52, 55, 56, 57, 59, 60, 61, 62, 63, 64, 65, 66, 67, 68, 69, 70, 71, 72, 73, 74, 75, 78, 79, 81, 83, 86, 87, 89, 91, 94]
def cd_X4_clear : List (Instr ⊕ Value) := [.inl (.aload 0), .inr (.int 0), .inl (.putfield 128), .inl (.aload 0), .inr (.int 12), .inl (.putfield 129), .inl (.aload 0), .inr (.int 2), .inl (.putfield 130), .inl (.aload 0), .inr (.int 0), .inl (.putfield 131), .inl (.aload 0), .inr (.int 0), .inl (.putfield 132), .inl (.aload 0), .inr (.int 0), .inl (.putfield 133), .inr (.int 0), .inl (.istore 1), .inl .nop, .inl (.iload 1), .inr (.int 8), .inl (.if_icmp .ge (.ofNat 31)), .inl (.aload 0), .inl (.getfield 138), .inl (.iload 1), .inr (.int 0), .inl .iastore, .inl (.iinc 1 1), .inl (.goto (.ofNat 20)), .inr (.int 0), .inl (.istore 1), .inl .nop, .inl (.iload 1), .inr (.int 4), .inl (.if_icmp .ge (.ofNat 44)), .inl (.aload 0), .inl (.getfield 139), .inl (.iload 1), .inr (.int 3), .inl .iastore, .inl (.iinc 1 1), .inl (.goto (.ofNat 33)), .inl .return_]
def pb_X4_clear : List Nat := [0, 1, 2, 5, 6, 8, 11, 12, 13, 16, 17, 18, 21, 22, 23, 26, 27, 28, 31, 32, 33, 33, 34, 36, 39, 40, 43, 44, 45, 46, 49, 52, 53, 54, 54, 55, 56, 59, 60, 63, 64, 65, 66, 69, 72]
def cd_X4_copyFrom : List (Instr ⊕ Value) := [.inl (.aload 0), .inl (.aload 1), .inl (.getfield 128), .inl (.putfield 128), .inl (.aload 0), .inl (.aload 1), .inl (.getfield 129), .inl (.putfield 129), .inl (.aload 0), .inl (.aload 1), .inl (.getfield 130), .inl (.putfield 130), .inl (.aload 0), .inl (.aload 1), .inl (.getfield 131), .inl (.putfield 131), .inl (.aload 0), .inl (.aload 1), .inl (.getfield 132), .inl (.putfield 132), .inl (.aload 0), .inl (.aload 1), .inl (.getfield 133), .inl (.putfield 133), .inr (.int 0), .inl (.istore 2), .inl .nop, .inl (.iload 2), .inr (.int 8), .inl (.if_icmp .ge (.ofNat 64)), .inl (.aload 0), .inl (.getfield 134), .inl (.iload 2), .inl (.aload 1), .inl (.getfield 134), .inl (.iload 2), .inl .iaload, .inl .iastore, .inl (.aload 0), .inl (.getfield 135), .inl (.iload 2), .inl (.aload 1), .inl (.getfield 135), .inl (.iload 2), .inl .iaload, .inl .iastore, .inl (.aload 0), .inl (.getfield 137), .inl (.iload 2), .inl (.aload 1), .inl (.getfield 137), .inl (.iload 2), .inl .iaload, .inl .iastore, .inl (.aload 0), .inl (.getfield 138), .inl (.iload 2), .inl (.aload 1), .inl (.getfield 138), .inl (.iload 2), .inl .iaload, .inl .iastore, .inl (.iinc 2 1), .inl (.goto (.ofNat 26)), .inl (.aload 0), .inl (.aload 1), .inl (.invokevirtual 34), .inr (.int 0), .inl (.istore 2), .inl .nop, .inl (.iload 2), .inr (.int 4), .inl (.if_icmp .ge (.ofNat 83)), .inl (.aload 0), .inl (.getfield 139), .inl (.iload 2), .inl (.aload 1), .inl (.getfield 139), .inl (.iload 2), .inl .iaload, .inl .iastore, .inl (.iinc 2 1), .inl (.goto (.ofNat 69)), .inr (.int 0), .inl (.istore 2), .inl .nop, .inl (.iload 2), .inr (.int 6), .inl (.if_icmp .ge (.ofNat 107)), .inl (.aload 0), .inl (.getfield 140), .inl (.iload 2), .inl (.aload 1), .inl (.getfield 140), .inl (.iload 2), .inl .iaload, .inl .iastore, .inl (.aload 0), .inl (.getfield 141), .inl (.iload 2), .inl (.aload 1), .inl (.getfield 141), .inl (.iload 2), .inl .iaload, .inl .iastore, .inl (.iinc 2 1), .inl (.goto (.ofNat 85)), .inl .return_]
def pb_X4_copyFrom : List Nat := [0, 1, 2, 5, 8, 9, 10, 13, 16, 17, 18, 21, 24, 25, 26, 29, 32, 33, 34, 37, 40, 41, 42, 45, 48, 49, 50, 50, 51, 53, 56, 57, 60, 61, 62, 65, 66, 67, 68, 69, 72, 73, 74, 77, 78, 79, 80, 81, 84, 85, 86, 89, 90, 91, 92, 93, 96, 97, 98, 101, 102, 103, 104, 107, 110, 111, 112, 115, 116, 117, 117, 118, 119, 122, 123, 126, 127, 128, 131, 132, 133, 134, 137, 140, 141, 142, 142, 143, 145, 148, 149, 152, 153, 154, 157, 158, 159, 160, 161, 164, 165, 166, 169, 170, 171, 172, 175, 178]
def cd_X4_copyStock : List (Instr ⊕ Value) := [.inr (.int 0), .inl (.istore 2), .inl .nop, .inl (.iload 2), .inr (.int 8), .inl (.if_icmp .ge (.ofNat 16)), .inl (.aload 0), .inl (.getfield 136), .inl (.iload 2), .inl (.aload 1), .inl (.getfield 136), .inl (.iload 2), .inl .iaload, .inl .iastore, .inl (.iinc 2 1), .inl (.goto (.ofNat 2)), .inl .return_]
def pb_X4_copyStock : List Nat := [0, 1, 2, 2, 3, 5, 8, 9, 12, 13, 14, 17, 18, 19, 20, 23, 26]
def cd_X4_hasMan : List (Instr ⊕ Value) := [.inl (.iload 1), .inl (.ifCond .lt (.ofNat 8)), .inl (.iload 1), .inl (.aload 0), .inl (.getfield 128), .inl (.if_icmp .ge (.ofNat 8)), .inr (.int 1), .inl (.goto (.ofNat 9)), .inr (.int 0), .inl (.ret 0)]
def pb_X4_hasMan : List Nat := [0, 1, 4, 5, 6, 9, 12, 13, 16, 17]
def cd_X4_allMen : List (Instr ⊕ Value) := [.inr (.int 1), .inl (.aload 0), .inl (.getfield 128), .inl .ishl, .inr (.int 1), .inl .isub, .inl .ireturn]
def pb_X4_allMen : List Nat := [0, 1, 2, 5, 6, 7, 8]
def cd_X4_menOfKind : List (Instr ⊕ Value) := [.inr (.int 0), .inl (.istore 2), .inr (.int 0), .inl (.istore 3), .inl .nop, .inl (.iload 3), .inl (.aload 0), .inl (.getfield 128), .inl (.if_icmp .ge (.ofNat 23)), .inl (.aload 0), .inl (.getfield 134), .inl (.iload 3), .inl .iaload, .inl (.iload 1), .inl (.if_icmp .ne (.ofNat 21)), .inl (.iload 2), .inr (.int 1), .inl (.iload 3), .inl .ishl, .inl .ior, .inl (.istore 2), .inl (.iinc 3 1), .inl (.goto (.ofNat 4)), .inl (.iload 2), .inl .ireturn]
def pb_X4_menOfKind : List Nat := [0, 1, 2, 3, 4, 4, 5, 6, 9, 12, 13, 16, 17, 18, 19, 22, 23, 24, 25, 26, 27, 28, 31, 34, 35]
def cd_X4_menOfTen : List (Instr ⊕ Value) := [.inr (.int 0), .inl (.istore 2), .inr (.int 0), .inl (.istore 3), .inl .nop, .inl (.iload 3), .inl (.aload 0), .inl (.getfield 128), .inl (.if_icmp .ge (.ofNat 23)), .inl (.aload 0), .inl (.getfield 137), .inl (.iload 3), .inl .iaload, .inl (.iload 1), .inl (.if_icmp .ne (.ofNat 21)), .inl (.iload 2), .inr (.int 1), .inl (.iload 3), .inl .ishl, .inl .ior, .inl (.istore 2), .inl (.iinc 3 1), .inl (.goto (.ofNat 4)), .inl (.iload 2), .inl .ireturn]
def pb_X4_menOfTen : List Nat := [0, 1, 2, 3, 4, 4, 5, 6, 9, 12, 13, 16, 17, 18, 19, 22, 23, 24, 25, 26, 27, 28, 31, 34, 35]
def cd_X4_sizeOfTen : List (Instr ⊕ Value) := [.inl (.aload 0), .inl (.iload 1), .inl (.invokevirtual 38), .inl (.invokestatic 204), .inl .ireturn]
def pb_X4_sizeOfTen : List Nat := [0, 1, 2, 5, 8]
def cd_X4_tensWithMen : List (Instr ⊕ Value) := [.inr (.int 0), .inl (.istore 1), .inr (.int 0), .inl (.istore 2), .inl .nop, .inl (.iload 2), .inr (.int 4), .inl (.if_icmp .ge (.ofNat 15)), .inl (.aload 0), .inl (.iload 2), .inl (.invokevirtual 38), .inl (.ifCond .eq (.ofNat 13)), .inl (.iinc 1 1), .inl (.iinc 2 1), .inl (.goto (.ofNat 4)), .inl (.iload 1), .inl .ireturn]
def pb_X4_tensWithMen : List Nat := [0, 1, 2, 3, 4, 4, 5, 6, 9, 10, 11, 14, 17, 20, 23, 26, 27]
def cd_X4_tensOf : List (Instr ⊕ Value) := [.inr (.int 0), .inl (.istore 2), .inr (.int 0), .inl (.istore 3), .inl .nop, .inl (.iload 3), .inl (.aload 0), .inl (.getfield 128), .inl (.if_icmp .ge (.ofNat 29)), .inl (.iload 1), .inl (.iload 3), .inl (.invokestatic 108), .inl (.ifCond .eq (.ofNat 27)), .inl (.aload 0), .inl (.getfield 137), .inl (.iload 3), .inl .iaload, .inl (.ifCond .lt (.ofNat 27)), .inl (.iload 2), .inr (.int 1), .inl (.aload 0), .inl (.getfield 137), .inl (.iload 3), .inl .iaload, .inl .ishl, .inl .ior, .inl (.istore 2), .inl (.iinc 3 1), .inl (.goto (.ofNat 4)), .inl (.iload 2), .inl .ireturn]
def pb_X4_tensOf : List Nat := [0, 1, 2, 3, 4, 4, 5, 6, 9, 12, 13, 14, 17, 20, 21, 24, 25, 26, 29, 30, 31, 32, 35, 36, 37, 38, 39, 40, 43, 46, 47]
def cd_X4_stockOf : List (Instr ⊕ Value) := [.inr (.int 0), .inl (.istore 2), .inr (.int 0), .inl (.istore 3), .inl .nop, .inl (.iload 3), .inl (.aload 0), .inl (.getfield 128), .inl (.if_icmp .ge (.ofNat 22)), .inl (.iload 1), .inl (.iload 3), .inl (.invokestatic 108), .inl (.ifCond .eq (.ofNat 20)), .inl (.iload 2), .inl (.aload 0), .inl (.getfield 136), .inl (.iload 3), .inl .iaload, .inl .iadd, .inl (.istore 2), .inl (.iinc 3 1), .inl (.goto (.ofNat 4)), .inl (.iload 2), .inl .ireturn]
def pb_X4_stockOf : List Nat := [0, 1, 2, 3, 4, 4, 5, 6, 9, 12, 13, 14, 17, 20, 21, 22, 25, 26, 27, 28, 29, 32, 35, 36]
def cd_X4_addMan : List (Instr ⊕ Value) := [.inl (.aload 0), .inl (.getfield 134), .inl (.aload 0), .inl (.getfield 128), .inl (.iload 1), .inl .iastore, .inl (.aload 0), .inl (.getfield 135), .inl (.aload 0), .inl (.getfield 128), .inl (.iload 2), .inl .iastore, .inl (.aload 0), .inl (.getfield 136), .inl (.aload 0), .inl (.getfield 128), .inl (.iload 3), .inl .iastore, .inl (.aload 0), .inl (.getfield 137), .inl (.aload 0), .inl (.getfield 128), .inl (.iload 4), .inl .iastore, .inl (.aload 0), .inl .dup, .inl (.getfield 128), .inr (.int 1), .inl .iadd, .inl (.putfield 128), .inl .return_]
def pb_X4_addMan : List Nat := [0, 1, 4, 5, 8, 9, 10, 11, 14, 15, 18, 19, 20, 21, 24, 25, 28, 29, 30, 31, 34, 35, 38, 40, 41, 42, 43, 46, 47, 48, 51]
def cd_X4_setKin : List (Instr ⊕ Value) := [.inl (.aload 0), .inl (.getfield 138), .inl (.iload 1), .inl (.aload 0), .inl (.getfield 138), .inl (.iload 1), .inl .iaload, .inl (.iload 2), .inl (.iload 3), .inl (.invokestatic 109), .inl .iastore, .inl (.aload 0), .inl (.getfield 138), .inl (.iload 2), .inl (.aload 0), .inl (.getfield 138), .inl (.iload 2), .inl .iaload, .inl (.iload 1), .inl (.iload 3), .inl (.invokestatic 109), .inl .iastore, .inl .return_]
def pb_X4_setKin : List Nat := [0, 1, 4, 5, 6, 9, 10, 11, 12, 13, 16, 17, 18, 21, 22, 23, 26, 27, 28, 29, 30, 33, 34]
def cd_X4_whyNoSeat : List (Instr ⊕ Value) := [.inl (.aload 0), .inl (.iload 1), .inl (.invokevirtual 35), .inl (.ifCond .eq (.ofNat 7)), .inl (.iload 2), .inl (.invokestatic 106), .inl (.ifCond .ne (.ofNat 9)), .inr (.int (-1)), .inl .ireturn, .inl (.aload 0), .inl (.getfield 137), .inl (.iload 1), .inl .iaload, .inl (.iload 2), .inl (.if_icmp .eq (.ofNat 25)), .inl (.aload 0), .inl (.iload 2), .inl (.invokevirtual 39), .inl (.aload 0), .inl (.getfield 139), .inl (.iload 2), .inl .iaload, .inl (.if_icmp .lt (.ofNat 25)), .inr (.int (-3)), .inl (.goto (.ofNat 26)), .inr (.int 0), .inl .ireturn]
def pb_X4_whyNoSeat : List Nat := [0, 1, 2, 5, 8, 9, 12, 15, 16, 17, 18, 21, 22, 23, 24, 27, 28, 29, 32, 33, 36, 37, 38, 41, 43, 46, 47]
def cd_X4_seat : List (Instr ⊕ Value) := [.inl (.aload 0), .inl (.getfield 137), .inl (.iload 1), .inl .iaload, .inl (.istore 3), .inl (.aload 0), .inl (.getfield 137), .inl (.iload 1), .inl (.iload 2), .inl .iastore, .inl (.aload 0), .inl (.getfield 134), .inl (.iload 1), .inl .iaload, .inr (.int 3), .inl (.if_icmp .ne (.ofNat 21)), .inl (.aload 0), .inl (.getfield 134), .inl (.iload 1), .inr (.int 0), .inl .iastore, .inl (.iload 3), .inl .ireturn]
def pb_X4_seat : List Nat := [0, 1, 4, 5, 6, 7, 8, 11, 12, 13, 14, 15, 18, 19, 20, 21, 24, 25, 28, 29, 30, 31, 32]
def cd_X4_giveUp : List (Instr ⊕ Value) := [.inl (.aload 0), .inl (.getfield 137), .inl (.iload 1), .inr (.int (-4)), .inl .iastore, .inl (.aload 0), .inl (.getfield 134), .inl (.iload 1), .inr (.int 3), .inl .iastore, .inl (.aload 0), .inl (.aload 0), .inl (.getfield 132), .inl (.iload 1), .inr (.int 0), .inl (.invokestatic 109), .inl (.putfield 132), .inl .return_]
def pb_X4_giveUp : List Nat := [0, 1, 4, 5, 7, 8, 9, 12, 13, 14, 15, 16, 17, 20, 21, 22, 25, 28]
def cd_X4_maySwap : List (Instr ⊕ Value) := [.inl (.aload 0), .inl (.getfield 137), .inl (.iload 1), .inl .iaload, .inl (.ifCond .lt (.ofNat 21)), .inl (.aload 0), .inl (.getfield 137), .inl (.iload 2), .inl .iaload, .inl (.ifCond .lt (.ofNat 21)), .inl (.aload 0), .inl (.getfield 137), .inl (.iload 1), .inl .iaload, .inl (.aload 0), .inl (.getfield 137), .inl (.iload 2), .inl .iaload, .inl (.if_icmp .eq (.ofNat 21)), .inr (.int 1), .inl (.goto (.ofNat 22)), .inr (.int 0), .inl (.ret 0)]
def pb_X4_maySwap : List Nat := [0, 1, 4, 5, 6, 9, 10, 13, 14, 15, 18, 19, 22, 23, 24, 25, 28, 29, 30, 33, 34, 37, 38]
def cd_X4_exchange : List (Instr ⊕ Value) := [.inl (.aload 0), .inl (.getfield 137), .inl (.iload 1), .inl .iaload, .inl (.istore 3), .inl (.aload 0), .inl (.getfield 137), .inl (.iload 1), .inl (.aload 0), .inl (.getfield 137), .inl (.iload 2), .inl .iaload, .inl .iastore, .inl (.aload 0), .inl (.getfield 137), .inl (.iload 2), .inl (.iload 3), .inl .iastore, .inl .return_]
def pb_X4_exchange : List Nat := [0, 1, 4, 5, 6, 7, 8, 11, 12, 13, 16, 17, 18, 19, 20, 23, 24, 25, 26]
def cd_X4_oddsInTen : List (Instr ⊕ Value) := [.inl (.aload 0), .inl (.iload 1), .inl (.aload 0), .inl (.getfield 132), .inl (.iload 1), .inl (.invokestatic 108), .inl (.ifCond .eq (.ofNat 9)), .inr (.int 1), .inl (.goto (.ofNat 10)), .inr (.int 0), .inl (.invokevirtual 51), .inl .ireturn]
def pb_X4_oddsInTen : List Nat := [0, 1, 2, 3, 6, 7, 10, 13, 14, 17, 18, 21]
def cd_X4_oddsIfWatched : List (Instr ⊕ Value) := [.inl (.aload 0), .inl (.getfield 134), .inl (.iload 1), .inl .iaload, .inr (.int 1), .inl (.if_icmp .eq (.ofNat 12)), .inl (.aload 0), .inl (.iload 1), .inr (.int 0), .inl (.iload 2), .inl (.invokevirtual 52), .inl .ireturn, .inl (.aload 0), .inl (.aload 0), .inl (.getfield 137), .inl (.iload 1), .inl .iaload, .inl (.invokevirtual 38), .inl (.aload 0), .inr (.int 1), .inl (.invokevirtual 37), .inl .iand, .inl (.istore 3), .inl (.aload 0), .inl (.iload 1), .inl (.iload 3), .inl (.invokestatic 204), .inr (.int 1), .inl .isub, .inl (.iload 2), .inl (.invokevirtual 52), .inl .ireturn]
def pb_X4_oddsIfWatched : List Nat := [0, 1, 4, 5, 6, 7, 10, 11, 12, 13, 14, 17, 18, 19, 20, 23, 24, 25, 28, 29, 30, 33, 34, 35, 36, 37, 38, 41, 42, 43, 44, 47]
def cd_X4_oddsAmong : List (Instr ⊕ Value) := [.inl (.aload 0), .inl (.getfield 134), .inl (.iload 1), .inl .iaload, .inr (.int 2), .inl (.if_icmp .ne (.ofNat 8)), .inr (.int 0), .inl .ireturn, .inl (.aload 0), .inl (.getfield 134), .inl (.iload 1), .inl .iaload, .inr (.int 1), .inl (.if_icmp .ne (.ofNat 21)), .inl (.aload 0), .inl (.getfield 135), .inl (.iload 1), .inl .iaload, .inl (.iload 2), .inl .iadd, .inl (.goto (.ofNat 25)), .inl (.aload 0), .inl (.getfield 135), .inl (.iload 1), .inl .iaload, .inl (.istore 4), .inl (.iload 3), .inl (.ifCond .eq (.ofNat 32)), .inl (.iload 4), .inr (.int 2), .inl .idiv, .inl (.goto (.ofNat 33)), .inl (.iload 4), .inr (.int 9), .inl (.invokestatic 205), .inl .ireturn]
def pb_X4_oddsAmong : List Nat := [0, 1, 4, 5, 6, 7, 10, 11, 12, 13, 16, 17, 18, 19, 22, 23, 26, 27, 28, 29, 30, 33, 34, 37, 38, 39, 41, 42, 45, 47, 48, 49, 52, 54, 56, 59]
def cd_X4_wonByWatch : List (Instr ⊕ Value) := [.inl (.aload 0), .inl (.getfield 137), .inl (.iload 1), .inl .iaload, .inl (.ifCond .ge (.ofNat 7)), .inr (.int 0), .inl .ireturn, .inl (.aload 0), .inl (.getfield 129), .inl (.aload 0), .inl (.iload 1), .inr (.int 0), .inl (.invokevirtual 51), .inl (.aload 0), .inl (.iload 1), .inr (.int 1), .inl (.invokevirtual 51), .inl .isub, .inl .imul, .inl .ireturn]
def pb_X4_wonByWatch : List Nat := [0, 1, 4, 5, 6, 9, 10, 11, 12, 15, 16, 17, 18, 21, 22, 23, 24, 27, 28, 29]
def cd_X4_harmOfTen : List (Instr ⊕ Value) := [.inl (.aload 0), .inl (.iload 1), .inl (.invokevirtual 38), .inl (.istore 2), .inr (.int 0), .inl (.istore 3), .inr (.int 0), .inl (.istore 4), .inl .nop, .inl (.iload 4), .inl (.aload 0), .inl (.getfield 128), .inl (.if_icmp .ge (.ofNat 25)), .inl (.iload 2), .inl (.iload 4), .inl (.invokestatic 108), .inl (.ifCond .eq (.ofNat 23)), .inl (.iload 3), .inl (.aload 0), .inl (.iload 4), .inl (.invokevirtual 50), .inl .iadd, .inl (.istore 3), .inl (.iinc 4 1), .inl (.goto (.ofNat 8)), .inl (.iload 3), .inl (.aload 0), .inl (.getfield 129), .inl .imul, .inr (.int 10), .inl (.aload 0), .inl (.getfield 130), .inl .imul, .inl (.iload 2), .inl (.aload 0), .inl (.getfield 132), .inl .iand, .inl (.invokestatic 204), .inl .imul, .inl .iadd, .inl .ireturn]
def pb_X4_harmOfTen : List Nat := [0, 1, 2, 5, 6, 7, 8, 9, 11, 11, 13, 14, 17, 20, 21, 23, 26, 29, 30, 31, 33, 36, 37, 38, 41, 44, 45, 46, 49, 50, 52, 53, 56, 57, 58, 59, 62, 63, 66, 67, 68]
def cd_X4_harmOfAll : List (Instr ⊕ Value) := [.inr (.int 0), .inl (.istore 1), .inr (.int 0), .inl (.istore 2), .inl .nop, .inl (.iload 2), .inr (.int 4), .inl (.if_icmp .ge (.ofNat 16)), .inl (.iload 1), .inl (.aload 0), .inl (.iload 2), .inl (.invokevirtual 54), .inl .iadd, .inl (.istore 1), .inl (.iinc 2 1), .inl (.goto (.ofNat 4)), .inr (.int 0), .inl (.istore 2), .inl .nop, .inl (.iload 2), .inl (.aload 0), .inl (.getfield 128), .inl (.if_icmp .ge (.ofNat 41)), .inl (.aload 0), .inl (.getfield 134), .inl (.iload 2), .inl .iaload, .inr (.int 3), .inl (.if_icmp .ne (.ofNat 39)), .inl (.iload 1), .inl (.aload 0), .inl (.getfield 135), .inl (.iload 2), .inl .iaload, .inl (.aload 0), .inl (.getfield 129), .inl .imul, .inl .iadd, .inl (.istore 1), .inl (.iinc 2 1), .inl (.goto (.ofNat 18)), .inl (.iload 1), .inl .ireturn]
def pb_X4_harmOfAll : List Nat := [0, 1, 2, 3, 4, 4, 5, 6, 9, 10, 11, 12, 15, 16, 17, 20, 23, 24, 25, 25, 26, 27, 30, 33, 34, 37, 38, 39, 40, 43, 44, 45, 48, 49, 50, 51, 54, 55, 56, 57, 60, 63, 64]
def cd_X4_chanceOf : List (Instr ⊕ Value) := [.inr (.long 1), .inl (.lstore 3), .inr (.int 0), .inl (.istore 5), .inl .nop, .inl (.iload 5), .inl (.aload 0), .inl (.getfield 128), .inl (.if_icmp .ge (.ofNat 33)), .inl (.iload 1), .inl (.iload 5), .inl (.invokestatic 108), .inl (.ifCond .eq (.ofNat 31)), .inl (.aload 0), .inl (.iload 5), .inl (.invokevirtual 50), .inl (.istore 6), .inl (.lload 3), .inl (.iload 2), .inl (.iload 5), .inl (.invokestatic 108), .inl (.ifCond .eq (.ofNat 25)), .inl (.iload 6), .inl .i2l, .inl (.goto (.ofNat 29)), .inr (.int 10), .inl (.iload 6), .inl .isub, .inl .i2l, .inl .lmul, .inl (.lstore 3), .inl (.iinc 5 1), .inl (.goto (.ofNat 4)), .inl (.lload 3), .inl .lreturn]
def pb_X4_chanceOf : List Nat := [0, 1, 2, 3, 5, 5, 7, 8, 11, 14, 15, 17, 20, 23, 24, 26, 29, 31, 32, 33, 35, 38, 41, 43, 44, 47, 49, 51, 52, 53, 54, 55, 58, 61, 62]
def cd_X4_mayDoWrong : List (Instr ⊕ Value) := [.inl (.iload 1), .inl (.aload 0), .inl (.invokevirtual 36), .inl (.aload 0), .inr (.int 2), .inl (.invokevirtual 37), .inr (.int (-1)), .inl .ixor, .inl .iand, .inr (.int (-1)), .inl .ixor, .inl .iand, .inl (.ifCond .ne (.ofNat 15)), .inr (.int 1), .inl (.goto (.ofNat 16)), .inr (.int 0), .inl (.ret 0)]
def pb_X4_mayDoWrong : List Nat := [0, 1, 2, 5, 6, 7, 10, 11, 12, 13, 14, 15, 16, 19, 20, 23, 24]
def cd_X4_payAll : List (Instr ⊕ Value) := [.inl (.aload 0), .inl (.iload 1), .inl (.invokevirtual 59), .inl (.istore 2), .inl (.iload 2), .inl (.aload 0), .inl (.invokevirtual 61), .inl .iadd, .inl .ireturn]
def pb_X4_payAll : List Nat := [0, 1, 2, 5, 6, 7, 8, 11, 12]
def cd_X4_payFines : List (Instr ⊕ Value) := [.inr (.int 0), .inl (.istore 2), .inr (.int 0), .inl (.istore 3), .inl .nop, .inl (.iload 3), .inl (.aload 0), .inl (.getfield 128), .inl (.if_icmp .ge (.ofNat 26)), .inl (.iload 1), .inl (.iload 3), .inl (.invokestatic 108), .inl (.ifCond .eq (.ofNat 24)), .inl (.aload 0), .inl (.getfield 137), .inl (.iload 3), .inl .iaload, .inl (.ifCond .lt (.ofNat 24)), .inl (.iload 2), .inl (.aload 0), .inl (.iload 3), .inl (.invokevirtual 60), .inl .iadd, .inl (.istore 2), .inl (.iinc 3 1), .inl (.goto (.ofNat 4)), .inl (.iload 2), .inl .ireturn]
def pb_X4_payFines : List Nat := [0, 1, 2, 3, 4, 4, 5, 6, 9, 12, 13, 14, 17, 20, 21, 24, 25, 26, 29, 30, 31, 32, 35, 36, 37, 40, 43, 44]
def cd_X4_payFor : List (Instr ⊕ Value) := [.inl (.aload 0), .inl (.aload 0), .inl (.getfield 137), .inl (.iload 1), .inl .iaload, .inl (.invokevirtual 38), .inl (.aload 0), .inl (.getfield 138), .inl (.iload 1), .inl .iaload, .inr (.int (-1)), .inl .ixor, .inl .iand, .inl (.iload 1), .inr (.int 0), .inl (.invokestatic 109), .inl (.istore 2), .inl (.iload 2), .inl (.invokestatic 204), .inl (.istore 3), .inl (.iload 3), .inl (.ifCond .ne (.ofNat 24)), .inr (.int 0), .inl .ireturn, .inl (.aload 0), .inl (.getfield 129), .inl (.iload 3), .inl .irem, .inl (.istore 4), .inr (.int 0), .inl (.istore 5), .inr (.int 0), .inl (.istore 6), .inl .nop, .inl (.iload 6), .inl (.aload 0), .inl (.getfield 128), .inl (.if_icmp .ge (.ofNat 61)), .inl (.iload 2), .inl (.iload 6), .inl (.invokestatic 108), .inl (.ifCond .eq (.ofNat 59)), .inl (.iload 5), .inl (.aload 0), .inl (.iload 6), .inl (.aload 0), .inl (.getfield 129), .inl (.iload 3), .inl .idiv, .inl (.iload 4), .inl (.ifCond .le (.ofNat 53)), .inr (.int 1), .inl (.goto (.ofNat 54)), .inr (.int 0), .inl .iadd, .inl (.invokevirtual 62), .inl .iadd, .inl (.istore 5), .inl (.iinc 4 (-1)), .inl (.iinc 6 1), .inl (.goto (.ofNat 33)), .inl (.iload 5), .inl .ireturn]
def pb_X4_payFor : List Nat := [0, 1, 2, 5, 6, 7, 10, 11, 14, 15, 16, 17, 18, 19, 20, 21, 24, 25, 26, 29, 30, 31, 34, 35, 36, 37, 40, 41, 42, 44, 45, 47, 48, 50, 50, 52, 53, 56, 59, 60, 62, 65, 68, 70, 71, 73, 74, 77, 78, 79, 81, 84, 85, 88, 89, 90, 93, 94, 96, 99, 102, 105, 107]
def cd_X4_payCosts : List (Instr ⊕ Value) := [.inr (.int 0), .inl (.istore 1), .inr (.int 0), .inl (.istore 2), .inl .nop, .inl (.iload 2), .inr (.int 4), .inl (.if_icmp .ge (.ofNat 51)), .inl (.aload 0), .inl (.iload 2), .inl (.invokevirtual 38), .inl (.istore 3), .inl (.aload 0), .inl (.getfield 130), .inl (.iload 3), .inl (.aload 0), .inl (.getfield 132), .inl .iand, .inl (.invokestatic 204), .inl .imul, .inl (.istore 4), .inr (.int 0), .inl (.istore 5), .inl .nop, .inl (.iload 5), .inl (.aload 0), .inl (.getfield 128), .inl (.if_icmp .ge (.ofNat 49)), .inl (.iload 4), .inl (.ifCond .le (.ofNat 49)), .inl (.iload 3), .inl (.iload 5), .inl (.invokestatic 108), .inl (.ifCond .eq (.ofNat 47)), .inl (.aload 0), .inl (.iload 5), .inl (.iload 4), .inl (.invokevirtual 62), .inl (.istore 6), .inl (.iload 4), .inl (.iload 6), .inl .isub, .inl (.istore 4), .inl (.iload 1), .inl (.iload 6), .inl .iadd, .inl (.istore 1), .inl (.iinc 5 1), .inl (.goto (.ofNat 23)), .inl (.iinc 2 1), .inl (.goto (.ofNat 4)), .inl (.iload 1), .inl .ireturn]
def pb_X4_payCosts : List Nat := [0, 1, 2, 3, 4, 4, 5, 6, 9, 10, 11, 14, 15, 16, 19, 20, 21, 24, 25, 28, 29, 31, 32, 34, 34, 36, 37, 40, 43, 45, 48, 49, 51, 54, 57, 58, 60, 62, 65, 67, 69, 71, 72, 74, 75, 77, 78, 79, 82, 85, 88, 91, 92]
def cd_X4_takeFrom : List (Instr ⊕ Value) := [.inl (.iload 2), .inl (.aload 0), .inl (.getfield 136), .inl (.iload 1), .inl .iaload, .inl (.invokestatic 205), .inl (.istore 3), .inl (.aload 0), .inl (.getfield 136), .inl (.iload 1), .inl .dup2, .inl .iaload, .inl (.iload 3), .inl .isub, .inl .iastore, .inl (.iload 3), .inl .ireturn]
def pb_X4_takeFrom : List Nat := [0, 1, 2, 5, 6, 7, 10, 11, 12, 15, 16, 17, 18, 19, 20, 21, 22]
def cd_X5_init : List (Instr ⊕ Value) := [.inl (.aload 0), .inl .monitorexit, .inl (.aload 0), .inl (.new 4), .inl .dup, .inl (.invokespecial 31), .inl (.putstatic 160), .inl (.aload 0), .inl (.new 4), .inl .dup, .inl (.invokespecial 31), .inl (.putstatic 161), .inl (.aload 0), .inr (.int 2), .inl (.anewarray 0), .inl (.putstatic 162), .inl (.aload 0), .inr (.int 2), .inl (.newarray .boolean), .inl (.putstatic 163), .inl (.aload 0), .inr (.int 4), .inl (.anewarray 1), .inl (.putstatic 164), .inl (.aload 0), .inr (.int 160), .inl (.newarray .byte), .inl (.putstatic 165), .inl (.aload 0), .inl (.new 3), .inl .dup, .inl (.invokespecial 16), .inl (.putstatic 166), .inl (.aload 0), .inl (.new 1), .inl .dup, .inl (.invokespecial 4), .inl (.putstatic 167), .inl (.aload 0), .inl (.new 0), .inl .dup, .inl (.invokespecial 0), .inl (.putstatic 168), .inr (.int 0), .inl (.istore 1), .inl .nop, .inl (.iload 1), .inr (.int 2), .inl (.if_icmp .ge (.ofNat 58)), .inl (.aload 0), .inl (.getfield 162), .inl (.iload 1), .inl (.new 4), .inl .dup, .inl (.invokespecial 31), .inl .aastore, .inl (.iinc 1 1), .inl (.goto (.ofNat 45)), .inr (.int 0), .inl (.istore 1), .inl .nop, .inl (.iload 1), .inr (.int 4), .inl (.if_icmp .ge (.ofNat 73)), .inl (.aload 0), .inl (.getfield 164), .inl (.iload 1), .inl (.new 2), .inl .dup, .inl (.invokespecial 11), .inl .aastore, .inl (.iinc 1 1), .inl (.goto (.ofNat 60)), .inl .return_]
def pb_X5_init : List Nat := [0, 1, 4, 5, 8, 9, 12, 15, 16, 19, 20, 23, 26, 27, 28, 31, 34, 35, 36, 38, 41, 42, 43, 46, 49, 50, 53, 55, 58, 59, 62, 63, 66, 69, 70, 73, 74, 77, 80, 81, 84, 85, 88, 91, 92, 93, 93, 94, 95, 98, 99, 102, 103, 106, 107, 110, 111, 114, 117, 118, 119, 119, 120, 121, 124, 125, 128, 129, 132, 133, 136, 137, 140, 143]
def cd_X5_feed : List (Instr ⊕ Value) := [.inl (.iload 1), .inl (.ifCond .lt (.ofNat 5)), .inl (.iload 1), .inr (.int 127), .inl (.if_icmp .le (.ofNat 7)), .inr (.int (-1)), .inl .ireturn, .inl (.aload 0), .inl (.getfield 169), .inr (.int 160), .inl (.if_icmp .lt (.ofNat 13)), .inr (.int (-3)), .inl .ireturn, .inl (.aload 0), .inl (.getfield 165), .inl (.aload 0), .inl (.getfield 169), .inl (.iload 1), .inl .i2b, .inl .bastore, .inl (.aload 0), .inl .dup, .inl (.getfield 169), .inr (.int 1), .inl .iadd, .inl (.putfield 169), .inl (.aload 0), .inl (.getfield 169), .inl .ireturn]
def pb_X5_feed : List Nat := [0, 1, 4, 5, 7, 10, 11, 12, 13, 16, 19, 22, 24, 25, 26, 29, 30, 33, 34, 35, 36, 37, 38, 41, 42, 43, 46, 47, 50]
def cd_X5_end : List (Instr ⊕ Value) := [.inl (.iload 1), .inl (.ifCond .lt (.ofNat 6)), .inl (.iload 1), .inl (.aload 0), .inl (.getfield 169), .inl (.if_icmp .le (.ofNat 8)), .inr (.int (-1)), .inl .ireturn, .inl (.aload 0), .inl (.getfield 169), .inl (.istore 2), .inl (.aload 0), .inl (.iload 1), .inl (.putfield 169), .inl (.iload 2), .inl .ireturn]
def pb_X5_end : List Nat := [0, 1, 4, 5, 6, 9, 12, 13, 14, 15, 18, 19, 20, 21, 24, 25]
def cd_X5_text : List (Instr ⊕ Value) := [.inl (.aload 0), .inl (.getfield 166), .inl (.aload 0), .inl (.getfield 165), .inl (.aload 0), .inl (.getfield 169), .inl (.aload 0), .inl (.getfield 161), .inl (.invokevirtual 17), .inl (.istore 1), .inl (.aload 0), .inr (.int 0), .inl (.putfield 169), .inl (.aload 0), .inl (.aload 0), .inl (.getfield 166), .inl (.getfield 97), .inl (.putfield 170), .inl (.iload 1), .inl (.ifCond .ne (.ofNat 26)), .inr (.int (-10)), .inl (.aload 0), .inl (.getfield 166), .inl (.getfield 98), .inl .isub, .inl .ireturn, .inl (.aload 0), .inl (.getfield 160), .inl (.aload 0), .inl (.getfield 161), .inl (.invokevirtual 33), .inr (.int 0), .inl (.istore 2), .inl .nop, .inl (.iload 2), .inr (.int 2), .inl (.if_icmp .ge (.ofNat 44)), .inl (.aload 0), .inl (.getfield 163), .inl (.iload 2), .inr (.int 0), .inl .bastore, .inl (.iinc 2 1), .inl (.goto (.ofNat 33)), .inl (.aload 0), .inl (.getfield 166), .inl (.getfield 96), .inl .ireturn]
def pb_X5_text : List Nat := [0, 1, 4, 5, 8, 9, 12, 13, 16, 19, 20, 21, 22, 25, 26, 27, 30, 33, 36, 37, 40, 42, 43, 46, 49, 50, 51, 52, 55, 56, 59, 62, 63, 64, 64, 65, 66, 69, 70, 73, 74, 75, 76, 79, 82, 83, 86, 89]
def cd_X5_fault : List (Instr ⊕ Value) := [.inl (.aload 0), .inl (.getfield 170), .inl .ireturn]
def pb_X5_fault : List Nat := [0, 1, 4]
def cd_X5_rule : List (Instr ⊕ Value) := [.inl (.iload 1), .inl (.tableswitch (.ofNat 27) 0 5 #[.ofNat 2, .ofNat 6, .ofNat 10, .ofNat 14, .ofNat 18, .ofNat 22]), .inl (.aload 0), .inl (.getfield 160), .inl (.getfield 128), .inl .ireturn, .inl (.aload 0), .inl (.getfield 160), .inl (.getfield 129), .inl .ireturn, .inl (.aload 0), .inl (.getfield 160), .inl (.getfield 130), .inl .ireturn, .inl (.aload 0), .inl (.getfield 160), .inl (.getfield 131), .inl .ireturn, .inl (.aload 0), .inl (.getfield 160), .inl (.getfield 132), .inl .ireturn, .inl (.aload 0), .inl (.getfield 160), .inr (.int 3), .inl (.invokevirtual 37), .inl .ireturn, .inr (.int (-1)), .inl .ireturn]
def pb_X5_rule : List Nat := [0, 1, 40, 41, 44, 47, 48, 49, 52, 55, 56, 57, 60, 63, 64, 65, 68, 71, 72, 73, 76, 79, 80, 81, 84, 85, 88, 89, 90]
def cd_X5_man : List (Instr ⊕ Value) := [.inl (.aload 0), .inl (.getfield 160), .inl (.iload 1), .inl (.invokevirtual 35), .inl (.ifCond .ne (.ofNat 7)), .inr (.int (-1)), .inl .ireturn, .inl (.iload 2), .inl (.tableswitch (.ofNat 44) 0 5 #[.ofNat 9, .ofNat 15, .ofNat 21, .ofNat 27, .ofNat 33, .ofNat 39]), .inl (.aload 0), .inl (.getfield 160), .inl (.getfield 134), .inl (.iload 1), .inl .iaload, .inl .ireturn, .inl (.aload 0), .inl (.getfield 160), .inl (.getfield 135), .inl (.iload 1), .inl .iaload, .inl .ireturn, .inl (.aload 0), .inl (.getfield 160), .inl (.getfield 136), .inl (.iload 1), .inl .iaload, .inl .ireturn, .inl (.aload 0), .inl (.getfield 160), .inl (.getfield 137), .inl (.iload 1), .inl .iaload, .inl .ireturn, .inl (.aload 0), .inl (.getfield 160), .inl (.getfield 138), .inl (.iload 1), .inl .iaload, .inl .ireturn, .inl (.aload 0), .inl (.getfield 160), .inl (.iload 1), .inl (.invokevirtual 50), .inl .ireturn, .inr (.int (-1)), .inl .ireturn]
def pb_X5_man : List Nat := [0, 1, 4, 5, 8, 11, 12, 13, 14, 52, 53, 56, 59, 60, 61, 62, 63, 66, 69, 70, 71, 72, 73, 76, 79, 80, 81, 82, 83, 86, 89, 90, 91, 92, 93, 96, 99, 100, 101, 102, 103, 106, 107, 110, 111, 112]
def cd_X5_ten : List (Instr ⊕ Value) := [.inl (.iload 1), .inl (.invokestatic 106), .inl (.ifCond .ne (.ofNat 5)), .inr (.int (-1)), .inl .ireturn, .inl (.iload 2), .inl (.tableswitch (.ofNat 31) 0 3 #[.ofNat 7, .ofNat 12, .ofNat 18, .ofNat 23]), .inl (.aload 0), .inl (.getfield 160), .inl (.iload 1), .inl (.invokevirtual 38), .inl .ireturn, .inl (.aload 0), .inl (.getfield 160), .inl (.getfield 139), .inl (.iload 1), .inl .iaload, .inl .ireturn, .inl (.aload 0), .inl (.getfield 160), .inl (.iload 1), .inl (.invokevirtual 54), .inl .ireturn, .inl (.aload 0), .inl (.getfield 160), .inl (.aload 0), .inl (.getfield 160), .inl (.iload 1), .inl (.invokevirtual 38), .inl (.invokevirtual 42), .inl .ireturn, .inr (.int (-1)), .inl .ireturn]
def pb_X5_ten : List Nat := [0, 1, 4, 7, 8, 9, 10, 40, 41, 44, 45, 48, 49, 50, 53, 56, 57, 58, 59, 60, 63, 64, 67, 68, 69, 72, 73, 76, 77, 80, 83, 84, 85]
def cd_X5_move : List (Instr ⊕ Value) := [.inl (.aload 0), .inl (.getfield 160), .inl (.iload 1), .inl (.iload 2), .inl (.invokevirtual 45), .inl (.istore 3), .inl (.iload 3), .inl (.ifCond .eq (.ofNat 10)), .inl (.iload 3), .inl (.goto (.ofNat 15)), .inl (.aload 0), .inl (.getfield 160), .inl (.iload 1), .inl (.iload 2), .inl (.invokevirtual 46), .inl .ireturn]
def pb_X5_move : List Nat := [0, 1, 4, 5, 6, 9, 10, 11, 14, 15, 18, 19, 22, 23, 24, 27]
def cd_X5_leave : List (Instr ⊕ Value) := [.inl (.aload 0), .inl (.iload 1), .inl (.invokevirtual 102), .inl (.istore 2), .inl (.iload 2), .inl (.ifCond .eq (.ofNat 8)), .inl (.iload 2), .inl .ireturn, .inl (.aload 0), .inl (.getfield 160), .inl (.getfield 137), .inl (.iload 1), .inl .iaload, .inl (.istore 3), .inl (.aload 0), .inl (.getfield 160), .inl (.iload 1), .inl (.invokevirtual 47), .inl (.iload 3), .inl .ireturn]
def pb_X5_leave : List Nat := [0, 1, 2, 5, 6, 7, 10, 11, 12, 13, 16, 19, 20, 21, 22, 23, 26, 27, 30, 31]
def cd_X5_swap : List (Instr ⊕ Value) := [.inl (.aload 0), .inl (.iload 1), .inl (.iload 2), .inl (.invokevirtual 103), .inl (.ifCond .ne (.ofNat 7)), .inr (.int (-1)), .inl .ireturn, .inl (.aload 0), .inl (.getfield 160), .inl (.iload 1), .inl (.iload 2), .inl (.invokevirtual 48), .inl (.ifCond .ne (.ofNat 15)), .inr (.int (-2)), .inl .ireturn, .inl (.aload 0), .inl (.getfield 160), .inl (.iload 1), .inl (.iload 2), .inl (.invokevirtual 49), .inl (.aload 0), .inl (.getfield 160), .inl (.getfield 137), .inl (.iload 1), .inl .iaload, .inl .ireturn]
def pb_X5_swap : List Nat := [0, 1, 2, 3, 6, 9, 10, 11, 12, 15, 16, 17, 20, 23, 25, 26, 27, 30, 31, 32, 35, 36, 39, 42, 43, 44]
def cd_X5_watch : List (Instr ⊕ Value) := [.inl (.aload 0), .inl (.iload 1), .inl (.invokevirtual 102), .inl (.istore 3), .inl (.iload 3), .inl (.ifCond .eq (.ofNat 8)), .inl (.iload 3), .inl .ireturn, .inl (.aload 0), .inl (.getfield 160), .inl (.getfield 132), .inl (.iload 1), .inl (.invokestatic 108), .inl (.istore 4), .inl (.aload 0), .inl (.getfield 160), .inl (.aload 0), .inl (.getfield 160), .inl (.getfield 132), .inl (.iload 1), .inl (.iload 2), .inl (.invokestatic 109), .inl (.putfield 132), .inl (.iload 4), .inl .ireturn]
def pb_X5_watch : List Nat := [0, 1, 2, 5, 6, 7, 10, 11, 12, 13, 16, 19, 20, 23, 25, 26, 29, 30, 33, 36, 37, 38, 41, 44, 46]
def cd_X5_kin : List (Instr ⊕ Value) := [.inl (.aload 0), .inl (.iload 1), .inl (.iload 2), .inl (.invokevirtual 103), .inl (.ifCond .ne (.ofNat 7)), .inr (.int (-1)), .inl .ireturn, .inl (.aload 0), .inl (.getfield 160), .inl (.getfield 138), .inl (.iload 1), .inl .iaload, .inl (.iload 2), .inl (.invokestatic 108), .inl (.istore 4), .inl (.aload 0), .inl (.getfield 160), .inl (.iload 1), .inl (.iload 2), .inl (.iload 3), .inl (.invokevirtual 44), .inl (.iload 4), .inl .ireturn]
def pb_X5_kin : List Nat := [0, 1, 2, 3, 6, 9, 10, 11, 12, 15, 18, 19, 20, 21, 24, 26, 27, 30, 31, 32, 33, 36, 38]
def cd_X5_odd : List (Instr ⊕ Value) := [.inl (.aload 0), .inl (.getfield 160), .inl (.iload 1), .inl (.invokevirtual 35), .inl (.ifCond .eq (.ofNat 9)), .inl (.iload 2), .inr (.int 9), .inl (.invokestatic 107), .inl (.ifCond .ne (.ofNat 11)), .inr (.int (-1)), .inl .ireturn, .inl (.aload 0), .inl (.getfield 160), .inl (.getfield 134), .inl (.iload 1), .inl .iaload, .inr (.int 2), .inl (.if_icmp .ne (.ofNat 20)), .inr (.int (-2)), .inl .ireturn, .inl (.aload 0), .inl (.getfield 160), .inl (.getfield 135), .inl (.iload 1), .inl .iaload, .inl (.istore 3), .inl (.aload 0), .inl (.getfield 160), .inl (.getfield 135), .inl (.iload 1), .inl (.iload 2), .inl .iastore, .inl (.iload 3), .inl .ireturn]
def pb_X5_odd : List Nat := [0, 1, 4, 5, 8, 11, 12, 14, 17, 20, 21, 22, 23, 26, 29, 30, 31, 32, 35, 37, 38, 39, 42, 45, 46, 47, 48, 49, 52, 55, 56, 57, 58, 59]
def cd_X5_law : List (Instr ⊕ Value) := [.inl (.iload 1), .inl (.ifCond .ne (.ofNat 16)), .inl (.iload 2), .inr (.int 99), .inl (.invokestatic 107), .inl (.ifCond .eq (.ofNat 16)), .inl (.aload 0), .inl (.getfield 160), .inl (.getfield 129), .inl (.istore 3), .inl (.aload 0), .inl (.getfield 160), .inl (.iload 2), .inl (.putfield 129), .inl (.iload 3), .inl .ireturn, .inl (.iload 1), .inr (.int 1), .inl (.if_icmp .ne (.ofNat 33)), .inl (.iload 2), .inr (.int 9), .inl (.invokestatic 107), .inl (.ifCond .eq (.ofNat 33)), .inl (.aload 0), .inl (.getfield 160), .inl (.getfield 130), .inl (.istore 3), .inl (.aload 0), .inl (.getfield 160), .inl (.iload 2), .inl (.putfield 130), .inl (.iload 3), .inl .ireturn, .inr (.int (-1)), .inl .ireturn]
def pb_X5_law : List Nat := [0, 1, 4, 5, 7, 10, 13, 14, 17, 20, 21, 22, 25, 26, 29, 30, 31, 32, 33, 36, 37, 39, 42, 45, 46, 49, 52, 53, 54, 57, 58, 61, 62, 63, 64]
def cd_X5_goods : List (Instr ⊕ Value) := [.inl (.aload 0), .inl (.getfield 160), .inl (.iload 1), .inl (.invokevirtual 35), .inl (.ifCond .eq (.ofNat 9)), .inl (.iload 2), .inr (.int 99), .inl (.invokestatic 107), .inl (.ifCond .ne (.ofNat 11)), .inr (.int (-1)), .inl .ireturn, .inl (.aload 0), .inl (.getfield 160), .inl (.getfield 136), .inl (.iload 1), .inl .iaload, .inl (.istore 3), .inl (.aload 0), .inl (.getfield 160), .inl (.getfield 136), .inl (.iload 1), .inl (.iload 2), .inl .iastore, .inl (.iload 3), .inl .ireturn]
def pb_X5_goods : List Nat := [0, 1, 4, 5, 8, 11, 12, 14, 17, 20, 21, 22, 23, 26, 29, 30, 31, 32, 33, 36, 39, 40, 41, 42, 43]
def cd_X5_year : List (Instr ⊕ Value) := [.inl (.aload 0), .inl (.getfield 160), .inl (.iload 1), .inl (.invokevirtual 57), .inl (.ifCond .ne (.ofNat 7)), .inr (.int (-1)), .inl .ireturn, .inl (.aload 0), .inl (.getfield 160), .inl (.getfield 131), .inr (.int 99), .inl (.if_icmp .lt (.ofNat 14)), .inr (.int (-3)), .inl .ireturn, .inl (.aload 0), .inl (.getfield 160), .inl .dup, .inl (.getfield 131), .inr (.int 1), .inl .iadd, .inl (.putfield 131), .inl (.aload 0), .inl (.getfield 160), .inl (.iload 1), .inl (.invokevirtual 58), .inl .ireturn]
def pb_X5_year : List Nat := [0, 1, 4, 5, 8, 11, 12, 13, 14, 17, 20, 22, 25, 27, 28, 29, 32, 33, 36, 37, 38, 41, 42, 45, 46, 49]
def cd_X5_pays : List (Instr ⊕ Value) := [.inl (.aload 0), .inl (.getfield 160), .inl (.iload 1), .inl (.invokevirtual 35), .inl (.ifCond .eq (.ofNat 10)), .inl (.aload 0), .inl (.getfield 160), .inl (.iload 2), .inl (.invokevirtual 57), .inl (.ifCond .ne (.ofNat 12)), .inr (.int (-1)), .inl .ireturn, .inl (.aload 0), .inl (.getfield 161), .inl (.aload 0), .inl (.getfield 160), .inl (.invokevirtual 33), .inl (.aload 0), .inl (.iload 1), .inl (.iload 2), .inl (.invokevirtual 104), .inl .ireturn]
def pb_X5_pays : List Nat := [0, 1, 4, 5, 8, 11, 12, 15, 16, 19, 22, 23, 24, 25, 28, 29, 32, 35, 36, 37, 38, 41]
def cd_X5_harm : List (Instr ⊕ Value) := [.inl (.aload 0), .inl (.getfield 160), .inl (.invokevirtual 55), .inl .ireturn]
def pb_X5_harm : List Nat := [0, 1, 4, 7]
def cd_X5_calm : List (Instr ⊕ Value) := [.inl (.iload 1), .inl (.invokestatic 106), .inl (.ifCond .eq (.ofNat 7)), .inl (.iload 2), .inr (.int 1), .inl (.invokestatic 107), .inl (.ifCond .ne (.ofNat 9)), .inr (.long (-1)), .inl .lreturn, .inl (.aload 0), .inl (.getfield 160), .inl (.iload 1), .inl (.invokevirtual 38), .inl (.istore 3), .inl (.aload 0), .inl (.getfield 160), .inl (.iload 3), .inr (.int 0), .inl (.invokevirtual 56), .inl (.iload 3), .inl (.invokestatic 110), .inl (.iload 2), .inl (.invokestatic 111), .inl .lreturn]
def pb_X5_calm : List Nat := [0, 1, 4, 7, 8, 9, 12, 15, 18, 19, 20, 23, 24, 27, 28, 29, 32, 33, 34, 37, 38, 41, 42, 45]
def cd_X5_mean : List (Instr ⊕ Value) := [.inl (.aload 0), .inl (.getfield 160), .inl (.iload 1), .inl (.invokevirtual 35), .inl (.ifCond .eq (.ofNat 9)), .inl (.iload 2), .inr (.int 1), .inl (.invokestatic 107), .inl (.ifCond .ne (.ofNat 11)), .inr (.long (-1)), .inl .lreturn, .inl (.aload 0), .inl (.getfield 160), .inl (.getfield 137), .inl (.iload 1), .inl .iaload, .inl (.ifCond .ge (.ofNat 19)), .inr (.int 0), .inl (.goto (.ofNat 27)), .inl (.aload 0), .inl (.getfield 160), .inl (.aload 0), .inl (.getfield 160), .inl (.getfield 137), .inl (.iload 1), .inl .iaload, .inl (.invokevirtual 38), .inl (.istore 3), .inl (.aload 0), .inl (.getfield 161), .inl (.aload 0), .inl (.getfield 160), .inl (.invokevirtual 33), .inr (.long 0), .inl (.lstore 4), .inr (.int 0), .inl (.istore 6), .inl .nop, .inl (.iload 6), .inr (.int 256), .inl (.if_icmp .ge (.ofNat 71)), .inl (.iload 6), .inl (.iload 3), .inr (.int (-1)), .inl .ixor, .inl .iand, .inl (.ifCond .ne (.ofNat 53)), .inl (.aload 0), .inl (.getfield 160), .inl (.iload 3), .inl (.iload 6), .inl (.invokevirtual 56), .inl (.goto (.ofNat 54)), .inr (.long 0), .inl (.lstore 7), .inl (.lload 7), .inr (.long 0), .inl .lcmp, .inl (.ifCond .eq (.ofNat 69)), .inl (.lload 4), .inl (.lload 7), .inl (.aload 0), .inl (.iload 1), .inl (.iload 6), .inl (.invokevirtual 104), .inl .i2l, .inl .lmul, .inl .ladd, .inl (.lstore 4), .inl (.iinc 6 1), .inl (.goto (.ofNat 37)), .inl (.lload 4), .inl (.iload 3), .inl (.invokestatic 110), .inl (.iload 2), .inl (.invokestatic 111), .inl .lreturn]
def pb_X5_mean : List Nat := [0, 1, 4, 5, 8, 11, 12, 13, 16, 19, 22, 23, 24, 27, 30, 31, 32, 35, 36, 39, 40, 43, 44, 47, 50, 51, 52, 55, 56, 57, 60, 61, 64, 67, 68, 70, 71, 73, 73, 75, 78, 81, 83, 84, 85, 86, 87, 90, 91, 94, 95, 97, 100, 103, 104, 106, 108, 109, 110, 113, 115, 117, 118, 119, 121, 124, 125, 126, 127, 129, 132, 135, 137, 138, 141, 142, 145]
def cd_X5_best : List (Instr ⊕ Value) := [.inl (.iload 1), .inl (.ifCond .ne (.ofNat 4)), .inr (.int 0), .inl (.goto (.ofNat 7)), .inl (.iload 1), .inr (.int 10), .inl .isub, .inl (.istore 2), .inl (.iload 1), .inl (.ifCond .lt (.ofNat 17)), .inl (.iload 1), .inl (.ifCond .eq (.ofNat 19)), .inl (.aload 0), .inl (.getfield 160), .inl (.iload 2), .inl (.invokevirtual 35), .inl (.ifCond .ne (.ofNat 19)), .inr (.int (-1)), .inl .ireturn, .inl (.iload 1), .inl (.ifCond .eq (.ofNat 29)), .inl (.aload 0), .inl (.getfield 160), .inl (.getfield 137), .inl (.iload 2), .inl .iaload, .inl (.ifCond .ge (.ofNat 29)), .inr (.int (-4)), .inl .ireturn, .inl (.aload 0), .inl (.getfield 167), .inl (.aload 0), .inl (.getfield 160), .inl (.invokevirtual 5), .inl (.iload 1), .inl (.ifCond .ne (.ofNat 40)), .inl (.aload 0), .inl (.getfield 167), .inl (.getfield 33), .inl (.goto (.ofNat 45)), .inl (.aload 0), .inl (.getfield 167), .inl (.getfield 32), .inl (.iload 2), .inl .iaload, .inl .ireturn]
def pb_X5_best : List Nat := [0, 1, 4, 5, 8, 9, 11, 12, 13, 14, 17, 18, 21, 22, 25, 26, 29, 32, 33, 34, 35, 38, 39, 42, 45, 46, 47, 50, 52, 53, 54, 57, 58, 61, 64, 65, 68, 69, 72, 75, 78, 79, 82, 85, 86, 87]
def cd_X5_change : List (Instr ⊕ Value) := [.inl (.iload 1), .inr (.int 1), .inl (.invokestatic 107), .inl (.ifCond .ne (.ofNat 6)), .inr (.int (-1)), .inl .ireturn, .inl (.aload 0), .inl (.getfield 161), .inl (.aload 0), .inl (.getfield 160), .inl (.invokevirtual 33), .inl (.aload 0), .inl (.getfield 160), .inl (.invokevirtual 55), .inl (.istore 2), .inr (.int (-4)), .inl (.istore 3), .inr (.int 0), .inl (.istore 4), .inl .nop, .inl (.iload 4), .inl (.aload 0), .inl (.getfield 160), .inl (.getfield 128), .inl (.if_icmp .ge (.ofNat 55)), .inl (.iload 4), .inr (.int 1), .inl .iadd, .inl (.istore 5), .inl .nop, .inl (.iload 5), .inl (.aload 0), .inl (.getfield 160), .inl (.getfield 128), .inl (.if_icmp .ge (.ofNat 53)), .inl (.aload 0), .inl (.iload 4), .inl (.iload 5), .inl (.invokevirtual 105), .inl (.istore 6), .inl (.iload 6), .inl (.iload 2), .inl (.if_icmp .ge (.ofNat 51)), .inl (.iload 6), .inl (.istore 2), .inr (.int 10), .inl (.iload 4), .inl .imul, .inl (.iload 5), .inl .iadd, .inl (.istore 3), .inl (.iinc 5 1), .inl (.goto (.ofNat 29)), .inl (.iinc 4 1), .inl (.goto (.ofNat 19)), .inl (.iload 3), .inr (.int (-4)), .inl (.if_icmp .eq (.ofNat 60)), .inl (.iload 1), .inl (.ifCond .ne (.ofNat 62)), .inl (.iload 3), .inl (.goto (.ofNat 63)), .inl (.iload 2), .inl .ireturn]
def pb_X5_change : List Nat := [0, 1, 2, 5, 8, 9, 10, 11, 14, 15, 18, 21, 22, 25, 28, 29, 31, 32, 33, 35, 35, 37, 38, 41, 44, 47, 49, 50, 51, 53, 53, 55, 56, 59, 62, 65, 66, 68, 70, 73, 75, 77, 78, 81, 83, 84, 86, 88, 89, 91, 92, 93, 96, 99, 102, 105, 106, 108, 111, 112, 115, 116, 119, 120]
def cd_X5_takes : List (Instr ⊕ Value) := [.inl (.aload 0), .inl (.getfield 160), .inl (.iload 1), .inl (.invokevirtual 35), .inl (.ifCond .ne (.ofNat 7)), .inr (.int (-1)), .inl .ireturn, .inr (.int 10), .inl (.aload 0), .inl (.getfield 160), .inl (.getfield 129), .inl .imul, .inl (.istore 2), .inr (.int (-4)), .inl (.istore 3), .inr (.int 0), .inl (.istore 4), .inl .nop, .inl (.iload 4), .inr (.int 4), .inl (.if_icmp .ge (.ofNat 59)), .inl (.iload 4), .inl (.aload 0), .inl (.getfield 160), .inl (.getfield 137), .inl (.iload 1), .inl .iaload, .inl (.if_icmp .eq (.ofNat 57)), .inl (.aload 0), .inl (.getfield 160), .inl (.iload 1), .inl (.iload 4), .inl (.invokevirtual 45), .inl (.ifCond .ne (.ofNat 57)), .inl (.aload 0), .inl (.getfield 161), .inl (.aload 0), .inl (.getfield 160), .inl (.invokevirtual 33), .inl (.aload 0), .inl (.getfield 161), .inl (.iload 1), .inl (.iload 4), .inl (.invokevirtual 46), .inl .pop, .inl (.aload 0), .inl (.getfield 161), .inl (.iload 4), .inl (.invokevirtual 54), .inl (.istore 5), .inl (.iload 5), .inl (.iload 2), .inl (.if_icmp .ge (.ofNat 57)), .inl (.iload 5), .inl (.istore 2), .inl (.iload 4), .inl (.istore 3), .inl (.iinc 4 1), .inl (.goto (.ofNat 17)), .inl (.iload 3), .inl .ireturn]
def pb_X5_takes : List Nat := [0, 1, 4, 5, 8, 11, 12, 13, 15, 16, 19, 22, 23, 24, 26, 27, 28, 30, 30, 32, 33, 36, 38, 39, 42, 45, 46, 47, 50, 51, 54, 55, 57, 60, 63, 64, 67, 68, 71, 74, 75, 78, 79, 81, 84, 85, 86, 89, 91, 94, 96, 98, 99, 102, 104, 105, 107, 108, 111, 114, 115]
def cd_X5_weight : List (Instr ⊕ Value) := [.inl (.aload 0), .inl (.iload 1), .inl (.invokevirtual 102), .inl (.istore 2), .inl (.iload 2), .inl (.ifCond .eq (.ofNat 8)), .inl (.iload 2), .inl .ireturn, .inl (.aload 0), .inl (.getfield 160), .inl (.getfield 137), .inl (.iload 1), .inl .iaload, .inl (.istore 3), .inl (.aload 0), .inl (.getfield 161), .inl (.aload 0), .inl (.getfield 160), .inl (.invokevirtual 33), .inl (.aload 0), .inl (.getfield 161), .inl (.iload 1), .inl (.invokevirtual 47), .inr (.int 1000), .inl (.aload 0), .inl (.getfield 160), .inl (.iload 3), .inl (.invokevirtual 54), .inl .iadd, .inl (.aload 0), .inl (.getfield 161), .inl (.iload 3), .inl (.invokevirtual 54), .inl .isub, .inl .ireturn]
def pb_X5_weight : List Nat := [0, 1, 2, 5, 6, 7, 10, 11, 12, 13, 16, 19, 20, 21, 22, 23, 26, 27, 30, 33, 34, 37, 38, 41, 44, 45, 48, 49, 52, 53, 54, 57, 58, 61, 62]
def cd_X5_should : List (Instr ⊕ Value) := [.inl (.aload 0), .inl (.iload 1), .inl (.invokevirtual 102), .inl (.istore 2), .inl (.iload 2), .inl (.ifCond .eq (.ofNat 8)), .inl (.iload 2), .inl .ireturn, .inl (.aload 0), .inl (.getfield 160), .inl (.invokevirtual 55), .inl (.istore 3), .inl (.aload 0), .inl (.getfield 161), .inl (.aload 0), .inl (.getfield 160), .inl (.invokevirtual 33), .inl (.aload 0), .inl (.getfield 161), .inl .dup, .inl (.getfield 132), .inr (.int 1), .inl (.iload 1), .inl .ishl, .inl .ixor, .inl (.putfield 132), .inl (.aload 0), .inl (.getfield 161), .inl (.invokevirtual 55), .inl (.istore 4), .inl (.aload 0), .inl (.getfield 161), .inl (.iload 1), .inl (.invokevirtual 47), .inl (.aload 0), .inl (.getfield 161), .inl (.invokevirtual 55), .inl (.istore 5), .inl (.iload 3), .inl (.iload 4), .inl (.if_icmp .gt (.ofNat 46)), .inl (.iload 3), .inl (.iload 5), .inl (.if_icmp .gt (.ofNat 46)), .inr (.int 0), .inl .ireturn, .inl (.iload 4), .inl (.iload 5), .inl (.if_icmp .gt (.ofNat 51)), .inr (.int 1), .inl (.goto (.ofNat 52)), .inr (.int 2), .inl .ireturn]
def pb_X5_should : List Nat := [0, 1, 2, 5, 6, 7, 10, 11, 12, 13, 16, 19, 20, 21, 24, 25, 28, 31, 32, 35, 36, 39, 40, 41, 42, 43, 46, 47, 50, 53, 55, 56, 59, 60, 63, 64, 67, 70, 72, 73, 75, 78, 79, 81, 84, 85, 86, 88, 90, 93, 94, 97, 98]
def cd_X5_guard : List (Instr ⊕ Value) := [.inl (.iload 1), .inr (.int 1), .inl (.invokestatic 107), .inl (.ifCond .ne (.ofNat 6)), .inr (.int (-1)), .inl .ireturn, .inr (.int 0), .inl (.istore 2), .inr (.int 0), .inl (.istore 3), .inl .nop, .inl (.iload 3), .inl (.aload 0), .inl (.getfield 160), .inl (.getfield 128), .inl (.if_icmp .ge (.ofNat 35)), .inl (.iload 2), .inl (.iload 3), .inl (.aload 0), .inl (.getfield 160), .inl (.iload 3), .inl (.invokevirtual 53), .inr (.int 10), .inl (.aload 0), .inl (.getfield 160), .inl (.getfield 130), .inl .imul, .inl (.if_icmp .le (.ofNat 30)), .inr (.int 1), .inl (.goto (.ofNat 31)), .inr (.int 0), .inl (.invokestatic 109), .inl (.istore 2), .inl (.iinc 3 1), .inl (.goto (.ofNat 10)), .inl (.iload 1), .inl (.ifCond .ne (.ofNat 39)), .inl (.iload 2), .inl .ireturn, .inl (.aload 0), .inl (.getfield 161), .inl (.aload 0), .inl (.getfield 160), .inl (.invokevirtual 33), .inl (.aload 0), .inl (.getfield 161), .inl (.iload 2), .inl (.putfield 132), .inl (.aload 0), .inl (.getfield 161), .inl (.invokevirtual 55), .inl .ireturn]
def pb_X5_guard : List Nat := [0, 1, 2, 5, 8, 9, 10, 11, 12, 13, 14, 14, 15, 16, 19, 22, 25, 26, 27, 28, 31, 32, 35, 37, 38, 41, 44, 45, 48, 49, 52, 53, 56, 57, 60, 63, 64, 67, 68, 69, 70, 73, 74, 77, 80, 81, 84, 85, 88, 89, 92, 95]
def cd_X5_worth : List (Instr ⊕ Value) := [.inl (.aload 0), .inl (.iload 1), .inl (.invokevirtual 102), .inl (.istore 2), .inl (.iload 2), .inl (.ifCond .eq (.ofNat 8)), .inl (.iload 2), .inl .ireturn, .inl (.aload 0), .inl (.getfield 160), .inl (.iload 1), .inl (.invokevirtual 53), .inl (.istore 3), .inr (.int 9), .inl (.istore 4), .inl .nop, .inl (.iload 4), .inl (.ifCond .lt (.ofNat 27)), .inl (.iload 3), .inr (.int 10), .inl (.iload 4), .inl .imul, .inl (.if_icmp .le (.ofNat 25)), .inl (.iload 4), .inl .ireturn, .inl (.iinc 4 (-1)), .inl (.goto (.ofNat 15)), .inr (.int (-4)), .inl .ireturn]
def pb_X5_worth : List Nat := [0, 1, 2, 5, 6, 7, 10, 11, 12, 13, 16, 17, 20, 21, 23, 25, 25, 27, 30, 31, 33, 35, 36, 39, 41, 42, 45, 48, 50]
def cd_X5_see : List (Instr ⊕ Value) := [.inl (.aload 0), .inl (.getfield 160), .inl (.iload 1), .inl (.invokevirtual 35), .inl (.ifCond .eq (.ofNat 9)), .inl (.iload 2), .inr (.int 99), .inl (.invokestatic 107), .inl (.ifCond .ne (.ofNat 11)), .inr (.int (-1)), .inl .ireturn, .inl (.aload 0), .inl (.getfield 160), .inl (.getfield 133), .inr (.int 6), .inl (.if_icmp .lt (.ofNat 18)), .inr (.int (-3)), .inl .ireturn, .inl (.aload 0), .inl (.getfield 160), .inl (.getfield 140), .inl (.aload 0), .inl (.getfield 160), .inl (.getfield 133), .inl (.iload 1), .inl .iastore, .inl (.aload 0), .inl (.getfield 160), .inl (.getfield 141), .inl (.aload 0), .inl (.getfield 160), .inl (.getfield 133), .inl (.iload 2), .inl .iastore, .inl (.aload 0), .inl (.getfield 160), .inl .dup, .inl (.getfield 133), .inr (.int 1), .inl .iadd, .inl (.putfield 133), .inl (.aload 0), .inl (.getfield 160), .inl (.getfield 133), .inl .ireturn]
def pb_X5_see : List Nat := [0, 1, 4, 5, 8, 11, 12, 14, 17, 20, 21, 22, 23, 26, 29, 31, 34, 36, 37, 38, 41, 44, 45, 48, 51, 52, 53, 54, 57, 60, 61, 64, 67, 68, 69, 70, 73, 74, 77, 78, 79, 82, 83, 86, 89]
def cd_X5_forget : List (Instr ⊕ Value) := [.inl (.iload 1), .inl (.ifCond .lt (.ofNat 7)), .inl (.iload 1), .inl (.aload 0), .inl (.getfield 160), .inl (.getfield 133), .inl (.if_icmp .le (.ofNat 9)), .inr (.int (-1)), .inl .ireturn, .inl (.aload 0), .inl (.getfield 160), .inl (.getfield 133), .inl (.istore 2), .inl (.aload 0), .inl (.getfield 160), .inl (.iload 1), .inl (.putfield 133), .inl (.iload 2), .inl .ireturn]
def pb_X5_forget : List Nat := [0, 1, 4, 5, 6, 9, 12, 15, 16, 17, 18, 21, 24, 25, 26, 29, 30, 33, 34]
def cd_X5_fits : List (Instr ⊕ Value) := [.inl (.iload 1), .inr (.int 4), .inl (.invokestatic 107), .inl (.ifCond .ne (.ofNat 6)), .inr (.int (-1)), .inl .ireturn, .inl (.aload 0), .inl (.getfield 168), .inl (.aload 0), .inl (.getfield 160), .inl (.aload 0), .inl (.getfield 161), .inl (.invokevirtual 1), .inl (.iload 1), .inl (.ifCond .ne (.ofNat 19)), .inl (.aload 0), .inl (.getfield 168), .inl (.getfield 0), .inl .ireturn, .inl (.aload 0), .inl (.getfield 168), .inl (.getfield 0), .inl (.ifCond .ne (.ofNat 25)), .inr (.int (-4)), .inl .ireturn, .inl (.iload 1), .inl (.tableswitch (.ofNat 52) 1 3 #[.ofNat 27, .ofNat 31, .ofNat 35]), .inl (.aload 0), .inl (.getfield 168), .inl (.getfield 1), .inl .ireturn, .inl (.aload 0), .inl (.getfield 168), .inl (.getfield 2), .inl .ireturn, .inl (.aload 0), .inl (.getfield 160), .inl (.invokevirtual 36), .inl (.aload 0), .inl (.getfield 160), .inr (.int 2), .inl (.invokevirtual 37), .inr (.int (-1)), .inl .ixor, .inl .iand, .inl (.aload 0), .inl (.getfield 168), .inl (.getfield 3), .inr (.int (-1)), .inl .ixor, .inl .iand, .inl .ireturn, .inl (.aload 0), .inl (.getfield 168), .inl (.getfield 4), .inl .ireturn]
def pb_X5_fits : List Nat := [0, 1, 2, 5, 8, 9, 10, 11, 14, 15, 18, 19, 22, 25, 26, 29, 30, 33, 36, 37, 38, 41, 44, 47, 49, 50, 51, 76, 77, 80, 83, 84, 85, 88, 91, 92, 93, 96, 99, 100, 103, 104, 107, 108, 109, 110, 111, 114, 117, 118, 119, 120, 121, 122, 125, 128]
def cd_X5_drift : List (Instr ⊕ Value) := [.inl (.iload 2), .inr (.int 1), .inl (.if_icmp .lt (.ofNat 10)), .inl (.iload 2), .inr (.int 60), .inl (.if_icmp .gt (.ofNat 10)), .inl (.iload 3), .inr (.int 1), .inl (.invokestatic 107), .inl (.ifCond .ne (.ofNat 12)), .inr (.int (-1)), .inl .ireturn, .inl (.aload 0), .inl (.getfield 161), .inl (.aload 0), .inl (.getfield 160), .inl (.invokevirtual 33), .inl (.iload 1), .inl (.istore 4), .inr (.int 0), .inl (.istore 5), .inr (.int 0), .inl (.istore 6), .inl .nop, .inl (.iload 6), .inl (.iload 2), .inl (.if_icmp .ge (.ofNat 75)), .inr (.int 0), .inl (.istore 7), .inr (.int 0), .inl (.istore 8), .inl .nop, .inl (.iload 8), .inl (.aload 0), .inl (.getfield 160), .inl (.getfield 128), .inl (.if_icmp .ge (.ofNat 66)), .inl (.iload 4), .inr (.int 1103515245), .inl .imul, .inr (.int 12345), .inl .iadd, .inl (.istore 4), .inl (.iload 4), .inr (.int 16), .inl .iushr, .inr (.int 32767), .inl .iand, .inr (.int 10), .inl .irem, .inl (.istore 9), .inl (.iload 7), .inl (.iload 8), .inl (.iload 9), .inl (.aload 0), .inl (.getfield 160), .inl (.iload 8), .inl (.invokevirtual 50), .inl (.if_icmp .ge (.ofNat 61)), .inr (.int 1), .inl (.goto (.ofNat 62)), .inr (.int 0), .inl (.invokestatic 109), .inl (.istore 7), .inl (.iinc 8 1), .inl (.goto (.ofNat 31)), .inl (.iload 5), .inl (.aload 0), .inl (.getfield 161), .inl (.iload 7), .inl (.invokevirtual 58), .inl .iadd, .inl (.istore 5), .inl (.iinc 6 1), .inl (.goto (.ofNat 23)), .inl (.iload 3), .inl (.ifCond .ne (.ofNat 79)), .inl (.iload 5), .inl (.goto (.ofNat 85)), .inl (.aload 0), .inl (.getfield 161), .inl (.aload 0), .inl (.getfield 161), .inl (.invokevirtual 36), .inl (.invokevirtual 42), .inl .ireturn]
def pb_X5_drift : List Nat := [0, 1, 2, 5, 6, 8, 11, 12, 13, 16, 19, 20, 21, 22, 25, 26, 29, 32, 33, 35, 36, 38, 39, 41, 41, 43, 44, 47, 48, 50, 51, 53, 53, 55, 56, 59, 62, 65, 67, 69, 70, 73, 74, 76, 78, 80, 81, 84, 85, 87, 88, 90, 92, 94, 96, 97, 100, 102, 105, 108, 109, 112, 113, 116, 118, 121, 124, 126, 127, 130, 132, 135, 136, 138, 141, 144, 145, 148, 150, 153, 154, 157, 158, 161, 164, 167]
def cd_X5_keep : List (Instr ⊕ Value) := [.inl (.iload 1), .inr (.int 1), .inl (.invokestatic 107), .inl (.ifCond .ne (.ofNat 6)), .inr (.int (-1)), .inl .ireturn, .inl (.aload 0), .inl (.getfield 163), .inl (.iload 1), .inl .baload, .inl (.ifCond .eq (.ofNat 13)), .inr (.int 1), .inl (.goto (.ofNat 14)), .inr (.int 0), .inl (.istore 2), .inl (.aload 0), .inl (.getfield 162), .inl (.iload 1), .inl .aaload, .inl (.aload 0), .inl (.getfield 160), .inl (.invokevirtual 33), .inl (.aload 0), .inl (.getfield 163), .inl (.iload 1), .inr (.int 1), .inl .bastore, .inl (.iload 2), .inl .ireturn]
def pb_X5_keep : List Nat := [0, 1, 2, 5, 8, 9, 10, 11, 14, 15, 16, 19, 20, 23, 24, 25, 26, 29, 30, 31, 32, 35, 38, 39, 42, 43, 44, 45, 46]
def cd_X5_back : List (Instr ⊕ Value) := [.inl (.iload 1), .inr (.int 1), .inl (.invokestatic 107), .inl (.ifCond .ne (.ofNat 6)), .inr (.int (-1)), .inl .ireturn, .inl (.aload 0), .inl (.getfield 163), .inl (.iload 1), .inl .baload, .inl (.ifCond .ne (.ofNat 13)), .inr (.int (-2)), .inl .ireturn, .inl (.aload 0), .inl (.getfield 160), .inl (.aload 0), .inl (.getfield 162), .inl (.iload 1), .inl .aaload, .inl (.invokevirtual 33), .inl (.aload 0), .inl (.getfield 160), .inl (.getfield 131), .inl .ireturn]
def pb_X5_back : List Nat := [0, 1, 2, 5, 8, 9, 10, 11, 14, 15, 16, 19, 21, 22, 23, 26, 27, 30, 31, 32, 35, 36, 39, 42]
def cd_X5_sheet : List (Instr ⊕ Value) := [.inl (.iload 1), .inr (.int 3), .inl (.invokestatic 107), .inl (.ifCond .eq (.ofNat 11)), .inl (.iload 2), .inr (.int 2), .inl (.invokestatic 107), .inl (.ifCond .eq (.ofNat 11)), .inl (.iload 3), .inr (.int 40), .inl (.if_icmp .le (.ofNat 13)), .inr (.int (-1)), .inl .ireturn, .inl (.iload 3), .inl (.ifCond .ge (.ofNat 17)), .inr (.int (-14)), .inl .ireturn, .inl (.aload 0), .inl (.getfield 164), .inl (.iload 1), .inl .aaload, .inl (.iload 2), .inl (.iload 3), .inl (.invokevirtual 12), .inr (.int 1), .inl .ireturn]
def pb_X5_sheet : List Nat := [0, 1, 2, 5, 8, 9, 10, 13, 16, 17, 19, 22, 23, 24, 25, 28, 30, 31, 32, 35, 36, 37, 38, 39, 42, 43]
def cd_X5_lay : List (Instr ⊕ Value) := [.inl (.iload 1), .inr (.int 3), .inl (.invokestatic 107), .inl (.ifCond .ne (.ofNat 6)), .inr (.int (-1)), .inl .ireturn, .inl (.aload 0), .inl (.getfield 164), .inl (.iload 1), .inl .aaload, .inl (.astore 4), .inl (.aload 4), .inl (.aload 4), .inl (.getfield 64), .inl (.iload 2), .inl (.invokevirtual 14), .inl (.istore 5), .inl (.iload 5), .inl (.ifCond .eq (.ofNat 23)), .inr (.int (-10)), .inl (.iload 5), .inl .isub, .inl .ireturn, .inl (.aload 4), .inl (.iload 2), .inl (.iload 3), .inl (.invokevirtual 13), .inr (.int 1), .inl .ireturn]
def pb_X5_lay : List Nat := [0, 1, 2, 5, 8, 9, 10, 11, 14, 15, 16, 18, 20, 22, 25, 26, 29, 31, 33, 36, 38, 40, 41, 42, 44, 45, 46, 49, 50]
def cd_X5_read : List (Instr ⊕ Value) := [.inl (.iload 1), .inr (.int 3), .inl (.invokestatic 107), .inl (.ifCond .eq (.ofNat 12)), .inl (.iload 2), .inr (.int 2), .inl (.invokestatic 107), .inl (.ifCond .eq (.ofNat 12)), .inl (.iload 4), .inr (.int 20), .inl (.invokestatic 107), .inl (.ifCond .ne (.ofNat 14)), .inr (.int (-1)), .inl .ireturn, .inl (.aload 0), .inl (.getfield 161), .inl (.aload 0), .inl (.getfield 160), .inl (.invokevirtual 33), .inl (.aload 0), .inl (.getfield 164), .inl (.iload 1), .inl .aaload, .inl (.astore 5), .inr (.int 0), .inl (.istore 6), .inr (.int 0), .inl (.istore 7), .inr (.int 0), .inl (.istore 8), .inl .nop, .inl (.iload 8), .inl (.iload 4), .inl (.if_icmp .ge (.ofNat 84)), .inl (.iload 6), .inl (.ifCond .ne (.ofNat 84)), .inl (.iload 3), .inr (.int 2), .inl (.iload 8), .inl .imul, .inl .iadd, .inl (.istore 9), .inl (.aload 5), .inl (.iload 2), .inl (.iload 9), .inl (.invokevirtual 15), .inl (.istore 6), .inl (.iload 6), .inl (.ifCond .ne (.ofNat 82)), .inl (.aload 0), .inl (.getfield 161), .inl (.aload 5), .inl (.getfield 66), .inl (.iload 9), .inl .iaload, .inl (.aload 5), .inl (.getfield 66), .inl (.iload 9), .inr (.int 1), .inl .iadd, .inl .iaload, .inl (.invokevirtual 45), .inl (.ifCond .eq (.ofNat 67)), .inr (.int (-20)), .inl (.iload 8), .inl .isub, .inl .ireturn, .inl (.aload 0), .inl (.getfield 161), .inl (.aload 5), .inl (.getfield 66), .inl (.iload 9), .inl .iaload, .inl (.aload 5), .inl (.getfield 66), .inl (.iload 9), .inr (.int 1), .inl .iadd, .inl .iaload, .inl (.invokevirtual 46), .inl .pop, .inl (.iinc 7 1), .inl (.iinc 8 1), .inl (.goto (.ofNat 30)), .inl (.aload 0), .inl (.getfield 160), .inl (.aload 0), .inl (.getfield 161), .inl (.invokevirtual 33), .inl (.aload 0), .inl (.iload 6), .inl (.putfield 171), .inl (.iload 7), .inl .ireturn]
def pb_X5_read : List Nat := [0, 1, 2, 5, 8, 9, 10, 13, 16, 18, 20, 23, 26, 27, 28, 29, 32, 33, 36, 39, 40, 43, 44, 45, 47, 48, 50, 51, 53, 54, 56, 56, 58, 60, 63, 65, 68, 69, 70, 72, 73, 74, 76, 78, 79, 81, 84, 86, 88, 91, 92, 95, 97, 100, 102, 103, 105, 108, 110, 111, 112, 113, 116, 119, 121, 123, 124, 125, 126, 129, 131, 134, 136, 137, 139, 142, 144, 145, 146, 147, 150, 151, 154, 157, 160, 161, 164, 165, 168, 171, 172, 174, 177, 179]
def cd_X5_torn : List (Instr ⊕ Value) := [.inl (.aload 0), .inl (.getfield 171), .inl .ireturn]
def pb_X5_torn : List Nat := [0, 1, 4]
def cd_X5_count : List (Instr ⊕ Value) := [.inl (.iload 1), .inl (.tableswitch (.ofNat 54) 0 6 #[.ofNat 2, .ofNat 12, .ofNat 16, .ofNat 23, .ofNat 27, .ofNat 45, .ofNat 48]), .inl (.aload 0), .inl (.getfield 160), .inl (.getfield 128), .inl (.aload 0), .inl (.getfield 160), .inr (.int 3), .inl (.invokevirtual 37), .inl (.invokestatic 204), .inl .isub, .inl .ireturn, .inl (.aload 0), .inl (.getfield 160), .inl (.invokevirtual 40), .inl .ireturn, .inl (.aload 0), .inl (.getfield 160), .inl (.aload 0), .inl (.getfield 160), .inl (.invokevirtual 36), .inl (.invokevirtual 42), .inl .ireturn, .inl (.aload 0), .inl (.getfield 160), .inl (.getfield 133), .inl .ireturn, .inl (.aload 0), .inl (.getfield 163), .inr (.int 0), .inl .baload, .inl (.ifCond .eq (.ofNat 34)), .inr (.int 1), .inl (.goto (.ofNat 35)), .inr (.int 0), .inl (.aload 0), .inl (.getfield 163), .inr (.int 1), .inl .baload, .inl (.ifCond .eq (.ofNat 42)), .inr (.int 1), .inl (.goto (.ofNat 43)), .inr (.int 0), .inl .iadd, .inl .ireturn, .inl (.aload 0), .inl (.getfield 169), .inl .ireturn, .inl (.aload 0), .inl (.getfield 164), .inr (.int 0), .inl .aaload, .inl (.getfield 65), .inl .ireturn, .inr (.int (-1)), .inl .ireturn]
def pb_X5_count : List Nat := [0, 1, 44, 45, 48, 51, 52, 55, 56, 59, 62, 63, 64, 65, 68, 71, 72, 73, 76, 77, 80, 83, 86, 87, 88, 91, 94, 95, 96, 99, 100, 101, 104, 105, 108, 109, 110, 113, 114, 115, 118, 119, 122, 123, 124, 125, 126, 129, 130, 131, 134, 135, 136, 139, 140, 141]
def cd_X5_refusalInTen : List (Instr ⊕ Value) := [.inl (.aload 0), .inl (.getfield 160), .inl (.iload 1), .inl (.invokevirtual 35), .inl (.ifCond .ne (.ofNat 7)), .inr (.int (-1)), .inl .ireturn, .inl (.aload 0), .inl (.getfield 160), .inl (.getfield 137), .inl (.iload 1), .inl .iaload, .inl (.ifCond .ge (.ofNat 15)), .inr (.int (-2)), .inl (.goto (.ofNat 16)), .inr (.int 0), .inl .ireturn]
def pb_X5_refusalInTen : List Nat := [0, 1, 4, 5, 8, 11, 12, 13, 14, 17, 20, 21, 22, 25, 27, 30, 31]
def cd_X5_isPair : List (Instr ⊕ Value) := [.inl (.aload 0), .inl (.getfield 160), .inl (.iload 1), .inl (.invokevirtual 35), .inl (.ifCond .eq (.ofNat 15)), .inl (.aload 0), .inl (.getfield 160), .inl (.iload 2), .inl (.invokevirtual 35), .inl (.ifCond .eq (.ofNat 15)), .inl (.iload 1), .inl (.iload 2), .inl (.if_icmp .eq (.ofNat 15)), .inr (.int 1), .inl (.goto (.ofNat 16)), .inr (.int 0), .inl (.ret 0)]
def pb_X5_isPair : List Nat := [0, 1, 4, 5, 8, 11, 12, 15, 16, 19, 22, 23, 24, 27, 28, 31, 32]
def cd_X5_finesOnTrial : List (Instr ⊕ Value) := [.inl (.aload 0), .inl (.getfield 161), .inl (.aload 0), .inl (.getfield 160), .inl (.invokevirtual 34), .inl (.aload 0), .inl (.getfield 161), .inl (.iload 2), .inl (.invokevirtual 59), .inl .pop, .inl (.aload 0), .inl (.getfield 160), .inl (.getfield 136), .inl (.iload 1), .inl .iaload, .inl (.aload 0), .inl (.getfield 161), .inl (.getfield 136), .inl (.iload 1), .inl .iaload, .inl .isub, .inl .ireturn]
def pb_X5_finesOnTrial : List Nat := [0, 1, 4, 5, 8, 11, 12, 15, 16, 19, 20, 21, 24, 27, 28, 29, 30, 33, 36, 37, 38, 39]
def cd_X5_harmBySwap : List (Instr ⊕ Value) := [.inl (.aload 0), .inl (.getfield 161), .inl (.iload 1), .inl (.iload 2), .inl (.invokevirtual 48), .inl (.ifCond .ne (.ofNat 8)), .inr (.int 1000000), .inl .ireturn, .inl (.aload 0), .inl (.getfield 161), .inl (.iload 1), .inl (.iload 2), .inl (.invokevirtual 49), .inl (.aload 0), .inl (.getfield 161), .inl (.invokevirtual 55), .inl (.istore 3), .inl (.aload 0), .inl (.getfield 161), .inl (.iload 1), .inl (.iload 2), .inl (.invokevirtual 49), .inl (.iload 3), .inl .ireturn]
def pb_X5_harmBySwap : List Nat := [0, 1, 4, 5, 6, 9, 12, 15, 16, 17, 20, 21, 22, 25, 26, 29, 32, 33, 34, 37, 38, 39, 42, 43]
def cd_X5_isTen : List (Instr ⊕ Value) := [.inl (.iload 0), .inl (.ifCond .lt (.ofNat 7)), .inl (.iload 0), .inr (.int 4), .inl (.if_icmp .ge (.ofNat 7)), .inr (.int 1), .inl (.goto (.ofNat 8)), .inr (.int 0), .inl (.ret 0)]
def pb_X5_isTen : List Nat := [0, 1, 4, 5, 6, 9, 10, 13, 14]
def cd_X5_isWithin : List (Instr ⊕ Value) := [.inl (.iload 0), .inl (.ifCond .lt (.ofNat 7)), .inl (.iload 0), .inl (.iload 1), .inl (.if_icmp .gt (.ofNat 7)), .inr (.int 1), .inl (.goto (.ofNat 8)), .inr (.int 0), .inl (.ret 0)]
def pb_X5_isWithin : List Nat := [0, 1, 4, 5, 6, 9, 10, 13, 14]
def cd_X5_bitOf : List (Instr ⊕ Value) := [.inl (.iload 0), .inl (.iload 1), .inl .ishr, .inr (.int 1), .inl .iand, .inl .ireturn]
def pb_X5_bitOf : List Nat := [0, 1, 2, 3, 4, 5]
def cd_X5_withBit : List (Instr ⊕ Value) := [.inl (.iload 2), .inl (.ifCond .eq (.ofNat 8)), .inl (.iload 0), .inr (.int 1), .inl (.iload 1), .inl .ishl, .inl .ior, .inl (.goto (.ofNat 15)), .inl (.iload 0), .inr (.int 1), .inl (.iload 1), .inl .ishl, .inr (.int (-1)), .inl .ixor, .inl .iand, .inl .ireturn]
def pb_X5_withBit : List Nat := [0, 1, 4, 5, 6, 7, 8, 9, 12, 13, 14, 15, 16, 17, 18, 19]
def cd_X5_tenthsOf : List (Instr ⊕ Value) := [.inr (.long 1), .inl (.lstore 1), .inl (.iload 0), .inl (.invokestatic 204), .inl (.istore 3), .inl .nop, .inl (.iload 3), .inl (.ifCond .le (.ofNat 14)), .inl (.lload 1), .inr (.long 10), .inl .lmul, .inl (.lstore 1), .inl (.iinc 3 (-1)), .inl (.goto (.ofNat 5)), .inl (.lload 1), .inl .lreturn]
def pb_X5_tenthsOf : List Nat := [0, 1, 2, 3, 6, 7, 7, 8, 11, 12, 15, 16, 17, 20, 23, 24]
def cd_X5_inLowestTerms : List (Instr ⊕ Value) := [.inl (.lload 0), .inl (.lload 2), .inl (.invokestatic 112), .inl (.lstore 5), .inl (.lload 5), .inr (.long 0), .inl .lcmp, .inl (.ifCond .gt (.ofNat 10)), .inr (.long (-1)), .inl .lreturn, .inl (.iload 4), .inl (.ifCond .ne (.ofNat 16)), .inl (.lload 0), .inl (.lload 5), .inl .ldiv, .inl (.goto (.ofNat 19)), .inl (.lload 2), .inl (.lload 5), .inl .ldiv, .inl .lreturn]
def pb_X5_inLowestTerms : List Nat := [0, 1, 2, 5, 7, 9, 10, 11, 14, 17, 18, 20, 23, 24, 26, 27, 30, 31, 33, 34]
def cd_X5_greatestCommon : List (Instr ⊕ Value) := [.inl (.lload 0), .inl (.lstore 4), .inl (.lload 2), .inl (.lstore 6), .inr (.int 0), .inl (.istore 8), .inl .nop, .inl (.iload 8), .inr (.int 200), .inl (.if_icmp .ge (.ofNat 24)), .inl (.lload 6), .inr (.long 0), .inl .lcmp, .inl (.ifCond .eq (.ofNat 24)), .inl (.lload 4), .inl (.lload 6), .inl .lrem, .inl (.lstore 9), .inl (.lload 6), .inl (.lstore 4), .inl (.lload 9), .inl (.lstore 6), .inl (.iinc 8 1), .inl (.goto (.ofNat 6)), .inl (.lload 4), .inl .lreturn]
def pb_X5_greatestCommon : List Nat := [0, 1, 3, 4, 6, 7, 9, 9, 11, 14, 17, 19, 20, 21, 24, 26, 28, 29, 31, 33, 35, 37, 39, 42, 45, 47]
def cd_X6_init : List (Instr ⊕ Value) := [.inl (.aload 0), .inl .monitorexit, .inl (.aload 0), .inr (.int 171), .inl (.newarray .int), .inl (.putstatic 192), .inl (.aload 0), .inr (.int 57), .inl (.newarray .int), .inl (.putstatic 193), .inl (.aload 0), .inr (.int 2), .inl (.newarray .boolean), .inl (.putstatic 194), .inl (.aload 0), .inr (.int 4), .inl (.newarray .int), .inl (.putstatic 196), .inl (.aload 0), .inr (.int 57), .inl (.newarray .int), .inl (.putstatic 197), .inl (.aload 0), .inr (.int 4), .inl (.newarray .int), .inl (.putstatic 199), .inl (.aload 0), .inr (.int 160), .inl (.newarray .int), .inl (.putstatic 203), .inl (.aload 0), .inr (.int 8), .inl (.newarray .int), .inl (.putstatic 211), .inl (.aload 0), .inr (.int 8), .inl (.newarray .int), .inl (.putstatic 212), .inl (.aload 0), .inr (.int 4), .inl (.newarray .int), .inl (.putstatic 213), .inl (.aload 0), .inr (.int 4), .inl (.newarray .int), .inl (.putstatic 214), .inl (.aload 0), .inr (.int 160), .inl (.newarray .int), .inl (.putstatic 215), .inl (.aload 0), .inr (.int 57), .inl (.newarray .int), .inl (.putstatic 217), .inr (.int 0), .inl (.istore 1), .inl .nop, .inl (.iload 1), .inr (.int 4), .inl (.if_icmp .ge (.ofNat 67)), .inl (.aload 0), .inl (.getfield 213), .inl (.iload 1), .inr (.int (-4)), .inl .iastore, .inl (.iinc 1 1), .inl (.goto (.ofNat 56)), .inl (.aload 0), .inl (.invokevirtual 116), .inl (.aload 0), .inl (.invokevirtual 117), .inl .return_]
def pb_X6_init : List Nat := [0, 1, 4, 5, 8, 10, 13, 14, 16, 18, 21, 22, 23, 25, 28, 29, 30, 32, 35, 36, 38, 40, 43, 44, 45, 47, 50, 51, 54, 56, 59, 60, 62, 64, 67, 68, 70, 72, 75, 76, 77, 79, 82, 83, 84, 86, 89, 90, 93, 95, 98, 99, 101, 103, 106, 107, 108, 108, 109, 110, 113, 114, 117, 118, 120, 121, 124, 127, 128, 131, 132, 135]
def cd_X6_in : List (Instr ⊕ Value) := [.inl (.lload 0), .inl (.lload 2), .inl .lcmp, .inl (.ifCond .lt (.ofNat 10)), .inl (.lload 0), .inl (.lload 4), .inl .lcmp, .inl (.ifCond .gt (.ofNat 10)), .inr (.int 1), .inl (.goto (.ofNat 11)), .inr (.int 0), .inl (.ret 0)]
def pb_X6_in : List Nat := [0, 1, 2, 3, 6, 7, 9, 10, 13, 14, 17, 18]
def cd_X6_flag : List (Instr ⊕ Value) := [.inl (.iload 0), .inl (.ifCond .eq (.ofNat 4)), .inr (.int 1), .inl (.goto (.ofNat 5)), .inr (.int 0), .inl .ireturn]
def pb_X6_flag : List Nat := [0, 1, 4, 5, 8, 9]
def cd_X6_firstDraft : List (Instr ⊕ Value) := [.inr (.int 0), .inl (.istore 1), .inl .nop, .inl (.iload 1), .inr (.int 57), .inl (.if_icmp .ge (.ofNat 13)), .inl (.aload 0), .inl (.getfield 197), .inl (.iload 1), .inr (.int 0), .inl .iastore, .inl (.iinc 1 1), .inl (.goto (.ofNat 2)), .inr (.int 0), .inl (.istore 1), .inl .nop, .inl (.iload 1), .inr (.int 8), .inl (.if_icmp .ge (.ofNat 30)), .inl (.aload 0), .inl (.getfield 197), .inr (.int 5), .inl (.iload 1), .inl .imul, .inr (.int 3), .inl .iadd, .inr (.int (-4)), .inl .iastore, .inl (.iinc 1 1), .inl (.goto (.ofNat 15)), .inl (.aload 0), .inl (.getfield 197), .inr (.int 41), .inr (.int 12), .inl .iastore, .inl (.aload 0), .inl (.getfield 197), .inr (.int 42), .inr (.int 2), .inl .iastore, .inl (.aload 0), .inr (.int 0), .inl (.putfield 198), .inr (.int 0), .inl (.istore 1), .inl .nop, .inl (.iload 1), .inr (.int 4), .inl (.if_icmp .ge (.ofNat 56)), .inl (.aload 0), .inl (.getfield 199), .inl (.iload 1), .inr (.int 3), .inl .iastore, .inl (.iinc 1 1), .inl (.goto (.ofNat 45)), .inl (.aload 0), .inr (.int 0), .inl (.putfield 200), .inl (.aload 0), .inr (.int 0), .inl (.putfield 201), .inl (.aload 0), .inr (.int (-4)), .inl (.putfield 202), .inl .return_]
def pb_X6_firstDraft : List Nat := [0, 1, 2, 2, 3, 5, 8, 9, 12, 13, 14, 15, 18, 21, 22, 23, 23, 24, 26, 29, 30, 33, 34, 35, 36, 37, 38, 40, 41, 44, 47, 48, 51, 53, 55, 56, 57, 60, 62, 63, 64, 65, 66, 69, 70, 71, 71, 72, 73, 76, 77, 80, 81, 82, 83, 86, 89, 90, 91, 94, 95, 96, 99, 100, 102, 105]
def cd_X6_keepDraft : List (Instr ⊕ Value) := [.inr (.int 0), .inl (.istore 1), .inl .nop, .inl (.iload 1), .inr (.int 57), .inl (.if_icmp .ge (.ofNat 16)), .inl (.aload 0), .inl (.getfield 192), .inl (.iload 1), .inl (.aload 0), .inl (.getfield 197), .inl (.iload 1), .inl .iaload, .inl .iastore, .inl (.iinc 1 1), .inl (.goto (.ofNat 2)), .inl (.aload 0), .inl (.aload 0), .inl (.getfield 198), .inl (.putfield 195), .inr (.int 0), .inl (.istore 1), .inl .nop, .inl (.iload 1), .inr (.int 4), .inl (.if_icmp .ge (.ofNat 36)), .inl (.aload 0), .inl (.getfield 196), .inl (.iload 1), .inl (.aload 0), .inl (.getfield 199), .inl (.iload 1), .inl .iaload, .inl .iastore, .inl (.iinc 1 1), .inl (.goto (.ofNat 22)), .inl (.aload 0), .inl (.getfield 194), .inr (.int 0), .inr (.int 0), .inl .bastore, .inl (.aload 0), .inl (.getfield 194), .inr (.int 1), .inr (.int 0), .inl .bastore, .inl .return_]
def pb_X6_keepDraft : List Nat := [0, 1, 2, 2, 3, 5, 8, 9, 12, 13, 14, 17, 18, 19, 20, 23, 26, 27, 28, 31, 34, 35, 36, 36, 37, 38, 41, 42, 45, 46, 47, 50, 51, 52, 53, 56, 59, 60, 63, 64, 65, 66, 67, 70, 71, 72, 73]
def cd_X6_feed : List (Instr ⊕ Value) := [.inl (.iload 1), .inl .i2l, .inr (.long 0), .inr (.long 127), .inl (.invokestatic 114), .inl (.ifCond .ne (.ofNat 8)), .inr (.int (-1)), .inl .ireturn, .inl (.aload 0), .inl (.getfield 204), .inr (.int 160), .inl (.if_icmp .ne (.ofNat 14)), .inr (.int (-3)), .inl .ireturn, .inl (.aload 0), .inl (.getfield 203), .inl (.aload 0), .inl (.getfield 204), .inl (.iload 1), .inl .iastore, .inl (.aload 0), .inl .dup, .inl (.getfield 204), .inr (.int 1), .inl .iadd, .inl (.putfield 204), .inl (.aload 0), .inl (.getfield 204), .inl .ireturn]
def pb_X6_feed : List Nat := [0, 1, 2, 3, 6, 9, 12, 13, 14, 15, 18, 21, 24, 26, 27, 28, 31, 32, 35, 36, 37, 38, 39, 42, 43, 44, 47, 48, 51]
def cd_X6_end : List (Instr ⊕ Value) := [.inl (.iload 1), .inl .i2l, .inr (.long 0), .inl (.aload 0), .inl (.getfield 204), .inl .i2l, .inl (.invokestatic 114), .inl (.ifCond .ne (.ofNat 10)), .inr (.int (-1)), .inl .ireturn, .inl (.aload 0), .inl (.getfield 204), .inl (.istore 2), .inl (.aload 0), .inl (.iload 1), .inl (.putfield 204), .inl (.iload 2), .inl .ireturn]
def pb_X6_end : List Nat := [0, 1, 2, 3, 4, 7, 8, 11, 14, 15, 16, 17, 20, 21, 22, 23, 26, 27]
def cd_X6_needs : List (Instr ⊕ Value) := [.inl (.iload 1), .inl (.ifCond .ne (.ofNat 12)), .inl (.aload 0), .inl (.getfield 209), .inl (.ifCond .ne (.ofNat 12)), .inl (.aload 0), .inl (.iload 2), .inl (.putfield 209), .inl (.aload 0), .inl (.aload 0), .inl (.getfield 206), .inl (.putfield 210), .inl .return_]
def pb_X6_needs : List Nat := [0, 1, 4, 5, 8, 11, 12, 13, 16, 17, 18, 21, 24]
def cd_X6_byteAt : List (Instr ⊕ Value) := [.inl (.iload 1), .inl (.aload 0), .inl (.getfield 204), .inl (.if_icmp .ge (.ofNat 9)), .inl (.aload 0), .inl (.getfield 203), .inl (.iload 1), .inl .iaload, .inl (.goto (.ofNat 10)), .inr (.int (-1)), .inl .ireturn]
def pb_X6_byteAt : List Nat := [0, 1, 2, 5, 8, 9, 12, 13, 14, 17, 18]
def cd_X6_is : List (Instr ⊕ Value) := [.inl (.aload 0), .inl (.getfield 205), .inl (.aload 0), .inl (.getfield 206), .inl .isub, .inl (.iload 1), .inl (.if_icmp .ne (.ofNat 41)), .inl (.aload 0), .inl (.aload 0), .inl (.getfield 206), .inl (.invokevirtual 121), .inl (.iload 2), .inl (.if_icmp .ne (.ofNat 41)), .inl (.aload 0), .inl (.aload 0), .inl (.getfield 206), .inr (.int 1), .inl .iadd, .inl (.invokevirtual 121), .inl (.iload 3), .inl (.if_icmp .ne (.ofNat 41)), .inl (.aload 0), .inl (.aload 0), .inl (.getfield 206), .inr (.int 2), .inl .iadd, .inl (.invokevirtual 121), .inl (.iload 4), .inl (.if_icmp .ne (.ofNat 41)), .inl (.iload 5), .inl (.ifCond .eq (.ofNat 39)), .inl (.aload 0), .inl (.aload 0), .inl (.getfield 206), .inr (.int 3), .inl .iadd, .inl (.invokevirtual 121), .inl (.iload 5), .inl (.if_icmp .ne (.ofNat 41)), .inr (.int 1), .inl (.goto (.ofNat 42)), .inr (.int 0), .inl (.ret 0)]
def pb_X6_is : List Nat := [0, 1, 4, 5, 8, 9, 10, 13, 14, 15, 18, 21, 22, 25, 26, 27, 30, 31, 32, 35, 36, 39, 40, 41, 44, 45, 46, 49, 51, 54, 56, 59, 60, 61, 64, 65, 66, 69, 71, 74, 75, 78, 79]
def cd_X6_ends : List (Instr ⊕ Value) := [.inl (.aload 0), .inl (.aload 0), .inl (.getfield 206), .inr (.int 4), .inl .iadd, .inl (.invokevirtual 121), .inl (.iload 1), .inl (.if_icmp .ne (.ofNat 30)), .inl (.iload 2), .inl (.ifCond .eq (.ofNat 18)), .inl (.aload 0), .inl (.aload 0), .inl (.getfield 206), .inr (.int 5), .inl .iadd, .inl (.invokevirtual 121), .inl (.iload 2), .inl (.if_icmp .ne (.ofNat 30)), .inl (.iload 3), .inl (.ifCond .eq (.ofNat 28)), .inl (.aload 0), .inl (.aload 0), .inl (.getfield 206), .inr (.int 6), .inl .iadd, .inl (.invokevirtual 121), .inl (.iload 3), .inl (.if_icmp .ne (.ofNat 30)), .inr (.int 1), .inl (.goto (.ofNat 31)), .inr (.int 0), .inl (.ret 0)]
def pb_X6_ends : List Nat := [0, 1, 2, 5, 6, 7, 10, 11, 14, 15, 18, 19, 20, 23, 24, 25, 28, 29, 32, 33, 36, 37, 38, 41, 43, 44, 47, 48, 51, 52, 55, 56]
def cd_X6_lineNow : List (Instr ⊕ Value) := [.inl (.aload 0), .inr (.int 4), .inr (.int 99), .inr (.int 97), .inr (.int 108), .inr (.int 109), .inl (.invokevirtual 122), .inl (.ifCond .eq (.ofNat 10)), .inr (.int 0), .inl .ireturn, .inl (.aload 0), .inr (.int 7), .inr (.int 113), .inr (.int 117), .inr (.int 97), .inr (.int 114), .inl (.invokevirtual 122), .inl (.ifCond .eq (.ofNat 26)), .inl (.aload 0), .inr (.int 114), .inr (.int 101), .inr (.int 108), .inl (.invokevirtual 123), .inl (.ifCond .eq (.ofNat 26)), .inr (.int 1), .inl .ireturn, .inl (.aload 0), .inr (.int 5), .inr (.int 115), .inr (.int 97), .inr (.int 105), .inr (.int 110), .inl (.invokevirtual 122), .inl (.ifCond .eq (.ofNat 42)), .inl (.aload 0), .inr (.int 116), .inr (.int 0), .inr (.int 0), .inl (.invokevirtual 123), .inl (.ifCond .eq (.ofNat 42)), .inr (.int 2), .inl .ireturn, .inl (.aload 0), .inr (.int 6), .inr (.int 119), .inr (.int 97), .inr (.int 110), .inr (.int 100), .inl (.invokevirtual 122), .inl (.ifCond .eq (.ofNat 58)), .inl (.aload 0), .inr (.int 101), .inr (.int 114), .inr (.int 0), .inl (.invokevirtual 123), .inl (.ifCond .eq (.ofNat 58)), .inr (.int 3), .inl .ireturn, .inl (.aload 0), .inr (.int 4), .inr (.int 102), .inr (.int 105), .inr (.int 110), .inr (.int 101), .inl (.invokevirtual 122), .inl (.ifCond .eq (.ofNat 68)), .inr (.int 4), .inl .ireturn, .inl (.aload 0), .inr (.int 5), .inr (.int 119), .inr (.int 97), .inr (.int 116), .inr (.int 99), .inl (.invokevirtual 122), .inl (.ifCond .eq (.ofNat 84)), .inl (.aload 0), .inr (.int 104), .inr (.int 0), .inr (.int 0), .inl (.invokevirtual 123), .inl (.ifCond .eq (.ofNat 84)), .inr (.int 5), .inl .ireturn, .inl (.aload 0), .inr (.int 4), .inr (.int 109), .inr (.int 111), .inr (.int 115), .inr (.int 116), .inl (.invokevirtual 122), .inl (.ifCond .eq (.ofNat 94)), .inr (.int 6), .inl (.goto (.ofNat 105)), .inl (.aload 0), .inr (.int 3), .inr (.int 107), .inr (.int 105), .inr (.int 110), .inr (.int 0), .inl (.invokevirtual 122), .inl (.ifCond .eq (.ofNat 104)), .inr (.int 7), .inl (.goto (.ofNat 105)), .inr (.int (-4)), .inl .ireturn]
def pb_X6_lineNow : List Nat := [0, 1, 2, 4, 6, 8, 10, 13, 16, 17, 18, 19, 21, 23, 25, 27, 29, 32, 35, 36, 38, 40, 42, 45, 48, 49, 50, 51, 52, 54, 56, 58, 60, 63, 66, 67, 69, 70, 71, 74, 77, 78, 79, 80, 82, 84, 86, 88, 90, 93, 96, 97, 99, 101, 102, 105, 108, 109, 110, 111, 112, 114, 116, 118, 120, 123, 126, 127, 128, 129, 130, 132, 134, 136, 138, 141, 144, 145, 147, 148, 149, 152, 155, 156, 157, 158, 159, 161, 163, 165, 167, 170, 173, 175, 178, 179, 180, 182, 184, 186, 187, 190, 193, 195, 198, 200]
def cd_X6_next : List (Instr ⊕ Value) := [.inl (.aload 0), .inl (.getfield 209), .inl (.ifCond .le (.ofNat 4)), .inl .return_, .inl .nop, .inl (.aload 0), .inl (.aload 0), .inl (.getfield 205), .inl (.invokevirtual 121), .inr (.int 32), .inl (.if_icmp .ne (.ofNat 18)), .inl (.aload 0), .inl .dup, .inl (.getfield 205), .inr (.int 1), .inl .iadd, .inl (.putfield 205), .inl (.goto (.ofNat 4)), .inl (.aload 0), .inl (.aload 0), .inl (.getfield 205), .inl (.putfield 206), .inl (.aload 0), .inl (.aload 0), .inl (.getfield 205), .inl (.invokevirtual 121), .inl (.istore 1), .inl (.iload 1), .inl (.ifCond .ge (.ofNat 33)), .inl (.aload 0), .inr (.int 0), .inl (.putfield 207), .inl (.goto (.ofNat 143)), .inl (.iload 1), .inl .i2l, .inr (.long 97), .inr (.long 122), .inl (.invokestatic 114), .inl (.ifCond .eq (.ofNat 59)), .inl (.aload 0), .inr (.int 1), .inl (.putfield 207), .inl .nop, .inl (.aload 0), .inl (.aload 0), .inl (.getfield 205), .inl (.invokevirtual 121), .inl .i2l, .inr (.long 97), .inr (.long 122), .inl (.invokestatic 114), .inl (.ifCond .eq (.ofNat 143)), .inl (.aload 0), .inl .dup, .inl (.getfield 205), .inr (.int 1), .inl .iadd, .inl (.putfield 205), .inl (.goto (.ofNat 42)), .inl (.iload 1), .inl .i2l, .inr (.long 48), .inr (.long 57), .inl (.invokestatic 114), .inl (.ifCond .eq (.ofNat 125)), .inl (.aload 0), .inr (.int 2), .inl (.putfield 207), .inl (.aload 0), .inr (.int 0), .inl (.putfield 208), .inl .nop, .inl (.aload 0), .inl (.aload 0), .inl (.getfield 205), .inl (.invokevirtual 121), .inl .i2l, .inr (.long 48), .inr (.long 57), .inl (.invokestatic 114), .inl (.ifCond .eq (.ofNat 111)), .inl (.aload 0), .inl (.aload 0), .inl (.getfield 205), .inl (.aload 0), .inl (.getfield 206), .inl .isub, .inr (.int 2), .inl (.if_icmp .ge (.ofNat 101)), .inr (.int 10), .inl (.aload 0), .inl (.getfield 208), .inl .imul, .inl (.aload 0), .inl (.aload 0), .inl (.getfield 205), .inl (.invokevirtual 121), .inl .iadd, .inr (.int 48), .inl .isub, .inl (.goto (.ofNat 103)), .inl (.aload 0), .inl (.getfield 208), .inl (.putfield 208), .inl (.aload 0), .inl .dup, .inl (.getfield 205), .inr (.int 1), .inl .iadd, .inl (.putfield 205), .inl (.goto (.ofNat 71)), .inl (.aload 0), .inl (.aload 0), .inl (.getfield 205), .inl (.aload 0), .inl (.getfield 206), .inl .isub, .inr (.int 2), .inl (.if_icmp .gt (.ofNat 121)), .inr (.int 1), .inl (.goto (.ofNat 122)), .inr (.int 0), .inr (.int 1), .inl (.invokevirtual 120), .inl (.goto (.ofNat 143)), .inl (.aload 0), .inr (.int 3), .inl (.putfield 207), .inl (.aload 0), .inl (.iload 1), .inr (.int 59), .inl (.if_icmp .ne (.ofNat 134)), .inr (.int 1), .inl (.goto (.ofNat 135)), .inr (.int 0), .inr (.int 1), .inl (.invokevirtual 120), .inl (.aload 0), .inl .dup, .inl (.getfield 205), .inr (.int 1), .inl .iadd, .inl (.putfield 205), .inl .return_]
def pb_X6_next : List Nat := [0, 1, 4, 7, 8, 8, 9, 10, 13, 16, 18, 21, 22, 23, 26, 27, 28, 31, 34, 35, 36, 39, 42, 43, 44, 47, 50, 51, 52, 55, 56, 57, 60, 63, 64, 65, 68, 71, 74, 77, 78, 79, 82, 82, 83, 84, 87, 90, 91, 94, 97, 100, 103, 104, 105, 108, 109, 110, 113, 116, 117, 118, 121, 124, 127, 130, 131, 132, 135, 136, 137, 140, 140, 141, 142, 145, 148, 149, 152, 155, 158, 161, 162, 163, 166, 167, 170, 171, 172, 175, 177, 178, 181, 182, 183, 184, 187, 190, 191, 193, 194, 197, 198, 201, 204, 205, 206, 209, 210, 211, 214, 217, 218, 219, 222, 223, 226, 227, 228, 231, 232, 235, 236, 237, 240, 243, 244, 245, 248, 249, 250, 252, 255, 256, 259, 260, 261, 264, 265, 266, 269, 270, 271, 274]
def cd_X6_looked : List (Instr ⊕ Value) := [.inl (.aload 0), .inl (.getfield 209), .inl (.ifCond .ne (.ofNat 13)), .inl (.aload 0), .inl (.aload 0), .inl (.getfield 207), .inr (.int 2), .inl (.if_icmp .ne (.ofNat 10)), .inr (.int 1), .inl (.goto (.ofNat 11)), .inr (.int 0), .inr (.int 2), .inl (.invokevirtual 120), .inl (.aload 0), .inl (.getfield 209), .inl (.ifCond .ne (.ofNat 27)), .inl (.aload 0), .inl (.aload 0), .inl (.getfield 208), .inl .i2l, .inl (.iload 1), .inl .i2l, .inl (.iload 2), .inl .i2l, .inl (.invokestatic 114), .inr (.int 3), .inl (.invokevirtual 120), .inl (.aload 0), .inl (.getfield 209), .inl (.ifCond .ne (.ofNat 33)), .inl (.aload 0), .inl (.getfield 208), .inl (.goto (.ofNat 34)), .inr (.int 0), .inl .ireturn]
def pb_X6_looked : List Nat := [0, 1, 4, 7, 8, 9, 12, 13, 16, 17, 20, 21, 22, 25, 26, 29, 32, 33, 34, 37, 38, 39, 40, 41, 42, 45, 46, 49, 50, 53, 56, 57, 60, 63, 64]
def cd_X6_readNumber : List (Instr ⊕ Value) := [.inl (.aload 0), .inl (.iload 1), .inl (.iload 2), .inl (.invokevirtual 126), .inl (.istore 3), .inl (.aload 0), .inl (.invokevirtual 125), .inl (.iload 3), .inl .ireturn]
def pb_X6_readNumber : List Nat := [0, 1, 2, 3, 6, 7, 8, 11, 12]
def cd_X6_readMan : List (Instr ⊕ Value) := [.inr (.int 5), .inl (.aload 0), .inl (.getfield 198), .inl .imul, .inl (.istore 2), .inl (.aload 0), .inl (.getfield 197), .inl (.iload 2), .inr (.int 0), .inl .iadd, .inl (.iload 1), .inl .iastore, .inl (.aload 0), .inl (.getfield 197), .inl (.iload 2), .inr (.int 1), .inl .iadd, .inl (.iload 1), .inr (.int 2), .inl (.if_icmp .ne (.ofNat 22)), .inr (.int 0), .inl (.goto (.ofNat 26)), .inl (.aload 0), .inr (.int 0), .inr (.int 9), .inl (.invokevirtual 127), .inl .iastore, .inl (.aload 0), .inl (.getfield 197), .inl (.iload 2), .inr (.int 2), .inl .iadd, .inl (.aload 0), .inr (.int 0), .inr (.int 99), .inl (.invokevirtual 127), .inl .iastore, .inl (.aload 0), .inl (.getfield 197), .inl (.iload 2), .inr (.int 3), .inl .iadd, .inl (.iload 1), .inr (.int 3), .inl (.if_icmp .ne (.ofNat 47)), .inr (.int (-4)), .inl (.goto (.ofNat 51)), .inl (.aload 0), .inr (.int 0), .inr (.int 3), .inl (.invokevirtual 127), .inl .iastore, .inl (.aload 0), .inl .dup, .inl (.getfield 198), .inr (.int 1), .inl .iadd, .inl (.putfield 198), .inl .return_]
def pb_X6_readMan : List Nat := [0, 1, 2, 5, 6, 7, 8, 11, 12, 13, 14, 15, 16, 17, 20, 21, 22, 23, 24, 25, 28, 29, 32, 33, 34, 36, 39, 40, 41, 44, 45, 46, 47, 48, 49, 51, 54, 55, 56, 59, 60, 61, 62, 63, 64, 67, 69, 72, 73, 74, 75, 78, 79, 80, 81, 84, 85, 86, 89]
def cd_X6_readMost : List (Instr ⊕ Value) := [.inl (.aload 0), .inr (.int 0), .inr (.int 3), .inl (.invokevirtual 126), .inl (.istore 1), .inl (.aload 0), .inl (.getfield 209), .inl (.ifCond .ne (.ofNat 29)), .inl (.aload 0), .inl (.aload 0), .inl (.getfield 201), .inl (.iload 1), .inl .ishr, .inr (.int 1), .inl .iand, .inl (.ifCond .ne (.ofNat 18)), .inr (.int 1), .inl (.goto (.ofNat 19)), .inr (.int 0), .inr (.int 4), .inl (.invokevirtual 120), .inl (.aload 0), .inl .dup, .inl (.getfield 201), .inr (.int 1), .inl (.iload 1), .inl .ishl, .inl .ior, .inl (.putfield 201), .inl (.aload 0), .inl (.invokevirtual 125), .inl (.aload 0), .inr (.int 1), .inr (.int 5), .inl (.invokevirtual 127), .inl (.istore 2), .inl (.aload 0), .inl (.getfield 199), .inl (.iload 1), .inl (.aload 0), .inl (.getfield 209), .inl (.ifCond .ne (.ofNat 44)), .inl (.iload 2), .inl (.goto (.ofNat 48)), .inl (.aload 0), .inl (.getfield 199), .inl (.iload 1), .inl .iaload, .inl .iastore, .inl .return_]
def pb_X6_readMost : List Nat := [0, 1, 2, 3, 6, 7, 8, 11, 14, 15, 16, 19, 20, 21, 22, 23, 26, 27, 30, 31, 32, 35, 36, 37, 40, 41, 42, 43, 44, 47, 48, 51, 52, 53, 54, 57, 58, 59, 62, 63, 64, 67, 70, 71, 74, 75, 78, 79, 80, 81]
def cd_X6_readKin : List (Instr ⊕ Value) := [.inl (.aload 0), .inr (.int 0), .inr (.int 7), .inl (.invokevirtual 127), .inl (.istore 1), .inl (.aload 0), .inr (.int 0), .inr (.int 7), .inl (.invokevirtual 126), .inl (.istore 2), .inl (.aload 0), .inl (.getfield 209), .inl (.ifCond .ne (.ofNat 22)), .inl (.aload 0), .inl (.iload 2), .inl (.iload 1), .inl (.if_icmp .eq (.ofNat 19)), .inr (.int 1), .inl (.goto (.ofNat 20)), .inr (.int 0), .inr (.int 3), .inl (.invokevirtual 120), .inl (.aload 0), .inl (.getfield 209), .inl (.ifCond .ne (.ofNat 73)), .inl (.aload 0), .inl (.getfield 197), .inr (.int 5), .inl (.iload 1), .inl .imul, .inr (.int 4), .inl .iadd, .inl .dup2, .inl .iaload, .inr (.int 1), .inl (.iload 2), .inl .ishl, .inl .ior, .inl .iastore, .inl (.aload 0), .inl (.getfield 197), .inr (.int 5), .inl (.iload 2), .inl .imul, .inr (.int 4), .inl .iadd, .inl .dup2, .inl .iaload, .inr (.int 1), .inl (.iload 1), .inl .ishl, .inl .ior, .inl .iastore, .inl (.aload 0), .inl (.iload 1), .inl (.aload 0), .inl (.getfield 202), .inl (.if_icmp .le (.ofNat 60)), .inl (.iload 1), .inl (.goto (.ofNat 62)), .inl (.aload 0), .inl (.getfield 202), .inl (.putfield 202), .inl (.aload 0), .inl (.iload 2), .inl (.aload 0), .inl (.getfield 202), .inl (.if_icmp .le (.ofNat 70)), .inl (.iload 2), .inl (.goto (.ofNat 72)), .inl (.aload 0), .inl (.getfield 202), .inl (.putfield 202), .inl (.aload 0), .inl (.invokevirtual 125), .inl .return_]
def pb_X6_readKin : List Nat := [0, 1, 2, 4, 7, 8, 9, 10, 12, 15, 16, 17, 20, 23, 24, 25, 26, 29, 30, 33, 34, 35, 38, 39, 42, 45, 46, 49, 50, 51, 52, 53, 54, 55, 56, 57, 58, 59, 60, 61, 62, 65, 66, 67, 68, 69, 70, 71, 72, 73, 74, 75, 76, 77, 78, 79, 80, 83, 86, 87, 90, 91, 94, 97, 98, 99, 100, 103, 106, 107, 110, 111, 114, 117, 118, 121]
def cd_X6_readLineOf : List (Instr ⊕ Value) := [.inl (.iload 1), .inl (.tableswitch (.ofNat 26) 4 7 #[.ofNat 2, .ofNat 11, .ofNat 20, .ofNat 23]), .inl (.aload 0), .inl (.getfield 197), .inr (.int 41), .inl (.aload 0), .inr (.int 0), .inr (.int 99), .inl (.invokevirtual 127), .inl .iastore, .inl (.goto (.ofNat 29)), .inl (.aload 0), .inl (.getfield 197), .inr (.int 42), .inl (.aload 0), .inr (.int 0), .inr (.int 9), .inl (.invokevirtual 127), .inl .iastore, .inl (.goto (.ofNat 29)), .inl (.aload 0), .inl (.invokevirtual 129), .inl (.goto (.ofNat 29)), .inl (.aload 0), .inl (.invokevirtual 130), .inl (.goto (.ofNat 29)), .inl (.aload 0), .inl (.iload 1), .inl (.invokevirtual 128), .inl .return_]
def pb_X6_readLineOf : List Nat := [0, 1, 32, 33, 36, 38, 39, 40, 42, 45, 46, 49, 50, 53, 55, 56, 57, 59, 62, 63, 66, 67, 70, 73, 74, 77, 80, 81, 82, 85]
def cd_X6_readLine : List (Instr ⊕ Value) := [.inl (.aload 0), .inl (.getfield 207), .inr (.int 1), .inl (.if_icmp .ne (.ofNat 7)), .inl (.aload 0), .inl (.invokevirtual 124), .inl (.goto (.ofNat 8)), .inr (.int (-4)), .inl (.istore 1), .inl (.aload 0), .inl (.iload 1), .inr (.int (-4)), .inl (.if_icmp .eq (.ofNat 15)), .inr (.int 1), .inl (.goto (.ofNat 16)), .inr (.int 0), .inr (.int 2), .inl (.invokevirtual 120), .inl (.aload 0), .inl (.iload 1), .inr (.int 3), .inl (.if_icmp .gt (.ofNat 26)), .inl (.aload 0), .inl (.getfield 198), .inr (.int 8), .inl (.if_icmp .ge (.ofNat 28)), .inr (.int 1), .inl (.goto (.ofNat 29)), .inr (.int 0), .inr (.int 5), .inl (.invokevirtual 120), .inl (.aload 0), .inl (.getfield 209), .inl (.ifCond .ne (.ofNat 61)), .inl (.iload 1), .inl .i2l, .inr (.long 4), .inr (.long 5), .inl (.invokestatic 114), .inl (.ifCond .eq (.ofNat 61)), .inl (.aload 0), .inl (.aload 0), .inl (.getfield 200), .inl (.iload 1), .inl .ishr, .inr (.int 1), .inl .iand, .inl (.ifCond .ne (.ofNat 50)), .inr (.int 1), .inl (.goto (.ofNat 51)), .inr (.int 0), .inr (.int 4), .inl (.invokevirtual 120), .inl (.aload 0), .inl .dup, .inl (.getfield 200), .inr (.int 1), .inl (.iload 1), .inl .ishl, .inl .ior, .inl (.putfield 200), .inl (.aload 0), .inl (.invokevirtual 125), .inl (.aload 0), .inl (.getfield 209), .inl (.ifCond .le (.ofNat 67)), .inl .return_, .inl (.aload 0), .inl (.iload 1), .inl (.invokevirtual 131), .inl (.aload 0), .inl (.getfield 209), .inl (.ifCond .ne (.ofNat 83)), .inl (.aload 0), .inl (.aload 0), .inl (.getfield 207), .inr (.int 3), .inl (.if_icmp .ne (.ofNat 80)), .inr (.int 1), .inl (.goto (.ofNat 81)), .inr (.int 0), .inr (.int 2), .inl (.invokevirtual 120), .inl (.aload 0), .inl (.invokevirtual 125), .inl .return_]
def pb_X6_readLine : List Nat := [0, 1, 4, 5, 8, 9, 12, 15, 17, 18, 19, 20, 22, 25, 26, 29, 30, 31, 34, 35, 36, 37, 40, 41, 44, 46, 49, 50, 53, 54, 55, 58, 59, 62, 65, 66, 67, 70, 73, 76, 79, 80, 81, 84, 85, 86, 87, 88, 91, 92, 95, 96, 97, 100, 101, 102, 105, 106, 107, 108, 109, 112, 113, 116, 117, 120, 123, 124, 125, 126, 129, 130, 133, 136, 137, 138, 141, 142, 145, 146, 149, 150, 151, 154, 155, 158]
def cd_X6_doFit : List (Instr ⊕ Value) := [.inr (.int 1), .inl (.istore 1), .inr (.int 0), .inl (.istore 2), .inl .nop, .inl (.iload 2), .inr (.int 4), .inl (.if_icmp .ge (.ofNat 50)), .inr (.int 0), .inl (.istore 3), .inr (.int 0), .inl (.istore 4), .inl .nop, .inl (.iload 4), .inl (.aload 0), .inl (.getfield 198), .inl (.if_icmp .ge (.ofNat 36)), .inl (.iload 3), .inl (.aload 0), .inl (.getfield 197), .inr (.int 5), .inl (.iload 4), .inl .imul, .inr (.int 3), .inl .iadd, .inl .iaload, .inl (.iload 2), .inl (.if_icmp .ne (.ofNat 30)), .inr (.int 1), .inl (.goto (.ofNat 31)), .inr (.int 0), .inl (.invokestatic 115), .inl .iadd, .inl (.istore 3), .inl (.iinc 4 1), .inl (.goto (.ofNat 12)), .inl (.iload 1), .inl (.ifCond .eq (.ofNat 46)), .inl (.iload 3), .inl (.aload 0), .inl (.getfield 199), .inl (.iload 2), .inl .iaload, .inl (.if_icmp .gt (.ofNat 46)), .inr (.int 1), .inl (.goto (.ofNat 47)), .inr (.int 0), .inl (.istore 1), .inl (.iinc 2 1), .inl (.goto (.ofNat 4)), .inl (.iload 1), .inl (.ret 0)]
def pb_X6_doFit : List Nat := [0, 1, 2, 3, 4, 4, 5, 6, 9, 10, 11, 12, 14, 14, 16, 17, 20, 23, 24, 25, 28, 29, 31, 32, 33, 34, 35, 36, 39, 40, 43, 44, 47, 48, 49, 52, 55, 56, 59, 60, 61, 64, 65, 66, 69, 70, 73, 74, 75, 78, 81, 82]
def cd_X6_text : List (Instr ⊕ Value) := [.inr (.int 0), .inl (.istore 1), .inl (.aload 0), .inr (.int 0), .inl (.putfield 209), .inl (.aload 0), .inr (.int 0), .inl (.putfield 205), .inl (.aload 0), .inl (.invokevirtual 116), .inl (.aload 0), .inl (.invokevirtual 125), .inl .nop, .inl (.aload 0), .inl (.getfield 209), .inl (.ifCond .ne (.ofNat 23)), .inl (.aload 0), .inl (.getfield 207), .inl (.ifCond .eq (.ofNat 23)), .inl (.aload 0), .inl (.invokevirtual 132), .inl (.iinc 1 1), .inl (.goto (.ofNat 12)), .inl (.aload 0), .inl (.getfield 209), .inl (.ifCond .ne (.ofNat 42)), .inl (.aload 0), .inl (.aload 0), .inl (.getfield 202), .inl (.aload 0), .inl (.getfield 198), .inl (.if_icmp .ge (.ofNat 34)), .inr (.int 1), .inl (.goto (.ofNat 35)), .inr (.int 0), .inr (.int 6), .inl (.invokevirtual 120), .inl (.aload 0), .inl (.aload 0), .inl (.invokevirtual 133), .inr (.int 7), .inl (.invokevirtual 120), .inl (.aload 0), .inr (.int 0), .inl (.putfield 204), .inl (.aload 0), .inl (.getfield 209), .inl (.ifCond .le (.ofNat 53)), .inr (.int (-10)), .inl (.aload 0), .inl (.getfield 210), .inl .isub, .inl .ireturn, .inl (.aload 0), .inl (.invokevirtual 117), .inl (.iload 1), .inl .ireturn]
def pb_X6_text : List Nat := [0, 1, 2, 3, 4, 7, 8, 9, 12, 13, 16, 17, 20, 20, 21, 24, 27, 28, 31, 34, 35, 38, 41, 44, 45, 48, 51, 52, 53, 56, 57, 60, 63, 64, 67, 68, 70, 73, 74, 75, 78, 80, 83, 84, 85, 88, 89, 92, 95, 97, 98, 101, 102, 103, 104, 107, 108]
def cd_X6_fault : List (Instr ⊕ Value) := [.inl (.aload 0), .inl (.getfield 209), .inl .ireturn]
def pb_X6_fault : List Nat := [0, 1, 4]
def cd_X6_isMan : List (Instr ⊕ Value) := [.inl (.iload 1), .inl .i2l, .inr (.long 0), .inl (.aload 0), .inl (.getfield 195), .inr (.int 1), .inl .isub, .inl .i2l, .inl (.invokestatic 114), .inl (.ret 0)]
def pb_X6_isMan : List Nat := [0, 1, 2, 3, 4, 7, 8, 9, 10, 13]
def cd_X6_isTen : List (Instr ⊕ Value) := [.inl (.iload 0), .inl .i2l, .inr (.long 0), .inr (.long 3), .inl (.invokestatic 114), .inl (.ret 0)]
def pb_X6_isTen : List Nat := [0, 1, 2, 3, 6, 9]
def cd_X6_isPart : List (Instr ⊕ Value) := [.inl (.iload 0), .inl .i2l, .inr (.long 0), .inr (.long 1), .inl (.invokestatic 114), .inl (.ret 0)]
def pb_X6_isPart : List Nat := [0, 1, 2, 3, 4, 7]
def cd_X6_bitsOf : List (Instr ⊕ Value) := [.inr (.int 0), .inl (.istore 1), .inr (.int 0), .inl (.istore 2), .inl .nop, .inl (.iload 2), .inr (.int 8), .inl (.if_icmp .ge (.ofNat 18)), .inl (.iload 1), .inl (.iload 0), .inl (.iload 2), .inl .ishr, .inr (.int 1), .inl .iand, .inl .iadd, .inl (.istore 1), .inl (.iinc 2 1), .inl (.goto (.ofNat 4)), .inl (.iload 1), .inl .ireturn]
def pb_X6_bitsOf : List Nat := [0, 1, 2, 3, 4, 4, 5, 7, 10, 11, 12, 13, 14, 15, 16, 17, 18, 21, 24, 25]
def cd_X6_starts : List (Instr ⊕ Value) := [.inr (.int 0), .inl (.istore 1), .inl .nop, .inl (.iload 1), .inr (.int 57), .inl (.if_icmp .ge (.ofNat 16)), .inl (.aload 0), .inl (.getfield 193), .inl (.iload 1), .inl (.aload 0), .inl (.getfield 192), .inl (.iload 1), .inl .iaload, .inl .iastore, .inl (.iinc 1 1), .inl (.goto (.ofNat 2)), .inl .return_]
def pb_X6_starts : List Nat := [0, 1, 2, 2, 3, 5, 8, 9, 12, 13, 14, 17, 18, 19, 20, 23, 26]
def cd_X6_settles : List (Instr ⊕ Value) := [.inr (.int 0), .inl (.istore 1), .inl .nop, .inl (.iload 1), .inr (.int 57), .inl (.if_icmp .ge (.ofNat 16)), .inl (.aload 0), .inl (.getfield 192), .inl (.iload 1), .inl (.aload 0), .inl (.getfield 193), .inl (.iload 1), .inl .iaload, .inl .iastore, .inl (.iinc 1 1), .inl (.goto (.ofNat 2)), .inl .return_]
def pb_X6_settles : List Nat := [0, 1, 2, 2, 3, 5, 8, 9, 12, 13, 14, 17, 18, 19, 20, 23, 26]
def cd_X6_of : List (Instr ⊕ Value) := [.inl (.aload 0), .inl (.getfield 193), .inr (.int 5), .inl (.iload 1), .inl .imul, .inl (.iload 2), .inl .iadd, .inl .iaload, .inl .ireturn]
def pb_X6_of : List Nat := [0, 1, 4, 5, 6, 7, 8, 9, 10]
def cd_X6_becomesOf : List (Instr ⊕ Value) := [.inl (.aload 0), .inl (.getfield 193), .inr (.int 5), .inl (.iload 1), .inl .imul, .inl (.iload 2), .inl .iadd, .inl (.iload 3), .inl .iastore, .inl .return_]
def pb_X6_becomesOf : List Nat := [0, 1, 4, 5, 6, 7, 8, 9, 10, 11]
def cd_X6_menOf : List (Instr ⊕ Value) := [.inr (.int 0), .inl (.istore 2), .inr (.int 0), .inl (.istore 3), .inl .nop, .inl (.iload 3), .inl (.aload 0), .inl (.getfield 195), .inl (.if_icmp .ge (.ofNat 26)), .inl (.iload 2), .inl (.aload 0), .inl (.iload 3), .inr (.int 3), .inl (.invokevirtual 142), .inl (.iload 1), .inl (.if_icmp .ne (.ofNat 18)), .inr (.int 1), .inl (.goto (.ofNat 19)), .inr (.int 0), .inl (.invokestatic 115), .inl (.iload 3), .inl .ishl, .inl .ior, .inl (.istore 2), .inl (.iinc 3 1), .inl (.goto (.ofNat 4)), .inl (.iload 2), .inl .ireturn]
def pb_X6_menOf : List Nat := [0, 1, 2, 3, 4, 4, 5, 6, 9, 12, 13, 14, 15, 16, 19, 20, 23, 24, 27, 28, 31, 32, 33, 34, 35, 38, 41, 42]
def cd_X6_isWatched : List (Instr ⊕ Value) := [.inl (.aload 0), .inl (.getfield 193), .inr (.int 40), .inl .iaload, .inl (.iload 1), .inl .ishr, .inr (.int 1), .inl .iand, .inr (.int 1), .inl (.if_icmp .ne (.ofNat 12)), .inr (.int 1), .inl (.goto (.ofNat 13)), .inr (.int 0), .inl (.ret 0)]
def pb_X6_isWatched : List Nat := [0, 1, 4, 6, 7, 8, 9, 10, 11, 12, 15, 16, 19, 20]
def cd_X6_oddsOf : List (Instr ⊕ Value) := [.inl (.aload 0), .inl (.iload 1), .inr (.int 1), .inl (.invokevirtual 142), .inl (.istore 2), .inl (.aload 0), .inl (.iload 1), .inr (.int 0), .inl (.invokevirtual 142), .inr (.int 2), .inl (.if_icmp .ne (.ofNat 13)), .inr (.int 0), .inl .ireturn, .inl (.aload 0), .inl (.iload 1), .inr (.int 3), .inl (.invokevirtual 142), .inr (.int (-4)), .inl (.if_icmp .ne (.ofNat 21)), .inl (.iload 2), .inl .ireturn, .inr (.int 0), .inl (.istore 3), .inl .nop, .inl (.iload 3), .inl (.aload 0), .inl (.getfield 195), .inl (.if_icmp .ge (.ofNat 67)), .inl (.iload 3), .inl (.iload 1), .inl (.if_icmp .eq (.ofNat 48)), .inl (.aload 0), .inl (.iload 3), .inr (.int 3), .inl (.invokevirtual 142), .inl (.aload 0), .inl (.iload 1), .inr (.int 3), .inl (.invokevirtual 142), .inl (.if_icmp .ne (.ofNat 48)), .inl (.aload 0), .inl (.iload 3), .inr (.int 0), .inl (.invokevirtual 142), .inr (.int 1), .inl (.if_icmp .ne (.ofNat 48)), .inr (.int 1), .inl (.goto (.ofNat 49)), .inr (.int 0), .inl (.istore 4), .inl (.iload 2), .inl (.iload 4), .inl (.ifCond .eq (.ofNat 61)), .inl (.aload 0), .inl (.iload 1), .inr (.int 0), .inl (.invokevirtual 142), .inr (.int 1), .inl (.if_icmp .ne (.ofNat 61)), .inr (.int 1), .inl (.goto (.ofNat 62)), .inr (.int 0), .inl (.invokestatic 115), .inl .iadd, .inl (.istore 2), .inl (.iinc 3 1), .inl (.goto (.ofNat 23)), .inl (.aload 0), .inl (.iload 1), .inl (.invokevirtual 145), .inl (.ifCond .eq (.ofNat 75)), .inl (.iload 2), .inr (.int 2), .inl .idiv, .inl (.goto (.ofNat 76)), .inl (.iload 2), .inl (.istore 2), .inl (.iload 2), .inr (.int 9), .inl (.if_icmp .ge (.ofNat 82)), .inl (.iload 2), .inl (.goto (.ofNat 83)), .inr (.int 9), .inl .ireturn]
def pb_X6_oddsOf : List Nat := [0, 1, 2, 3, 6, 7, 8, 9, 10, 13, 14, 17, 18, 19, 20, 21, 22, 25, 27, 30, 31, 32, 33, 34, 34, 35, 36, 39, 42, 43, 44, 47, 48, 49, 50, 53, 54, 55, 56, 59, 62, 63, 64, 65, 68, 69, 72, 73, 76, 77, 79, 80, 82, 85, 86, 87, 88, 91, 92, 95, 96, 99, 100, 103, 104, 105, 108, 111, 112, 113, 116, 119, 120, 121, 122, 125, 126, 127, 128, 130, 133, 134, 137, 139]
def cd_X6_harmOf : List (Instr ⊕ Value) := [.inr (.int 0), .inl (.istore 2), .inr (.int 0), .inl (.istore 3), .inl .nop, .inl (.iload 3), .inl (.aload 0), .inl (.getfield 195), .inl (.if_icmp .ge (.ofNat 42)), .inl (.iload 2), .inl (.aload 0), .inl (.iload 3), .inr (.int 3), .inl (.invokevirtual 142), .inl (.iload 1), .inl (.if_icmp .ne (.ofNat 37)), .inl (.aload 0), .inl (.iload 3), .inl (.invokevirtual 146), .inl (.aload 0), .inl (.getfield 193), .inr (.int 41), .inl .iaload, .inl .imul, .inl (.aload 0), .inl (.iload 3), .inl (.invokevirtual 145), .inl (.invokestatic 115), .inr (.int 10), .inl .imul, .inl (.aload 0), .inl (.getfield 193), .inr (.int 42), .inl .iaload, .inl .imul, .inl .iadd, .inl (.goto (.ofNat 38)), .inr (.int 0), .inl .iadd, .inl (.istore 2), .inl (.iinc 3 1), .inl (.goto (.ofNat 4)), .inl (.iload 2), .inl .ireturn]
def pb_X6_harmOf : List Nat := [0, 1, 2, 3, 4, 4, 5, 6, 9, 12, 13, 14, 15, 16, 19, 20, 23, 24, 25, 28, 29, 32, 34, 35, 36, 37, 38, 41, 44, 46, 47, 48, 51, 53, 54, 55, 56, 59, 60, 61, 62, 65, 68, 69]
def cd_X6_harmAll : List (Instr ⊕ Value) := [.inr (.int 0), .inl (.istore 1), .inr (.int 0), .inl (.istore 2), .inl .nop, .inl (.iload 2), .inr (.int 4), .inl (.if_icmp .ge (.ofNat 16)), .inl (.iload 1), .inl (.aload 0), .inl (.iload 2), .inl (.invokevirtual 147), .inl .iadd, .inl (.istore 1), .inl (.iinc 2 1), .inl (.goto (.ofNat 4)), .inr (.int 0), .inl (.istore 2), .inl .nop, .inl (.iload 2), .inl (.aload 0), .inl (.getfield 195), .inl (.if_icmp .ge (.ofNat 45)), .inl (.iload 1), .inl (.aload 0), .inl (.iload 2), .inr (.int 3), .inl (.invokevirtual 142), .inr (.int (-4)), .inl (.if_icmp .ne (.ofNat 40)), .inl (.aload 0), .inl (.iload 2), .inr (.int 1), .inl (.invokevirtual 142), .inl (.aload 0), .inl (.getfield 193), .inr (.int 41), .inl .iaload, .inl .imul, .inl (.goto (.ofNat 41)), .inr (.int 0), .inl .iadd, .inl (.istore 1), .inl (.iinc 2 1), .inl (.goto (.ofNat 18)), .inl (.iload 1), .inl .ireturn]
def pb_X6_harmAll : List Nat := [0, 1, 2, 3, 4, 4, 5, 6, 9, 10, 11, 12, 15, 16, 17, 20, 23, 24, 25, 25, 26, 27, 30, 33, 34, 35, 36, 37, 40, 42, 45, 46, 47, 48, 51, 52, 55, 57, 58, 59, 62, 63, 64, 65, 68, 71, 72]
def cd_X6_allGoods : List (Instr ⊕ Value) := [.inr (.int 0), .inl (.istore 2), .inr (.int 0), .inl (.istore 3), .inl .nop, .inl (.iload 3), .inl (.aload 0), .inl (.getfield 195), .inl (.if_icmp .ge (.ofNat 27)), .inl (.iload 2), .inl (.iload 1), .inl (.iload 3), .inl .ishr, .inr (.int 1), .inl .iand, .inr (.int 1), .inl (.if_icmp .ne (.ofNat 22)), .inl (.aload 0), .inl (.iload 3), .inr (.int 2), .inl (.invokevirtual 142), .inl (.goto (.ofNat 23)), .inr (.int 0), .inl .iadd, .inl (.istore 2), .inl (.iinc 3 1), .inl (.goto (.ofNat 4)), .inl (.iload 2), .inl .ireturn]
def pb_X6_allGoods : List Nat := [0, 1, 2, 3, 4, 4, 5, 6, 9, 12, 13, 14, 15, 16, 17, 18, 19, 22, 23, 24, 25, 28, 31, 32, 33, 34, 37, 40, 41]
def cd_X6_rule : List (Instr ⊕ Value) := [.inr (.int 0), .inl (.istore 2), .inr (.int 0), .inl (.istore 3), .inl .nop, .inl (.iload 3), .inl (.aload 0), .inl (.getfield 195), .inl (.if_icmp .ge (.ofNat 30)), .inl (.iload 2), .inl (.aload 0), .inl (.getfield 192), .inr (.int 5), .inl (.iload 3), .inl .imul, .inr (.int 3), .inl .iadd, .inl .iaload, .inr (.int (-4)), .inl (.if_icmp .ne (.ofNat 22)), .inr (.int 1), .inl (.goto (.ofNat 23)), .inr (.int 0), .inl (.invokestatic 115), .inl (.iload 3), .inl .ishl, .inl .ior, .inl (.istore 2), .inl (.iinc 3 1), .inl (.goto (.ofNat 4)), .inl (.iload 1), .inl (.tableswitch (.ofNat 57) 0 5 #[.ofNat 32, .ofNat 35, .ofNat 40, .ofNat 45, .ofNat 50, .ofNat 55]), .inl (.aload 0), .inl (.getfield 195), .inl .ireturn, .inl (.aload 0), .inl (.getfield 192), .inr (.int 41), .inl .iaload, .inl .ireturn, .inl (.aload 0), .inl (.getfield 192), .inr (.int 42), .inl .iaload, .inl .ireturn, .inl (.aload 0), .inl (.getfield 192), .inr (.int 43), .inl .iaload, .inl .ireturn, .inl (.aload 0), .inl (.getfield 192), .inr (.int 40), .inl .iaload, .inl .ireturn, .inl (.iload 2), .inl .ireturn, .inr (.int (-1)), .inl .ireturn]
def pb_X6_rule : List Nat := [0, 1, 2, 3, 4, 4, 5, 6, 9, 12, 13, 14, 17, 18, 19, 20, 21, 22, 23, 25, 28, 29, 32, 33, 36, 37, 38, 39, 40, 43, 46, 47, 84, 85, 88, 89, 90, 93, 95, 96, 97, 98, 101, 103, 104, 105, 106, 109, 111, 112, 113, 114, 117, 119, 120, 121, 122, 123, 124]
def cd_X6_man : List (Instr ⊕ Value) := [.inl (.aload 0), .inl (.iload 1), .inl (.invokevirtual 136), .inl (.ifCond .eq (.ofNat 10)), .inl (.iload 2), .inl .i2l, .inr (.long 0), .inr (.long 5), .inl (.invokestatic 114), .inl (.ifCond .ne (.ofNat 12)), .inr (.int (-1)), .inl .ireturn, .inl (.aload 0), .inl (.invokevirtual 140), .inl (.iload 2), .inr (.int 5), .inl (.if_icmp .ge (.ofNat 22)), .inl (.aload 0), .inl (.iload 1), .inl (.iload 2), .inl (.invokevirtual 142), .inl (.goto (.ofNat 25)), .inl (.aload 0), .inl (.iload 1), .inl (.invokevirtual 146), .inl .ireturn]
def pb_X6_man : List Nat := [0, 1, 2, 5, 8, 9, 10, 11, 14, 17, 20, 21, 22, 23, 26, 27, 28, 31, 32, 33, 34, 37, 40, 41, 42, 45]
def cd_X6_ten : List (Instr ⊕ Value) := [.inl (.iload 1), .inl (.invokestatic 137), .inl (.ifCond .ne (.ofNat 5)), .inr (.int (-1)), .inl .ireturn, .inl (.aload 0), .inl (.invokevirtual 140), .inl (.iload 2), .inl (.tableswitch (.ofNat 28) 0 3 #[.ofNat 9, .ofNat 13, .ofNat 18, .ofNat 22]), .inl (.aload 0), .inl (.iload 1), .inl (.invokevirtual 144), .inl .ireturn, .inl (.aload 0), .inl (.getfield 196), .inl (.iload 1), .inl .iaload, .inl .ireturn, .inl (.aload 0), .inl (.iload 1), .inl (.invokevirtual 147), .inl .ireturn, .inl (.aload 0), .inl (.aload 0), .inl (.iload 1), .inl (.invokevirtual 144), .inl (.invokevirtual 149), .inl .ireturn, .inr (.int (-1)), .inl .ireturn]
def pb_X6_ten : List Nat := [0, 1, 4, 7, 8, 9, 10, 13, 14, 44, 45, 46, 49, 50, 51, 54, 55, 56, 57, 58, 59, 62, 63, 64, 65, 66, 69, 72, 73, 74]
def cd_X6_becomes : List (Instr ⊕ Value) := [.inl (.aload 0), .inl (.getfield 192), .inl (.iload 1), .inl .iaload, .inl (.istore 3), .inl (.aload 0), .inl (.getfield 192), .inl (.iload 1), .inl (.iload 2), .inl .iastore, .inl (.iload 3), .inl .ireturn]
def pb_X6_becomes : List Nat := [0, 1, 4, 5, 6, 7, 8, 11, 12, 13, 14, 15]
def cd_X6_isWanderer : List (Instr ⊕ Value) := [.inl (.aload 0), .inl (.getfield 192), .inr (.int 5), .inl (.iload 1), .inl .imul, .inr (.int 3), .inl .iadd, .inl .iaload, .inr (.int (-4)), .inl (.if_icmp .ne (.ofNat 12)), .inr (.int 1), .inl (.goto (.ofNat 13)), .inr (.int 0), .inl (.ret 0)]
def pb_X6_isWanderer : List Nat := [0, 1, 4, 5, 6, 7, 8, 9, 10, 12, 15, 16, 19, 20]
def cd_X6_isFull : List (Instr ⊕ Value) := [.inl (.aload 0), .inl (.invokevirtual 140), .inl (.aload 0), .inl (.iload 1), .inl (.invokevirtual 144), .inl (.invokestatic 139), .inl (.aload 0), .inl (.getfield 196), .inl (.iload 1), .inl .iaload, .inl (.if_icmp .lt (.ofNat 13)), .inr (.int 1), .inl (.goto (.ofNat 14)), .inr (.int 0), .inl (.ret 0)]
def pb_X6_isFull : List Nat := [0, 1, 4, 5, 6, 9, 12, 13, 16, 17, 18, 21, 22, 25, 26]
def cd_X6_move : List (Instr ⊕ Value) := [.inl (.aload 0), .inl (.iload 1), .inl (.invokevirtual 136), .inl (.ifCond .eq (.ofNat 7)), .inl (.iload 2), .inl (.invokestatic 137), .inl (.ifCond .ne (.ofNat 9)), .inr (.int (-1)), .inl .ireturn, .inl (.aload 0), .inl (.getfield 192), .inr (.int 5), .inl (.iload 1), .inl .imul, .inr (.int 3), .inl .iadd, .inl .iaload, .inl (.istore 3), .inl (.iload 3), .inl (.iload 2), .inl (.if_icmp .eq (.ofNat 27)), .inl (.aload 0), .inl (.iload 2), .inl (.invokevirtual 155), .inl (.ifCond .eq (.ofNat 27)), .inr (.int (-3)), .inl .ireturn, .inl (.aload 0), .inl (.getfield 192), .inr (.int 5), .inl (.iload 1), .inl .imul, .inr (.int 0), .inl .iadd, .inl (.iload 3), .inr (.int (-4)), .inl (.if_icmp .ne (.ofNat 39)), .inr (.int 0), .inl (.goto (.ofNat 47)), .inl (.aload 0), .inl (.getfield 192), .inr (.int 5), .inl (.iload 1), .inl .imul, .inr (.int 0), .inl .iadd, .inl .iaload, .inl .iastore, .inl (.aload 0), .inr (.int 5), .inl (.iload 1), .inl .imul, .inr (.int 3), .inl .iadd, .inl (.iload 2), .inl (.invokevirtual 153), .inl .ireturn]
def pb_X6_move : List Nat := [0, 1, 2, 5, 8, 9, 12, 15, 16, 17, 18, 21, 22, 23, 24, 25, 26, 27, 28, 29, 30, 33, 34, 35, 38, 41, 43, 44, 45, 48, 49, 50, 51, 52, 53, 54, 56, 59, 60, 63, 64, 67, 68, 69, 70, 71, 72, 73, 74, 75, 76, 77, 78, 79, 80, 81, 84]
def cd_X6_leave : List (Instr ⊕ Value) := [.inl (.aload 0), .inl (.iload 1), .inl (.invokevirtual 136), .inl (.ifCond .ne (.ofNat 6)), .inr (.int (-1)), .inl .ireturn, .inl (.aload 0), .inl (.iload 1), .inl (.invokevirtual 154), .inl (.ifCond .eq (.ofNat 12)), .inr (.int (-2)), .inl .ireturn, .inl (.aload 0), .inl (.getfield 192), .inr (.int 5), .inl (.iload 1), .inl .imul, .inr (.int 0), .inl .iadd, .inr (.int 3), .inl .iastore, .inl (.aload 0), .inl (.getfield 192), .inr (.int 40), .inl .dup2, .inl .iaload, .inr (.int 1), .inl (.iload 1), .inl .ishl, .inr (.int (-1)), .inl .ixor, .inl .iand, .inl .iastore, .inl (.aload 0), .inr (.int 5), .inl (.iload 1), .inl .imul, .inr (.int 3), .inl .iadd, .inr (.int (-4)), .inl (.invokevirtual 153), .inl .ireturn]
def pb_X6_leave : List Nat := [0, 1, 2, 5, 8, 9, 10, 11, 12, 15, 18, 20, 21, 22, 25, 26, 27, 28, 29, 30, 31, 32, 33, 36, 38, 39, 40, 41, 42, 43, 44, 45, 46, 47, 48, 49, 50, 51, 52, 53, 55, 58]
def cd_X6_swap : List (Instr ⊕ Value) := [.inl (.aload 0), .inl (.iload 1), .inl (.invokevirtual 136), .inl (.ifCond .eq (.ofNat 11)), .inl (.aload 0), .inl (.iload 2), .inl (.invokevirtual 136), .inl (.ifCond .eq (.ofNat 11)), .inl (.iload 1), .inl (.iload 2), .inl (.if_icmp .ne (.ofNat 13)), .inr (.int (-1)), .inl .ireturn, .inl (.aload 0), .inl (.getfield 192), .inr (.int 5), .inl (.iload 1), .inl .imul, .inr (.int 3), .inl .iadd, .inl .iaload, .inl (.istore 3), .inl (.aload 0), .inl (.getfield 192), .inr (.int 5), .inl (.iload 2), .inl .imul, .inr (.int 3), .inl .iadd, .inl .iaload, .inl (.istore 4), .inl (.iload 3), .inr (.int (-4)), .inl (.if_icmp .eq (.ofNat 40)), .inl (.iload 4), .inr (.int (-4)), .inl (.if_icmp .eq (.ofNat 40)), .inl (.iload 3), .inl (.iload 4), .inl (.if_icmp .ne (.ofNat 42)), .inr (.int (-2)), .inl .ireturn, .inl (.aload 0), .inl (.getfield 192), .inr (.int 5), .inl (.iload 1), .inl .imul, .inr (.int 3), .inl .iadd, .inl (.iload 4), .inl .iastore, .inl (.aload 0), .inl (.getfield 192), .inr (.int 5), .inl (.iload 2), .inl .imul, .inr (.int 3), .inl .iadd, .inl (.iload 3), .inl .iastore, .inl (.iload 4), .inl .ireturn]
def pb_X6_swap : List Nat := [0, 1, 2, 5, 8, 9, 10, 13, 16, 17, 18, 21, 22, 23, 24, 27, 28, 29, 30, 31, 32, 33, 34, 35, 38, 39, 40, 41, 42, 43, 44, 46, 47, 49, 52, 54, 56, 59, 60, 62, 65, 67, 68, 69, 72, 73, 74, 75, 76, 77, 79, 80, 81, 84, 85, 86, 87, 88, 89, 90, 91, 93]
def cd_X6_becomesBit : List (Instr ⊕ Value) := [.inl (.aload 0), .inl (.getfield 192), .inl (.iload 1), .inl .iaload, .inl (.iload 2), .inl .ishr, .inr (.int 1), .inl .iand, .inl (.istore 4), .inl (.aload 0), .inl (.getfield 192), .inl (.iload 1), .inl (.iload 3), .inl (.ifCond .eq (.ofNat 23)), .inl (.aload 0), .inl (.getfield 192), .inl (.iload 1), .inl .iaload, .inr (.int 1), .inl (.iload 2), .inl .ishl, .inl .ior, .inl (.goto (.ofNat 33)), .inl (.aload 0), .inl (.getfield 192), .inl (.iload 1), .inl .iaload, .inr (.int 1), .inl (.iload 2), .inl .ishl, .inr (.int (-1)), .inl .ixor, .inl .iand, .inl .iastore, .inl (.iload 4), .inl .ireturn]
def pb_X6_becomesBit : List Nat := [0, 1, 4, 5, 6, 7, 8, 9, 10, 12, 13, 16, 17, 18, 21, 22, 25, 26, 27, 28, 29, 30, 31, 34, 35, 38, 39, 40, 41, 42, 43, 44, 45, 46, 47, 49]
def cd_X6_watch : List (Instr ⊕ Value) := [.inl (.aload 0), .inl (.iload 1), .inl (.invokevirtual 136), .inl (.ifCond .ne (.ofNat 6)), .inr (.int (-1)), .inl .ireturn, .inl (.aload 0), .inl (.iload 1), .inl (.invokevirtual 154), .inl (.ifCond .eq (.ofNat 12)), .inr (.int (-2)), .inl (.goto (.ofNat 17)), .inl (.aload 0), .inr (.int 40), .inl (.iload 1), .inl (.iload 2), .inl (.invokevirtual 159), .inl .ireturn]
def pb_X6_watch : List Nat := [0, 1, 2, 5, 8, 9, 10, 11, 12, 15, 18, 20, 23, 24, 26, 27, 28, 31]
def cd_X6_kin : List (Instr ⊕ Value) := [.inl (.aload 0), .inl (.iload 1), .inl (.invokevirtual 136), .inl (.ifCond .eq (.ofNat 11)), .inl (.aload 0), .inl (.iload 2), .inl (.invokevirtual 136), .inl (.ifCond .eq (.ofNat 11)), .inl (.iload 1), .inl (.iload 2), .inl (.if_icmp .ne (.ofNat 13)), .inr (.int (-1)), .inl .ireturn, .inl (.aload 0), .inr (.int 5), .inl (.iload 2), .inl .imul, .inr (.int 4), .inl .iadd, .inl (.iload 1), .inl (.iload 3), .inl (.invokevirtual 159), .inl .pop, .inl (.aload 0), .inr (.int 5), .inl (.iload 1), .inl .imul, .inr (.int 4), .inl .iadd, .inl (.iload 2), .inl (.iload 3), .inl (.invokevirtual 159), .inl .ireturn]
def pb_X6_kin : List Nat := [0, 1, 2, 5, 8, 9, 10, 13, 16, 17, 18, 21, 22, 23, 24, 25, 26, 27, 28, 29, 30, 31, 34, 35, 36, 37, 38, 39, 40, 41, 42, 43, 46]
def cd_X6_odd : List (Instr ⊕ Value) := [.inl (.aload 0), .inl (.iload 1), .inl (.invokevirtual 136), .inl (.ifCond .eq (.ofNat 10)), .inl (.iload 2), .inl .i2l, .inr (.long 0), .inr (.long 9), .inl (.invokestatic 114), .inl (.ifCond .ne (.ofNat 12)), .inr (.int (-1)), .inl .ireturn, .inl (.aload 0), .inl (.getfield 192), .inr (.int 5), .inl (.iload 1), .inl .imul, .inr (.int 0), .inl .iadd, .inl .iaload, .inr (.int 2), .inl (.if_icmp .ne (.ofNat 24)), .inr (.int (-2)), .inl (.goto (.ofNat 32)), .inl (.aload 0), .inr (.int 5), .inl (.iload 1), .inl .imul, .inr (.int 1), .inl .iadd, .inl (.iload 2), .inl (.invokevirtual 153), .inl .ireturn]
def pb_X6_odd : List Nat := [0, 1, 2, 5, 8, 9, 10, 11, 14, 17, 20, 21, 22, 23, 26, 27, 28, 29, 30, 31, 32, 33, 36, 38, 41, 42, 43, 44, 45, 46, 47, 48, 51]
def cd_X6_law : List (Instr ⊕ Value) := [.inl (.iload 1), .inl (.invokestatic 138), .inl (.ifCond .eq (.ofNat 13)), .inl (.iload 2), .inl .i2l, .inr (.long 0), .inl (.iload 1), .inl (.ifCond .ne (.ofNat 10)), .inr (.long 99), .inl (.goto (.ofNat 11)), .inr (.long 9), .inl (.invokestatic 114), .inl (.ifCond .ne (.ofNat 15)), .inr (.int (-1)), .inl .ireturn, .inl (.aload 0), .inl (.iload 1), .inl (.ifCond .ne (.ofNat 20)), .inr (.int 41), .inl (.goto (.ofNat 21)), .inr (.int 42), .inl (.iload 2), .inl (.invokevirtual 153), .inl .ireturn]
def pb_X6_law : List Nat := [0, 1, 4, 7, 8, 9, 10, 11, 14, 17, 20, 23, 26, 29, 30, 31, 32, 33, 36, 38, 41, 43, 44, 47]
def cd_X6_goods : List (Instr ⊕ Value) := [.inl (.aload 0), .inl (.iload 1), .inl (.invokevirtual 136), .inl (.ifCond .eq (.ofNat 19)), .inl (.iload 2), .inl .i2l, .inr (.long 0), .inr (.long 99), .inl (.invokestatic 114), .inl (.ifCond .eq (.ofNat 19)), .inl (.aload 0), .inr (.int 5), .inl (.iload 1), .inl .imul, .inr (.int 2), .inl .iadd, .inl (.iload 2), .inl (.invokevirtual 153), .inl (.goto (.ofNat 20)), .inr (.int (-1)), .inl .ireturn]
def pb_X6_goods : List Nat := [0, 1, 2, 5, 8, 9, 10, 11, 14, 17, 20, 21, 22, 23, 24, 25, 26, 27, 30, 33, 34]
def cd_X6_pay : List (Instr ⊕ Value) := [.inl (.iload 2), .inl (.aload 0), .inl (.iload 1), .inr (.int 2), .inl (.invokevirtual 142), .inl (.if_icmp .ge (.ofNat 8)), .inl (.iload 2), .inl (.goto (.ofNat 12)), .inl (.aload 0), .inl (.iload 1), .inr (.int 2), .inl (.invokevirtual 142), .inl (.istore 3), .inl (.aload 0), .inl (.iload 1), .inr (.int 2), .inl (.aload 0), .inl (.iload 1), .inr (.int 2), .inl (.invokevirtual 142), .inl (.iload 3), .inl .isub, .inl (.invokevirtual 143), .inl (.iload 3), .inl .ireturn]
def pb_X6_pay : List Nat := [0, 1, 2, 3, 4, 7, 10, 11, 14, 15, 16, 17, 20, 21, 22, 23, 24, 25, 26, 27, 30, 31, 32, 35, 36]
def cd_X6_runs : List (Instr ⊕ Value) := [.inl (.aload 0), .inl (.iload 1), .inr (.int 3), .inl (.invokevirtual 142), .inr (.int (-4)), .inl (.if_icmp .ne (.ofNat 8)), .inr (.int 0), .inl .ireturn, .inl (.aload 0), .inl (.aload 0), .inl (.iload 1), .inr (.int 3), .inl (.invokevirtual 142), .inl (.invokevirtual 144), .inr (.int 1), .inl (.iload 1), .inl .ishl, .inr (.int (-1)), .inl .ixor, .inl .iand, .inl (.aload 0), .inl (.iload 1), .inr (.int 4), .inl (.invokevirtual 142), .inr (.int (-1)), .inl .ixor, .inl .iand, .inl (.istore 2), .inl (.iload 2), .inl (.invokestatic 139), .inl (.istore 3), .inr (.int 0), .inl (.istore 4), .inl (.iload 3), .inl (.ifCond .ne (.ofNat 37)), .inr (.int 0), .inl (.goto (.ofNat 43)), .inl (.aload 0), .inl (.getfield 193), .inr (.int 41), .inl .iaload, .inl (.iload 3), .inl .irem, .inl (.istore 5), .inr (.int 0), .inl (.istore 6), .inl .nop, .inl (.iload 6), .inl (.aload 0), .inl (.getfield 195), .inl (.if_icmp .ge (.ofNat 90)), .inl (.iload 2), .inl (.iload 6), .inl .ishr, .inr (.int 1), .inl .iand, .inr (.int 1), .inl (.if_icmp .ne (.ofNat 88)), .inl (.aload 0), .inl (.iload 6), .inl (.aload 0), .inl (.getfield 193), .inr (.int 41), .inl .iaload, .inl (.iload 3), .inl .idiv, .inl (.iload 5), .inl (.ifCond .le (.ofNat 70)), .inr (.int 1), .inl (.goto (.ofNat 71)), .inr (.int 0), .inl (.invokestatic 115), .inl .iadd, .inl (.invokevirtual 165), .inl (.istore 7), .inl (.iinc 5 (-1)), .inl (.aload 0), .inl (.getfield 211), .inl (.iload 6), .inl .dup2, .inl .iaload, .inl (.iload 7), .inl .iadd, .inl .iastore, .inl (.iload 4), .inl (.iload 7), .inl .iadd, .inl (.istore 4), .inl (.iinc 6 1), .inl (.goto (.ofNat 46)), .inl (.iload 4), .inl .ireturn]
def pb_X6_runs : List Nat := [0, 1, 2, 3, 6, 8, 11, 12, 13, 14, 15, 16, 17, 20, 23, 24, 25, 26, 27, 28, 29, 30, 31, 32, 35, 36, 37, 38, 39, 40, 43, 44, 45, 47, 48, 51, 52, 55, 56, 59, 61, 62, 63, 64, 66, 67, 69, 69, 71, 72, 75, 78, 79, 81, 82, 83, 84, 85, 88, 89, 91, 92, 95, 97, 98, 99, 100, 102, 105, 106, 109, 110, 113, 114, 117, 119, 122, 123, 126, 128, 129, 130, 132, 133, 134, 136, 138, 139, 141, 144, 147, 149]
def cd_X6_watches : List (Instr ⊕ Value) := [.inl (.aload 0), .inl (.iload 1), .inl (.invokevirtual 144), .inl (.istore 2), .inl (.aload 0), .inl (.getfield 193), .inr (.int 42), .inl .iaload, .inl (.iload 2), .inl (.aload 0), .inl (.getfield 193), .inr (.int 40), .inl .iaload, .inl .iand, .inl (.invokestatic 139), .inl .imul, .inl (.istore 3), .inr (.int 0), .inl (.istore 4), .inr (.int 0), .inl (.istore 5), .inl .nop, .inl (.iload 5), .inl (.aload 0), .inl (.getfield 195), .inl (.if_icmp .ge (.ofNat 48)), .inl (.iload 2), .inl (.iload 5), .inl .ishr, .inr (.int 1), .inl .iand, .inr (.int 1), .inl (.if_icmp .ne (.ofNat 46)), .inl (.aload 0), .inl (.iload 5), .inl (.iload 3), .inl (.invokevirtual 165), .inl (.istore 6), .inl (.iload 3), .inl (.iload 6), .inl .isub, .inl (.istore 3), .inl (.iload 4), .inl (.iload 6), .inl .iadd, .inl (.istore 4), .inl (.iinc 5 1), .inl (.goto (.ofNat 21)), .inl (.iload 4), .inl .ireturn]
def pb_X6_watches : List Nat := [0, 1, 2, 5, 6, 7, 10, 12, 13, 14, 15, 18, 20, 21, 22, 25, 26, 27, 28, 30, 31, 33, 33, 35, 36, 39, 42, 43, 45, 46, 47, 48, 49, 52, 53, 55, 56, 59, 61, 62, 64, 65, 66, 68, 70, 71, 73, 76, 79, 81]
def cd_X6_yearGoes : List (Instr ⊕ Value) := [.inr (.int 0), .inl (.istore 2), .inr (.int 0), .inl (.istore 3), .inl .nop, .inl (.iload 3), .inr (.int 8), .inl (.if_icmp .ge (.ofNat 15)), .inl (.aload 0), .inl (.getfield 211), .inl (.iload 3), .inr (.int 0), .inl .iastore, .inl (.iinc 3 1), .inl (.goto (.ofNat 4)), .inr (.int 0), .inl (.istore 3), .inl .nop, .inl (.iload 3), .inl (.aload 0), .inl (.getfield 195), .inl (.if_icmp .ge (.ofNat 39)), .inl (.iload 2), .inl (.iload 1), .inl (.iload 3), .inl .ishr, .inr (.int 1), .inl .iand, .inr (.int 1), .inl (.if_icmp .ne (.ofNat 34)), .inl (.aload 0), .inl (.iload 3), .inl (.invokevirtual 166), .inl (.goto (.ofNat 35)), .inr (.int 0), .inl .iadd, .inl (.istore 2), .inl (.iinc 3 1), .inl (.goto (.ofNat 17)), .inr (.int 0), .inl (.istore 3), .inl .nop, .inl (.iload 3), .inr (.int 4), .inl (.if_icmp .ge (.ofNat 53)), .inl (.iload 2), .inl (.aload 0), .inl (.iload 3), .inl (.invokevirtual 167), .inl .iadd, .inl (.istore 2), .inl (.iinc 3 1), .inl (.goto (.ofNat 41)), .inl (.aload 0), .inl (.getfield 193), .inr (.int 43), .inl .dup2, .inl .iaload, .inr (.int 1), .inl .iadd, .inl .iastore, .inl (.iload 2), .inl .ireturn]
def pb_X6_yearGoes : List Nat := [0, 1, 2, 3, 4, 4, 5, 7, 10, 11, 14, 15, 16, 17, 20, 23, 24, 25, 25, 26, 27, 30, 33, 34, 35, 36, 37, 38, 39, 40, 43, 44, 45, 48, 51, 52, 53, 54, 57, 60, 61, 62, 62, 63, 64, 67, 68, 69, 70, 73, 74, 75, 78, 81, 82, 85, 87, 88, 89, 90, 91, 92, 93]
def cd_X6_saints : List (Instr ⊕ Value) := [.inr (.int 0), .inl (.istore 1), .inr (.int 0), .inl (.istore 2), .inl .nop, .inl (.iload 2), .inl (.aload 0), .inl (.getfield 195), .inl (.if_icmp .ge (.ofNat 30)), .inl (.iload 1), .inl (.aload 0), .inl (.getfield 192), .inr (.int 5), .inl (.iload 2), .inl .imul, .inr (.int 0), .inl .iadd, .inl .iaload, .inr (.int 2), .inl (.if_icmp .ne (.ofNat 22)), .inr (.int 1), .inl (.goto (.ofNat 23)), .inr (.int 0), .inl (.invokestatic 115), .inl (.iload 2), .inl .ishl, .inl .ior, .inl (.istore 1), .inl (.iinc 2 1), .inl (.goto (.ofNat 4)), .inl (.iload 1), .inl .ireturn]
def pb_X6_saints : List Nat := [0, 1, 2, 3, 4, 4, 5, 6, 9, 12, 13, 14, 17, 18, 19, 20, 21, 22, 23, 24, 27, 28, 31, 32, 35, 36, 37, 38, 39, 42, 45, 46]
def cd_X6_isWrong : List (Instr ⊕ Value) := [.inl (.iload 1), .inl .i2l, .inr (.long 0), .inr (.int 1), .inl (.aload 0), .inl (.getfield 195), .inl .ishl, .inr (.int 1), .inl .isub, .inl .i2l, .inl (.invokestatic 114), .inl (.ifCond .eq (.ofNat 19)), .inl (.iload 1), .inl (.aload 0), .inl (.invokevirtual 169), .inl .iand, .inl (.ifCond .ne (.ofNat 19)), .inr (.int 1), .inl (.goto (.ofNat 20)), .inr (.int 0), .inl (.ret 0)]
def pb_X6_isWrong : List Nat := [0, 1, 2, 3, 4, 5, 8, 9, 10, 11, 12, 15, 18, 19, 20, 23, 24, 27, 28, 31, 32]
def cd_X6_year : List (Instr ⊕ Value) := [.inl (.aload 0), .inl (.iload 1), .inl (.invokevirtual 170), .inl (.ifCond .ne (.ofNat 6)), .inr (.int (-1)), .inl .ireturn, .inl (.aload 0), .inl (.getfield 192), .inr (.int 43), .inl .iaload, .inr (.int 99), .inl (.if_icmp .ne (.ofNat 14)), .inr (.int (-3)), .inl .ireturn, .inl (.aload 0), .inl (.invokevirtual 140), .inl (.aload 0), .inl (.iload 1), .inl (.invokevirtual 168), .inl (.istore 2), .inl (.aload 0), .inl (.invokevirtual 141), .inl (.iload 2), .inl .ireturn]
def pb_X6_year : List Nat := [0, 1, 2, 5, 8, 9, 10, 11, 14, 16, 17, 19, 22, 24, 25, 26, 29, 30, 31, 34, 35, 36, 39, 40]
def cd_X6_pays : List (Instr ⊕ Value) := [.inl (.aload 0), .inl (.iload 1), .inl (.invokevirtual 136), .inl (.ifCond .eq (.ofNat 8)), .inl (.aload 0), .inl (.iload 2), .inl (.invokevirtual 170), .inl (.ifCond .ne (.ofNat 10)), .inr (.int (-1)), .inl .ireturn, .inl (.aload 0), .inl (.invokevirtual 140), .inl (.aload 0), .inl (.iload 2), .inl (.invokevirtual 168), .inl .pop, .inl (.aload 0), .inl (.getfield 211), .inl (.iload 1), .inl .iaload, .inl .ireturn]
def pb_X6_pays : List Nat := [0, 1, 2, 5, 8, 9, 10, 13, 16, 17, 18, 19, 22, 23, 24, 27, 28, 29, 32, 33, 34]
def cd_X6_harm : List (Instr ⊕ Value) := [.inl (.aload 0), .inl (.invokevirtual 140), .inl (.aload 0), .inl (.invokevirtual 148), .inl .ireturn]
def pb_X6_harm : List Nat := [0, 1, 4, 5, 8]
def cd_X6_common : List (Instr ⊕ Value) := [.inl (.lload 0), .inl (.lstore 4), .inl (.lload 2), .inl (.lstore 6), .inl .nop, .inl (.lload 6), .inr (.long 0), .inl .lcmp, .inl (.ifCond .eq (.ofNat 18)), .inl (.lload 4), .inl (.lload 6), .inl .lrem, .inl (.lstore 8), .inl (.lload 6), .inl (.lstore 4), .inl (.lload 8), .inl (.lstore 6), .inl (.goto (.ofNat 4)), .inl (.lload 4), .inl .lreturn]
def pb_X6_common : List Nat := [0, 1, 3, 4, 6, 6, 8, 9, 10, 13, 15, 17, 18, 20, 22, 24, 26, 28, 31, 33]
def cd_X6_told : List (Instr ⊕ Value) := [.inl (.lload 2), .inl (.lload 0), .inl (.invokestatic 174), .inl (.lstore 5), .inl (.iload 4), .inl (.ifCond .ne (.ofNat 10)), .inl (.lload 0), .inl (.lload 5), .inl .ldiv, .inl (.goto (.ofNat 13)), .inl (.lload 2), .inl (.lload 5), .inl .ldiv, .inl .lreturn]
def pb_X6_told : List Nat := [0, 1, 2, 5, 7, 9, 12, 13, 15, 16, 19, 20, 22, 23]
def cd_X6_calm : List (Instr ⊕ Value) := [.inl (.iload 1), .inl (.invokestatic 137), .inl (.ifCond .eq (.ofNat 6)), .inl (.iload 2), .inl (.invokestatic 138), .inl (.ifCond .ne (.ofNat 8)), .inr (.long (-1)), .inl .lreturn, .inr (.long 1), .inl (.lstore 3), .inr (.long 1), .inl (.lstore 5), .inl (.aload 0), .inl (.invokevirtual 140), .inr (.int 0), .inl (.istore 7), .inl .nop, .inl (.iload 7), .inl (.aload 0), .inl (.getfield 195), .inl (.if_icmp .ge (.ofNat 54)), .inl (.aload 0), .inl (.iload 7), .inr (.int 3), .inl (.invokevirtual 142), .inl (.iload 1), .inl (.if_icmp .ne (.ofNat 29)), .inr (.int 1), .inl (.goto (.ofNat 30)), .inr (.int 0), .inl (.istore 8), .inl (.lload 3), .inl (.iload 8), .inl (.ifCond .eq (.ofNat 41)), .inr (.int 10), .inl (.aload 0), .inl (.iload 7), .inl (.invokevirtual 146), .inl .isub, .inl .i2l, .inl (.goto (.ofNat 42)), .inr (.long 1), .inl .lmul, .inl (.lstore 3), .inl (.lload 5), .inl (.iload 8), .inl (.ifCond .eq (.ofNat 49)), .inr (.long 10), .inl (.goto (.ofNat 50)), .inr (.long 1), .inl .lmul, .inl (.lstore 5), .inl (.iinc 7 1), .inl (.goto (.ofNat 16)), .inl (.lload 3), .inl (.lload 5), .inl (.iload 2), .inl (.invokestatic 175), .inl .lreturn]
def pb_X6_calm : List Nat := [0, 1, 4, 7, 8, 11, 14, 17, 18, 19, 20, 21, 23, 24, 27, 28, 30, 30, 32, 33, 36, 39, 40, 42, 43, 46, 47, 50, 51, 54, 55, 57, 58, 60, 63, 65, 66, 68, 71, 72, 73, 76, 77, 78, 79, 81, 83, 86, 89, 92, 93, 94, 96, 99, 102, 103, 105, 106, 109]
def cd_X6_findOdds : List (Instr ⊕ Value) := [.inl (.aload 0), .inl (.invokevirtual 140), .inr (.int 0), .inl (.istore 1), .inl .nop, .inl (.iload 1), .inl (.aload 0), .inl (.getfield 195), .inl (.if_icmp .ge (.ofNat 18)), .inl (.aload 0), .inl (.getfield 212), .inl (.iload 1), .inl (.aload 0), .inl (.iload 1), .inl (.invokevirtual 146), .inl .iastore, .inl (.iinc 1 1), .inl (.goto (.ofNat 4)), .inl .return_]
def pb_X6_findOdds : List Nat := [0, 1, 4, 5, 6, 6, 7, 8, 11, 14, 15, 18, 19, 20, 21, 24, 25, 28, 31]
def cd_X6_mean : List (Instr ⊕ Value) := [.inl (.aload 0), .inl (.iload 1), .inl (.invokevirtual 136), .inl (.ifCond .eq (.ofNat 7)), .inl (.iload 2), .inl (.invokestatic 138), .inl (.ifCond .ne (.ofNat 9)), .inr (.long (-1)), .inl .lreturn, .inr (.long 0), .inl (.lstore 3), .inr (.long 1), .inl (.lstore 5), .inl (.aload 0), .inl (.invokevirtual 177), .inr (.int 0), .inl (.istore 7), .inl .nop, .inl (.iload 7), .inl (.aload 0), .inl (.getfield 195), .inl (.if_icmp .ge (.ofNat 28)), .inl (.lload 5), .inr (.long 10), .inl .lmul, .inl (.lstore 5), .inl (.iinc 7 1), .inl (.goto (.ofNat 17)), .inr (.int 0), .inl (.istore 7), .inl .nop, .inl (.iload 7), .inr (.int 1), .inl (.aload 0), .inl (.getfield 195), .inl .ishl, .inl (.if_icmp .ge (.ofNat 89)), .inr (.long 1), .inl (.lstore 8), .inr (.int 0), .inl (.istore 10), .inl .nop, .inl (.iload 10), .inl (.aload 0), .inl (.getfield 195), .inl (.if_icmp .ge (.ofNat 71)), .inl (.lload 8), .inl (.iload 7), .inl (.iload 10), .inl .ishr, .inr (.int 1), .inl .iand, .inr (.int 1), .inl (.if_icmp .ne (.ofNat 60)), .inl (.aload 0), .inl (.getfield 212), .inl (.iload 10), .inl .iaload, .inl .i2l, .inl (.goto (.ofNat 67)), .inr (.int 10), .inl (.aload 0), .inl (.getfield 212), .inl (.iload 10), .inl .iaload, .inl .isub, .inl .i2l, .inl .lmul, .inl (.lstore 8), .inl (.iinc 10 1), .inl (.goto (.ofNat 41)), .inl (.aload 0), .inl (.invokevirtual 140), .inl (.aload 0), .inl (.iload 7), .inl (.invokevirtual 168), .inl .pop, .inl (.lload 3), .inl (.lload 8), .inl (.aload 0), .inl (.getfield 211), .inl (.iload 1), .inl .iaload, .inl .i2l, .inl .lmul, .inl .ladd, .inl (.lstore 3), .inl (.iinc 7 1), .inl (.goto (.ofNat 30)), .inl (.lload 3), .inl (.lload 5), .inl (.iload 2), .inl (.invokestatic 175), .inl .lreturn]
def pb_X6_mean : List Nat := [0, 1, 2, 5, 8, 9, 12, 15, 18, 19, 20, 21, 22, 24, 25, 28, 29, 31, 31, 33, 34, 37, 40, 42, 45, 46, 48, 51, 54, 55, 57, 57, 59, 60, 61, 64, 65, 68, 69, 71, 72, 74, 74, 76, 77, 80, 83, 85, 87, 89, 90, 91, 92, 93, 96, 97, 100, 102, 103, 104, 107, 109, 110, 113, 115, 116, 117, 118, 119, 121, 124, 127, 128, 131, 132, 134, 137, 138, 139, 141, 142, 145, 146, 147, 148, 149, 150, 151, 154, 157, 158, 160, 161, 164]
def cd_X6_puttings : List (Instr ⊕ Value) := [.inr (.int 1), .inl (.istore 1), .inr (.int 0), .inl (.istore 2), .inl .nop, .inl (.iload 2), .inl (.aload 0), .inl (.getfield 195), .inl (.if_icmp .ge (.ofNat 21)), .inl (.iload 1), .inl (.aload 0), .inl (.iload 2), .inl (.invokevirtual 154), .inl (.ifCond .eq (.ofNat 16)), .inr (.int 1), .inl (.goto (.ofNat 17)), .inr (.int 4), .inl .imul, .inl (.istore 1), .inl (.iinc 2 1), .inl (.goto (.ofNat 4)), .inl (.iload 1), .inl .ireturn]
def pb_X6_puttings : List Nat := [0, 1, 2, 3, 4, 4, 5, 6, 9, 12, 13, 14, 15, 18, 21, 22, 25, 26, 27, 28, 31, 34, 35]
def cd_X6_putsBy : List (Instr ⊕ Value) := [.inl (.iload 1), .inl (.istore 2), .inr (.int 1), .inl (.istore 3), .inl (.aload 0), .inl (.invokevirtual 140), .inl (.aload 0), .inl (.getfield 195), .inr (.int 1), .inl .isub, .inl (.istore 4), .inl .nop, .inl (.iload 4), .inl (.ifCond .lt (.ofNat 31)), .inl (.aload 0), .inl (.iload 4), .inl (.invokevirtual 154), .inl (.ifCond .ne (.ofNat 29)), .inl (.aload 0), .inl (.iload 4), .inr (.int 3), .inl (.iload 2), .inr (.int 4), .inl .irem, .inl (.invokevirtual 143), .inl (.iload 2), .inr (.int 4), .inl .idiv, .inl (.istore 2), .inl (.iinc 4 (-1)), .inl (.goto (.ofNat 11)), .inr (.int 0), .inl (.istore 4), .inl .nop, .inl (.iload 4), .inr (.int 4), .inl (.if_icmp .ge (.ofNat 54)), .inl (.iload 3), .inl (.ifCond .eq (.ofNat 50)), .inl (.aload 0), .inl (.iload 4), .inl (.invokevirtual 144), .inl (.invokestatic 139), .inl (.aload 0), .inl (.getfield 196), .inl (.iload 4), .inl .iaload, .inl (.if_icmp .gt (.ofNat 50)), .inr (.int 1), .inl (.goto (.ofNat 51)), .inr (.int 0), .inl (.istore 3), .inl (.iinc 4 1), .inl (.goto (.ofNat 33)), .inl (.iload 3), .inl (.ret 0)]
def pb_X6_putsBy : List Nat := [0, 1, 2, 3, 4, 5, 8, 9, 12, 13, 14, 16, 16, 18, 21, 22, 24, 27, 30, 31, 33, 34, 35, 36, 37, 40, 41, 42, 43, 44, 47, 50, 51, 53, 53, 55, 56, 59, 60, 63, 64, 66, 69, 72, 73, 76, 78, 79, 82, 83, 86, 87, 88, 91, 94, 95]
def cd_X6_best : List (Instr ⊕ Value) := [.inl (.iload 1), .inl (.ifCond .eq (.ofNat 10)), .inl (.aload 0), .inl (.iload 1), .inr (.int 10), .inl .isub, .inl (.invokevirtual 136), .inl (.ifCond .ne (.ofNat 10)), .inr (.int (-1)), .inl .ireturn, .inr (.int 1000000000), .inl (.istore 2), .inr (.int 0), .inl (.istore 3), .inr (.int 0), .inl (.istore 4), .inl .nop, .inl (.iload 4), .inl (.aload 0), .inl (.invokevirtual 179), .inl (.if_icmp .ge (.ofNat 46)), .inl (.aload 0), .inl (.iload 4), .inl (.invokevirtual 180), .inl (.ifCond .eq (.ofNat 28)), .inl (.aload 0), .inl (.invokevirtual 148), .inl (.goto (.ofNat 29)), .inr (.int 1000000000), .inl (.istore 5), .inl (.iload 5), .inl (.iload 2), .inl (.if_icmp .ge (.ofNat 35)), .inl (.iload 4), .inl (.goto (.ofNat 36)), .inl (.iload 3), .inl (.istore 3), .inl (.iload 5), .inl (.iload 2), .inl (.if_icmp .ge (.ofNat 42)), .inl (.iload 5), .inl (.goto (.ofNat 43)), .inl (.iload 2), .inl (.istore 2), .inl (.iinc 4 1), .inl (.goto (.ofNat 16)), .inl (.aload 0), .inl (.iload 3), .inl (.invokevirtual 180), .inl .pop, .inl (.iload 1), .inl (.ifCond .ne (.ofNat 54)), .inl (.iload 2), .inl (.goto (.ofNat 60)), .inl (.aload 0), .inl (.iload 1), .inr (.int 10), .inl .isub, .inr (.int 3), .inl (.invokevirtual 142), .inl .ireturn]
def pb_X6_best : List Nat := [0, 1, 4, 5, 6, 8, 9, 12, 15, 16, 17, 20, 21, 22, 23, 24, 26, 26, 28, 29, 32, 35, 36, 38, 41, 44, 45, 48, 51, 54, 56, 58, 59, 62, 64, 67, 68, 69, 71, 72, 75, 77, 80, 81, 82, 85, 88, 89, 90, 93, 94, 95, 98, 99, 102, 103, 104, 106, 107, 108, 111]
def cd_X6_change : List (Instr ⊕ Value) := [.inl (.iload 1), .inl (.invokestatic 138), .inl (.ifCond .ne (.ofNat 5)), .inr (.int (-1)), .inl .ireturn, .inl (.aload 0), .inl (.invokevirtual 173), .inl (.istore 2), .inr (.int (-4)), .inl (.istore 3), .inr (.int 0), .inl (.istore 4), .inl .nop, .inl (.iload 4), .inl (.aload 0), .inl (.getfield 195), .inl (.if_icmp .ge (.ofNat 82)), .inl (.iload 4), .inr (.int 1), .inl .iadd, .inl (.istore 5), .inl .nop, .inl (.iload 5), .inl (.aload 0), .inl (.getfield 195), .inl (.if_icmp .ge (.ofNat 80)), .inl (.aload 0), .inl (.invokevirtual 140), .inl (.aload 0), .inl (.iload 4), .inr (.int 3), .inl (.invokevirtual 142), .inl (.istore 6), .inl (.aload 0), .inl (.iload 5), .inr (.int 3), .inl (.invokevirtual 142), .inl (.istore 7), .inl (.iload 6), .inr (.int (-4)), .inl (.if_icmp .eq (.ofNat 78)), .inl (.iload 7), .inr (.int (-4)), .inl (.if_icmp .eq (.ofNat 78)), .inl (.iload 6), .inl (.iload 7), .inl (.if_icmp .eq (.ofNat 78)), .inl (.aload 0), .inl (.iload 4), .inr (.int 3), .inl (.iload 7), .inl (.invokevirtual 143), .inl (.aload 0), .inl (.iload 5), .inr (.int 3), .inl (.iload 6), .inl (.invokevirtual 143), .inl (.aload 0), .inl (.invokevirtual 148), .inl (.istore 8), .inl (.iload 8), .inl (.iload 2), .inl (.if_icmp .ge (.ofNat 69)), .inr (.int 10), .inl (.iload 4), .inl .imul, .inl (.iload 5), .inl .iadd, .inl (.goto (.ofNat 70)), .inl (.iload 3), .inl (.istore 3), .inl (.iload 8), .inl (.iload 2), .inl (.if_icmp .ge (.ofNat 76)), .inl (.iload 8), .inl (.goto (.ofNat 77)), .inl (.iload 2), .inl (.istore 2), .inl (.iinc 5 1), .inl (.goto (.ofNat 21)), .inl (.iinc 4 1), .inl (.goto (.ofNat 12)), .inl (.iload 3), .inr (.int (-4)), .inl (.if_icmp .ne (.ofNat 87)), .inr (.int (-4)), .inl (.goto (.ofNat 92)), .inl (.iload 1), .inl (.ifCond .ne (.ofNat 91)), .inl (.iload 3), .inl (.goto (.ofNat 92)), .inl (.iload 2), .inl .ireturn]
def pb_X6_change : List Nat := [0, 1, 4, 7, 8, 9, 10, 13, 14, 16, 17, 18, 20, 20, 22, 23, 26, 29, 31, 32, 33, 35, 35, 37, 38, 41, 44, 45, 48, 49, 51, 52, 55, 57, 58, 60, 61, 64, 66, 68, 70, 73, 75, 77, 80, 82, 84, 87, 88, 90, 91, 93, 96, 97, 99, 100, 102, 105, 106, 109, 111, 113, 114, 117, 119, 121, 122, 124, 125, 128, 129, 130, 132, 133, 136, 138, 141, 142, 143, 146, 149, 152, 155, 156, 158, 161, 163, 166, 167, 170, 171, 174, 175]
def cd_X6_takes : List (Instr ⊕ Value) := [.inl (.aload 0), .inl (.iload 1), .inl (.invokevirtual 136), .inl (.ifCond .ne (.ofNat 6)), .inr (.int (-1)), .inl .ireturn, .inr (.int 10), .inl (.aload 0), .inl (.getfield 192), .inr (.int 41), .inl .iaload, .inl .imul, .inl (.istore 2), .inr (.int (-4)), .inl (.istore 3), .inr (.int 0), .inl (.istore 4), .inl .nop, .inl (.iload 4), .inr (.int 4), .inl (.if_icmp .ge (.ofNat 76)), .inl (.aload 0), .inl (.getfield 192), .inr (.int 5), .inl (.iload 1), .inl .imul, .inr (.int 3), .inl .iadd, .inl .iaload, .inl (.iload 4), .inl (.if_icmp .eq (.ofNat 74)), .inl (.aload 0), .inl (.iload 4), .inl (.invokevirtual 155), .inl (.ifCond .ne (.ofNat 74)), .inl (.aload 0), .inl (.invokevirtual 140), .inl (.aload 0), .inl (.iload 1), .inr (.int 0), .inl (.aload 0), .inl (.iload 1), .inl (.invokevirtual 154), .inl (.ifCond .eq (.ofNat 46)), .inr (.int 0), .inl (.goto (.ofNat 50)), .inl (.aload 0), .inl (.iload 1), .inr (.int 0), .inl (.invokevirtual 142), .inl (.invokevirtual 143), .inl (.aload 0), .inl (.iload 1), .inr (.int 3), .inl (.iload 4), .inl (.invokevirtual 143), .inl (.aload 0), .inl (.iload 4), .inl (.invokevirtual 147), .inl (.istore 5), .inl (.iload 5), .inl (.iload 2), .inl (.if_icmp .ge (.ofNat 65)), .inl (.iload 4), .inl (.goto (.ofNat 66)), .inl (.iload 3), .inl (.istore 3), .inl (.iload 5), .inl (.iload 2), .inl (.if_icmp .ge (.ofNat 72)), .inl (.iload 5), .inl (.goto (.ofNat 73)), .inl (.iload 2), .inl (.istore 2), .inl (.iinc 4 1), .inl (.goto (.ofNat 17)), .inl (.iload 3), .inl .ireturn]
def pb_X6_takes : List Nat := [0, 1, 2, 5, 8, 9, 10, 12, 13, 16, 18, 19, 20, 21, 23, 24, 25, 27, 27, 29, 30, 33, 34, 37, 38, 39, 40, 41, 42, 43, 45, 48, 49, 51, 54, 57, 58, 61, 62, 63, 64, 65, 66, 69, 72, 73, 76, 77, 78, 79, 82, 85, 86, 87, 88, 90, 93, 94, 96, 99, 101, 103, 104, 107, 109, 112, 113, 114, 116, 117, 120, 122, 125, 126, 127, 130, 133, 134]
def cd_X6_goesAway : List (Instr ⊕ Value) := [.inl (.aload 0), .inl (.iload 1), .inr (.int 3), .inr (.int (-4)), .inl (.invokevirtual 143), .inl (.aload 0), .inl (.iload 1), .inr (.int 0), .inr (.int 3), .inl (.invokevirtual 143), .inl (.aload 0), .inl (.getfield 193), .inr (.int 40), .inl .dup2, .inl .iaload, .inr (.int 1), .inl (.iload 1), .inl .ishl, .inr (.int (-1)), .inl .ixor, .inl .iand, .inl .iastore, .inl .return_]
def pb_X6_goesAway : List Nat := [0, 1, 2, 3, 5, 8, 9, 10, 11, 12, 15, 16, 19, 21, 22, 23, 24, 25, 26, 27, 28, 29, 30]
def cd_X6_weight : List (Instr ⊕ Value) := [.inl (.aload 0), .inl (.iload 1), .inl (.invokevirtual 136), .inl (.ifCond .ne (.ofNat 6)), .inr (.int (-1)), .inl .ireturn, .inl (.aload 0), .inl (.iload 1), .inl (.invokevirtual 154), .inl (.ifCond .eq (.ofNat 12)), .inr (.int (-2)), .inl .ireturn, .inl (.aload 0), .inl (.invokevirtual 140), .inl (.aload 0), .inl (.iload 1), .inr (.int 3), .inl (.invokevirtual 142), .inl (.istore 2), .inl (.aload 0), .inl (.iload 2), .inl (.invokevirtual 147), .inl (.istore 3), .inl (.aload 0), .inl (.iload 1), .inl (.invokevirtual 184), .inr (.int 1000), .inl (.iload 3), .inl .iadd, .inl (.aload 0), .inl (.iload 2), .inl (.invokevirtual 147), .inl .isub, .inl .ireturn]
def pb_X6_weight : List Nat := [0, 1, 2, 5, 8, 9, 10, 11, 12, 15, 18, 20, 21, 22, 25, 26, 27, 28, 31, 32, 33, 34, 37, 38, 39, 40, 43, 46, 47, 48, 49, 50, 53, 54]
def cd_X6_should : List (Instr ⊕ Value) := [.inl (.aload 0), .inl (.iload 1), .inl (.invokevirtual 136), .inl (.ifCond .ne (.ofNat 6)), .inr (.int (-1)), .inl .ireturn, .inl (.aload 0), .inl (.iload 1), .inl (.invokevirtual 154), .inl (.ifCond .eq (.ofNat 12)), .inr (.int (-2)), .inl .ireturn, .inl (.aload 0), .inl (.invokevirtual 173), .inl (.istore 2), .inr (.int 0), .inl (.istore 3), .inl (.aload 0), .inl (.getfield 193), .inr (.int 40), .inl .dup2, .inl .iaload, .inr (.int 1), .inl (.iload 1), .inl .ishl, .inl .ixor, .inl .iastore, .inl (.aload 0), .inl (.invokevirtual 148), .inl (.iload 2), .inl (.if_icmp .ge (.ofNat 36)), .inr (.int 1), .inl (.istore 3), .inl (.aload 0), .inl (.invokevirtual 148), .inl (.istore 2), .inl (.aload 0), .inl (.invokevirtual 140), .inl (.aload 0), .inl (.iload 1), .inl (.invokevirtual 184), .inl (.aload 0), .inl (.invokevirtual 148), .inl (.iload 2), .inl (.if_icmp .ge (.ofNat 47)), .inr (.int 2), .inl (.goto (.ofNat 48)), .inl (.iload 3), .inl .ireturn]
def pb_X6_should : List Nat := [0, 1, 2, 5, 8, 9, 10, 11, 12, 15, 18, 20, 21, 22, 25, 26, 27, 28, 29, 32, 34, 35, 36, 37, 38, 39, 40, 41, 42, 45, 46, 49, 50, 51, 52, 55, 56, 57, 60, 61, 62, 65, 66, 69, 70, 73, 74, 77, 78]
def cd_X6_guard : List (Instr ⊕ Value) := [.inl (.iload 1), .inl (.invokestatic 138), .inl (.ifCond .ne (.ofNat 5)), .inr (.int (-1)), .inl .ireturn, .inr (.int 1000000000), .inl (.istore 2), .inr (.int 0), .inl (.istore 3), .inr (.int 0), .inl (.istore 4), .inl .nop, .inl (.iload 4), .inr (.int 1), .inl (.aload 0), .inl (.getfield 195), .inl .ishl, .inl (.if_icmp .ge (.ofNat 55)), .inl (.iload 4), .inl (.aload 0), .inr (.int 5), .inl (.invokevirtual 150), .inl .iand, .inl (.ifCond .ne (.ofNat 53)), .inl (.aload 0), .inl (.invokevirtual 140), .inl (.aload 0), .inl (.getfield 193), .inr (.int 40), .inl (.iload 4), .inl .iastore, .inr (.int 10), .inl (.aload 0), .inl (.invokevirtual 148), .inl .imul, .inl (.iload 4), .inl (.invokestatic 139), .inl .iadd, .inl (.istore 5), .inl (.iload 5), .inl (.iload 2), .inl (.if_icmp .ge (.ofNat 44)), .inl (.iload 4), .inl (.goto (.ofNat 45)), .inl (.iload 3), .inl (.istore 3), .inl (.iload 5), .inl (.iload 2), .inl (.if_icmp .ge (.ofNat 51)), .inl (.iload 5), .inl (.goto (.ofNat 52)), .inl (.iload 2), .inl (.istore 2), .inl (.iinc 4 1), .inl (.goto (.ofNat 11)), .inl (.iload 1), .inl (.ifCond .ne (.ofNat 59)), .inl (.iload 3), .inl (.goto (.ofNat 62)), .inl (.iload 2), .inr (.int 10), .inl .idiv, .inl .ireturn]
def pb_X6_guard : List Nat := [0, 1, 4, 7, 8, 9, 12, 13, 14, 15, 16, 18, 18, 20, 21, 22, 25, 26, 29, 31, 32, 33, 36, 37, 40, 41, 44, 45, 48, 50, 52, 53, 55, 56, 59, 60, 62, 65, 66, 68, 70, 71, 74, 76, 79, 80, 81, 83, 84, 87, 89, 92, 93, 94, 97, 100, 101, 104, 105, 108, 109, 111, 112]
def cd_X6_worth : List (Instr ⊕ Value) := [.inl (.aload 0), .inl (.iload 1), .inl (.invokevirtual 136), .inl (.ifCond .ne (.ofNat 6)), .inr (.int (-1)), .inl .ireturn, .inl (.aload 0), .inl (.iload 1), .inl (.invokevirtual 154), .inl (.ifCond .eq (.ofNat 12)), .inr (.int (-2)), .inl .ireturn, .inr (.int 9), .inl (.istore 2), .inl .nop, .inl (.iload 2), .inl (.ifCond .lt (.ofNat 65)), .inl (.aload 0), .inl (.invokevirtual 140), .inl (.aload 0), .inl (.getfield 193), .inr (.int 42), .inl (.iload 2), .inl .iastore, .inl (.aload 0), .inl (.getfield 193), .inr (.int 40), .inl .dup2, .inl .iaload, .inr (.int 1), .inl (.iload 1), .inl .ishl, .inl .ior, .inl .iastore, .inl (.aload 0), .inl (.aload 0), .inl (.iload 1), .inr (.int 3), .inl (.invokevirtual 142), .inl (.invokevirtual 147), .inl (.istore 3), .inl (.aload 0), .inl (.getfield 193), .inr (.int 40), .inl .dup2, .inl .iaload, .inr (.int 1), .inl (.iload 1), .inl .ishl, .inr (.int (-1)), .inl .ixor, .inl .iand, .inl .iastore, .inl (.iload 3), .inl (.aload 0), .inl (.aload 0), .inl (.iload 1), .inr (.int 3), .inl (.invokevirtual 142), .inl (.invokevirtual 147), .inl (.if_icmp .ge (.ofNat 63)), .inl (.iload 2), .inl .ireturn, .inl (.iinc 2 (-1)), .inl (.goto (.ofNat 14)), .inr (.int (-4)), .inl .ireturn]
def pb_X6_worth : List Nat := [0, 1, 2, 5, 8, 9, 10, 11, 12, 15, 18, 20, 21, 23, 24, 24, 25, 28, 29, 32, 33, 36, 38, 39, 40, 41, 44, 46, 47, 48, 49, 50, 51, 52, 53, 54, 55, 56, 57, 60, 63, 64, 65, 68, 70, 71, 72, 73, 74, 75, 76, 77, 78, 79, 80, 81, 82, 83, 84, 87, 90, 93, 94, 95, 98, 101, 103]
def cd_X6_see : List (Instr ⊕ Value) := [.inl (.aload 0), .inl (.iload 1), .inl (.invokevirtual 136), .inl (.ifCond .eq (.ofNat 10)), .inl (.iload 2), .inl .i2l, .inr (.long 0), .inr (.long 99), .inl (.invokestatic 114), .inl (.ifCond .ne (.ofNat 12)), .inr (.int (-1)), .inl .ireturn, .inl (.aload 0), .inl (.getfield 192), .inr (.int 44), .inl .iaload, .inr (.int 6), .inl (.if_icmp .ne (.ofNat 20)), .inr (.int (-3)), .inl .ireturn, .inl (.aload 0), .inl (.getfield 192), .inr (.int 45), .inr (.int 2), .inl (.aload 0), .inl (.getfield 192), .inr (.int 44), .inl .iaload, .inl .imul, .inl .iadd, .inl (.iload 1), .inl .iastore, .inl (.aload 0), .inl (.getfield 192), .inr (.int 45), .inr (.int 2), .inl (.aload 0), .inl (.getfield 192), .inr (.int 44), .inl .iaload, .inl .imul, .inl .iadd, .inr (.int 1), .inl .iadd, .inl (.iload 2), .inl .iastore, .inl (.aload 0), .inl (.getfield 192), .inr (.int 44), .inl .dup2, .inl .iaload, .inr (.int 1), .inl .iadd, .inl .iastore, .inl (.aload 0), .inl (.getfield 192), .inr (.int 44), .inl .iaload, .inl .ireturn]
def pb_X6_see : List Nat := [0, 1, 2, 5, 8, 9, 10, 11, 14, 17, 20, 21, 22, 23, 26, 28, 29, 31, 34, 36, 37, 38, 41, 43, 44, 45, 48, 50, 51, 52, 53, 54, 55, 56, 59, 61, 62, 63, 66, 68, 69, 70, 71, 72, 73, 74, 75, 76, 79, 81, 82, 83, 84, 85, 86, 87, 90, 92, 93]
def cd_X6_forget : List (Instr ⊕ Value) := [.inl (.iload 1), .inl .i2l, .inr (.long 0), .inl (.aload 0), .inl (.getfield 192), .inr (.int 44), .inl .iaload, .inl .i2l, .inl (.invokestatic 114), .inl (.ifCond .eq (.ofNat 15)), .inl (.aload 0), .inr (.int 44), .inl (.iload 1), .inl (.invokevirtual 153), .inl (.goto (.ofNat 16)), .inr (.int (-1)), .inl .ireturn]
def pb_X6_forget : List Nat := [0, 1, 2, 3, 4, 7, 9, 10, 11, 14, 17, 18, 20, 21, 24, 27, 28]
def cd_X6_isSo : List (Instr ⊕ Value) := [.inl (.aload 0), .inl (.iload 1), .inl (.invokevirtual 170), .inl (.istore 2), .inl (.aload 0), .inl (.invokevirtual 140), .inl (.aload 0), .inl (.iload 1), .inl (.invokevirtual 168), .inl .pop, .inr (.int 0), .inl (.istore 3), .inl .nop, .inl (.iload 3), .inl (.aload 0), .inl (.getfield 192), .inr (.int 44), .inl .iaload, .inl (.if_icmp .ge (.ofNat 60)), .inl (.aload 0), .inl (.getfield 192), .inr (.int 45), .inr (.int 2), .inl (.iload 3), .inl .imul, .inl .iadd, .inl .iaload, .inl (.istore 4), .inl (.iload 2), .inl (.ifCond .eq (.ofNat 56)), .inl (.aload 0), .inl (.getfield 192), .inr (.int 5), .inl (.iload 4), .inl .imul, .inr (.int 2), .inl .iadd, .inl .iaload, .inl (.aload 0), .inl (.iload 4), .inr (.int 2), .inl (.invokevirtual 142), .inl .isub, .inl (.aload 0), .inl (.getfield 192), .inr (.int 45), .inr (.int 2), .inl (.iload 3), .inl .imul, .inl .iadd, .inr (.int 1), .inl .iadd, .inl .iaload, .inl (.if_icmp .ne (.ofNat 56)), .inr (.int 1), .inl (.goto (.ofNat 57)), .inr (.int 0), .inl (.istore 2), .inl (.iinc 3 1), .inl (.goto (.ofNat 12)), .inl (.iload 2), .inl (.ret 0)]
def pb_X6_isSo : List Nat := [0, 1, 2, 5, 6, 7, 10, 11, 12, 15, 16, 17, 18, 18, 19, 20, 23, 25, 26, 29, 30, 33, 35, 36, 37, 38, 39, 40, 42, 43, 46, 47, 50, 51, 53, 54, 55, 56, 57, 58, 60, 61, 64, 65, 66, 69, 71, 72, 73, 74, 75, 76, 77, 78, 81, 82, 85, 86, 87, 90, 93, 94]
def cd_X6_tensOf : List (Instr ⊕ Value) := [.inr (.int 0), .inl (.istore 2), .inr (.int 0), .inl (.istore 3), .inl .nop, .inl (.iload 3), .inl (.aload 0), .inl (.getfield 195), .inl (.if_icmp .ge (.ofNat 43)), .inl (.iload 1), .inl (.iload 3), .inl .ishr, .inr (.int 1), .inl .iand, .inr (.int 1), .inl (.if_icmp .ne (.ofNat 22)), .inl (.aload 0), .inl (.iload 3), .inl (.invokevirtual 154), .inl (.ifCond .ne (.ofNat 22)), .inr (.int 1), .inl (.goto (.ofNat 23)), .inr (.int 0), .inl (.istore 4), .inl (.iload 2), .inl (.iload 4), .inl (.ifCond .eq (.ofNat 38)), .inr (.int 1), .inl (.aload 0), .inl (.getfield 192), .inr (.int 5), .inl (.iload 3), .inl .imul, .inr (.int 3), .inl .iadd, .inl .iaload, .inl .ishl, .inl (.goto (.ofNat 39)), .inr (.int 0), .inl .ior, .inl (.istore 2), .inl (.iinc 3 1), .inl (.goto (.ofNat 4)), .inl (.iload 2), .inl .ireturn]
def pb_X6_tensOf : List Nat := [0, 1, 2, 3, 4, 4, 5, 6, 9, 12, 13, 14, 15, 16, 17, 18, 21, 22, 23, 26, 29, 30, 33, 34, 36, 37, 39, 42, 43, 44, 47, 48, 49, 50, 51, 52, 53, 54, 57, 58, 59, 60, 63, 66, 67]
def cd_X6_fits : List (Instr ⊕ Value) := [.inl (.iload 1), .inl .i2l, .inr (.long 0), .inr (.long 4), .inl (.invokestatic 114), .inl (.ifCond .ne (.ofNat 8)), .inr (.int (-1)), .inl .ireturn, .inr (.int 1), .inl (.aload 0), .inl (.getfield 195), .inl .ishl, .inr (.int 1), .inl .isub, .inl (.istore 2), .inr (.int 0), .inl (.istore 3), .inr (.int (-4)), .inl (.istore 4), .inl (.iload 2), .inl (.istore 5), .inr (.int 0), .inl (.istore 6), .inr (.int 15), .inl (.istore 7), .inr (.int 0), .inl (.istore 8), .inl .nop, .inl (.iload 8), .inl (.iload 2), .inl (.if_icmp .gt (.ofNat 58)), .inl (.aload 0), .inl (.iload 8), .inl (.invokevirtual 191), .inl (.ifCond .eq (.ofNat 56)), .inl (.iload 3), .inl (.ifCond .ne (.ofNat 39)), .inl (.iload 8), .inl (.goto (.ofNat 40)), .inl (.iload 4), .inl (.istore 4), .inl (.iload 5), .inl (.iload 8), .inl .iand, .inl (.istore 5), .inl (.iload 6), .inl (.iload 8), .inl .ior, .inl (.istore 6), .inl (.iload 7), .inl (.aload 0), .inl (.iload 8), .inl (.invokevirtual 192), .inl .iand, .inl (.istore 7), .inl (.iinc 3 1), .inl (.iinc 8 1), .inl (.goto (.ofNat 27)), .inl (.iload 1), .inl (.ifCond .eq (.ofNat 62)), .inl (.iload 3), .inl (.ifCond .ne (.ofNat 68)), .inl (.iload 1), .inl (.ifCond .ne (.ofNat 66)), .inl (.iload 3), .inl (.goto (.ofNat 67)), .inr (.int (-4)), .inl .ireturn, .inl (.iload 1), .inr (.int 1), .inl (.if_icmp .ne (.ofNat 73)), .inl (.iload 4), .inl (.goto (.ofNat 93)), .inl (.iload 1), .inr (.int 2), .inl (.if_icmp .ne (.ofNat 78)), .inl (.iload 5), .inl (.goto (.ofNat 93)), .inl (.iload 1), .inr (.int 3), .inl (.if_icmp .ne (.ofNat 92)), .inl (.iload 2), .inl (.iload 6), .inr (.int (-1)), .inl .ixor, .inl .iand, .inl (.aload 0), .inl (.invokevirtual 169), .inr (.int (-1)), .inl .ixor, .inl .iand, .inl (.goto (.ofNat 93)), .inl (.iload 7), .inl .ireturn]
def pb_X6_fits : List Nat := [0, 1, 2, 3, 6, 9, 12, 13, 14, 15, 16, 19, 20, 21, 22, 23, 24, 25, 27, 29, 30, 32, 33, 35, 37, 39, 40, 42, 42, 44, 45, 48, 49, 51, 54, 57, 58, 61, 63, 66, 68, 70, 72, 74, 75, 77, 79, 81, 82, 84, 86, 87, 89, 92, 93, 95, 98, 101, 104, 105, 108, 109, 112, 113, 116, 117, 120, 122, 123, 124, 125, 128, 130, 133, 134, 135, 138, 140, 143, 144, 145, 148, 149, 151, 152, 153, 154, 155, 158, 159, 160, 161, 164, 166]
def cd_X6_drift : List (Instr ⊕ Value) := [.inl (.iload 2), .inl .i2l, .inr (.long 1), .inr (.long 60), .inl (.invokestatic 114), .inl (.ifCond .eq (.ofNat 9)), .inl (.iload 3), .inl (.invokestatic 138), .inl (.ifCond .ne (.ofNat 11)), .inr (.int (-1)), .inl .ireturn, .inl (.iload 1), .inl (.istore 4), .inr (.int 0), .inl (.istore 5), .inl (.aload 0), .inl (.invokevirtual 177), .inr (.int 0), .inl (.istore 6), .inl .nop, .inl (.iload 6), .inl (.iload 2), .inl (.if_icmp .ge (.ofNat 69)), .inr (.int 0), .inl (.istore 7), .inr (.int 0), .inl (.istore 8), .inl .nop, .inl (.iload 8), .inl (.aload 0), .inl (.getfield 195), .inl (.if_icmp .ge (.ofNat 61)), .inl (.iload 4), .inr (.int 1103515245), .inl .imul, .inr (.int 12345), .inl .iadd, .inl (.istore 4), .inl (.iload 7), .inl (.iload 4), .inr (.int 16), .inl .ishr, .inr (.int 32767), .inl .iand, .inr (.int 10), .inl .irem, .inl (.aload 0), .inl (.getfield 212), .inl (.iload 8), .inl .iaload, .inl (.if_icmp .ge (.ofNat 53)), .inr (.int 1), .inl (.goto (.ofNat 54)), .inr (.int 0), .inl (.invokestatic 115), .inl (.iload 8), .inl .ishl, .inl .ior, .inl (.istore 7), .inl (.iinc 8 1), .inl (.goto (.ofNat 27)), .inl (.iload 5), .inl (.aload 0), .inl (.iload 7), .inl (.invokevirtual 168), .inl .iadd, .inl (.istore 5), .inl (.iinc 6 1), .inl (.goto (.ofNat 19)), .inl (.iload 3), .inl (.ifCond .ne (.ofNat 73)), .inl (.iload 5), .inl (.goto (.ofNat 81)), .inl (.aload 0), .inr (.int 1), .inl (.aload 0), .inl (.getfield 195), .inl .ishl, .inr (.int 1), .inl .isub, .inl (.invokevirtual 149), .inl .ireturn]
def pb_X6_drift : List Nat := [0, 1, 2, 3, 6, 9, 12, 13, 16, 19, 20, 21, 22, 24, 25, 27, 28, 31, 32, 34, 34, 36, 37, 40, 41, 43, 44, 46, 46, 48, 49, 52, 55, 57, 60, 61, 64, 65, 67, 69, 71, 73, 74, 77, 78, 80, 81, 82, 85, 87, 88, 91, 92, 95, 96, 99, 101, 102, 103, 105, 108, 111, 113, 114, 116, 119, 120, 122, 125, 128, 129, 132, 134, 137, 138, 139, 140, 143, 144, 145, 146, 149]
def cd_X6_copies : List (Instr ⊕ Value) := [.inr (.int 0), .inl (.istore 3), .inl .nop, .inl (.iload 3), .inr (.int 57), .inl (.if_icmp .ge (.ofNat 20)), .inl (.aload 0), .inl (.getfield 192), .inl (.iload 1), .inl (.iload 3), .inl .iadd, .inl (.aload 0), .inl (.getfield 192), .inl (.iload 2), .inl (.iload 3), .inl .iadd, .inl .iaload, .inl .iastore, .inl (.iinc 3 1), .inl (.goto (.ofNat 2)), .inl .return_]
def pb_X6_copies : List Nat := [0, 1, 2, 2, 3, 5, 8, 9, 12, 13, 14, 15, 16, 19, 20, 21, 22, 23, 24, 27, 30]
def cd_X6_keep : List (Instr ⊕ Value) := [.inl (.iload 1), .inl .i2l, .inr (.long 0), .inr (.long 1), .inl (.invokestatic 114), .inl (.ifCond .ne (.ofNat 8)), .inr (.int (-1)), .inl .ireturn, .inl (.aload 0), .inl (.getfield 194), .inl (.iload 1), .inl .baload, .inl (.invokestatic 115), .inl (.istore 2), .inl (.aload 0), .inl (.getfield 194), .inl (.iload 1), .inr (.int 1), .inl .bastore, .inl (.aload 0), .inr (.int 57), .inl (.iload 1), .inr (.int 1), .inl .iadd, .inl .imul, .inr (.int 0), .inl (.invokevirtual 195), .inl (.iload 2), .inl .ireturn]
def pb_X6_keep : List Nat := [0, 1, 2, 3, 4, 7, 10, 11, 12, 13, 16, 17, 18, 21, 22, 23, 26, 27, 28, 29, 30, 32, 33, 34, 35, 36, 37, 40, 41]
def cd_X6_back : List (Instr ⊕ Value) := [.inl (.iload 1), .inl .i2l, .inr (.long 0), .inr (.long 1), .inl (.invokestatic 114), .inl (.ifCond .ne (.ofNat 8)), .inr (.int (-1)), .inl .ireturn, .inl (.aload 0), .inl (.getfield 194), .inl (.iload 1), .inl .baload, .inl (.ifCond .ne (.ofNat 15)), .inr (.int (-2)), .inl .ireturn, .inl (.aload 0), .inr (.int 0), .inr (.int 57), .inl (.iload 1), .inr (.int 1), .inl .iadd, .inl .imul, .inl (.invokevirtual 195), .inl (.aload 0), .inl (.getfield 192), .inr (.int 43), .inl .iaload, .inl .ireturn]
def pb_X6_back : List Nat := [0, 1, 2, 3, 4, 7, 10, 11, 12, 13, 16, 17, 18, 21, 23, 24, 25, 26, 28, 29, 30, 31, 32, 35, 36, 39, 41, 42]
def cd_X6_isSheet : List (Instr ⊕ Value) := [.inl (.iload 0), .inl .i2l, .inr (.long 0), .inr (.long 3), .inl (.invokestatic 114), .inl (.ifCond .eq (.ofNat 14)), .inl (.iload 1), .inl .i2l, .inr (.long 0), .inr (.long 2), .inl (.invokestatic 114), .inl (.ifCond .eq (.ofNat 14)), .inr (.int 1), .inl (.goto (.ofNat 15)), .inr (.int 0), .inl (.ret 0)]
def pb_X6_isSheet : List Nat := [0, 1, 2, 3, 6, 9, 12, 13, 14, 15, 18, 21, 24, 25, 28, 29]
def cd_X6_sheet : List (Instr ⊕ Value) := [.inl (.iload 1), .inl (.iload 2), .inl (.invokestatic 198), .inl (.ifCond .eq (.ofNat 7)), .inl (.iload 3), .inr (.int 40), .inl (.if_icmp .le (.ofNat 9)), .inr (.int (-1)), .inl .ireturn, .inl (.iload 3), .inl (.ifCond .ge (.ofNat 13)), .inr (.int (-14)), .inl .ireturn, .inl (.aload 0), .inl (.getfield 213), .inl (.iload 1), .inl (.iload 2), .inl .iastore, .inl (.aload 0), .inl (.getfield 214), .inl (.iload 1), .inl (.iload 3), .inl .iastore, .inr (.int 0), .inl (.istore 4), .inl .nop, .inl (.iload 4), .inr (.int 40), .inl (.if_icmp .ge (.ofNat 40)), .inl (.aload 0), .inl (.getfield 215), .inr (.int 40), .inl (.iload 1), .inl .imul, .inl (.iload 4), .inl .iadd, .inr (.int 0), .inl .iastore, .inl (.iinc 4 1), .inl (.goto (.ofNat 25)), .inr (.int 1), .inl .ireturn]
def pb_X6_sheet : List Nat := [0, 1, 2, 5, 8, 9, 11, 14, 15, 16, 17, 20, 22, 23, 24, 27, 28, 29, 30, 31, 34, 35, 36, 37, 38, 40, 40, 42, 44, 47, 48, 51, 53, 54, 55, 57, 58, 59, 60, 63, 66, 67]
def cd_X6_lay : List (Instr ⊕ Value) := [.inl (.iload 1), .inr (.int 0), .inl (.invokestatic 198), .inl (.ifCond .ne (.ofNat 6)), .inr (.int (-1)), .inl .ireturn, .inl (.aload 0), .inl (.getfield 213), .inl (.iload 1), .inl .iaload, .inr (.int (-4)), .inl (.if_icmp .ne (.ofNat 14)), .inr (.int (-11)), .inl .ireturn, .inl (.iload 2), .inl .i2l, .inr (.long 0), .inl (.aload 0), .inl (.getfield 214), .inl (.iload 1), .inl .iaload, .inr (.int 1), .inl .isub, .inl .i2l, .inl (.invokestatic 114), .inl (.ifCond .ne (.ofNat 28)), .inr (.int (-12)), .inl .ireturn, .inl (.aload 0), .inl (.getfield 215), .inr (.int 40), .inl (.iload 1), .inl .imul, .inl (.iload 2), .inl .iadd, .inl (.aload 0), .inl (.getfield 213), .inl (.iload 1), .inl .iaload, .inl (.ifCond .ne (.ofNat 43)), .inl (.iload 3), .inl .i2b, .inl (.goto (.ofNat 53)), .inl (.aload 0), .inl (.getfield 213), .inl (.iload 1), .inl .iaload, .inr (.int 1), .inl (.if_icmp .ne (.ofNat 52)), .inl (.iload 3), .inl .i2s, .inl (.goto (.ofNat 53)), .inl (.iload 3), .inl .iastore, .inr (.int 1), .inl .ireturn]
def pb_X6_lay : List Nat := [0, 1, 2, 5, 8, 9, 10, 11, 14, 15, 16, 18, 21, 23, 24, 25, 26, 27, 28, 31, 32, 33, 34, 35, 36, 39, 42, 44, 45, 46, 49, 51, 52, 53, 54, 55, 56, 59, 60, 61, 64, 65, 66, 69, 70, 73, 74, 75, 76, 79, 80, 81, 84, 85, 86, 87]
def cd_X6_read : List (Instr ⊕ Value) := [.inl (.iload 1), .inl (.iload 2), .inl (.invokestatic 198), .inl (.ifCond .eq (.ofNat 10)), .inl (.iload 4), .inl .i2l, .inr (.long 0), .inr (.long 20), .inl (.invokestatic 114), .inl (.ifCond .ne (.ofNat 12)), .inr (.int (-1)), .inl .ireturn, .inr (.int 0), .inl (.istore 5), .inl .nop, .inl (.iload 5), .inr (.int 57), .inl (.if_icmp .ge (.ofNat 28)), .inl (.aload 0), .inl (.getfield 217), .inl (.iload 5), .inl (.aload 0), .inl (.getfield 192), .inl (.iload 5), .inl .iaload, .inl .iastore, .inl (.iinc 5 1), .inl (.goto (.ofNat 14)), .inr (.int 0), .inl (.istore 5), .inr (.int 0), .inl (.istore 6), .inr (.int 0), .inl (.istore 7), .inl .nop, .inl (.iload 7), .inl (.iload 4), .inl (.if_icmp .ge (.ofNat 147)), .inl (.iload 5), .inl (.ifCond .ne (.ofNat 147)), .inr (.int 0), .inl (.istore 8), .inl .nop, .inl (.iload 8), .inr (.int 2), .inl (.if_icmp .ge (.ofNat 93)), .inl (.iload 5), .inl (.ifCond .ne (.ofNat 93)), .inl (.iload 3), .inl .i2l, .inr (.int 2), .inl (.iload 7), .inl .imul, .inl .i2l, .inl .ladd, .inl (.iload 8), .inl .i2l, .inl .ladd, .inl (.lstore 9), .inl (.aload 0), .inl (.getfield 213), .inl (.iload 1), .inl .iaload, .inr (.int (-4)), .inl (.if_icmp .ne (.ofNat 67)), .inr (.int 1), .inl (.goto (.ofNat 90)), .inl (.aload 0), .inl (.getfield 213), .inl (.iload 1), .inl .iaload, .inl (.iload 2), .inl (.if_icmp .eq (.ofNat 75)), .inr (.int 3), .inl (.goto (.ofNat 90)), .inl (.lload 9), .inr (.long 0), .inl .lcmp, .inl (.ifCond .lt (.ofNat 87)), .inl (.lload 9), .inl (.aload 0), .inl (.getfield 214), .inl (.iload 1), .inl .iaload, .inl .i2l, .inl .lcmp, .inl (.ifCond .lt (.ofNat 89)), .inr (.int 2), .inl (.goto (.ofNat 90)), .inr (.int 0), .inl (.istore 5), .inl (.iinc 8 1), .inl (.goto (.ofNat 42)), .inl (.iload 5), .inl (.ifCond .ne (.ofNat 145)), .inr (.int 40), .inl (.iload 1), .inl .imul, .inl (.iload 3), .inl .iadd, .inr (.int 2), .inl (.iload 7), .inl .imul, .inl .iadd, .inl (.istore 8), .inl (.aload 0), .inl (.aload 0), .inl (.getfield 215), .inl (.iload 8), .inl .iaload, .inl (.aload 0), .inl (.getfield 215), .inl (.iload 8), .inr (.int 1), .inl .iadd, .inl .iaload, .inl (.invokevirtual 156), .inl (.istore 9), .inl (.iload 9), .inr (.int (-1)), .inl (.if_icmp .eq (.ofNat 124)), .inl (.iload 9), .inr (.int (-3)), .inl (.if_icmp .ne (.ofNat 144)), .inr (.int 0), .inl (.istore 10), .inl .nop, .inl (.iload 10), .inr (.int 57), .inl (.if_icmp .ge (.ofNat 140)), .inl (.aload 0), .inl (.getfield 192), .inl (.iload 10), .inl (.aload 0), .inl (.getfield 217), .inl (.iload 10), .inl .iaload, .inl .iastore, .inl (.iinc 10 1), .inl (.goto (.ofNat 126)), .inr (.int (-20)), .inl (.iload 7), .inl .isub, .inl .ireturn, .inl (.iinc 6 1), .inl (.iinc 7 1), .inl (.goto (.ofNat 34)), .inl (.aload 0), .inl (.iload 5), .inl (.putfield 216), .inl (.iload 6), .inl .ireturn]
def pb_X6_read : List Nat := [0, 1, 2, 5, 8, 10, 11, 12, 15, 18, 21, 22, 23, 24, 26, 26, 28, 30, 33, 34, 37, 39, 40, 43, 45, 46, 47, 50, 53, 54, 56, 57, 59, 60, 62, 62, 64, 66, 69, 71, 74, 75, 77, 77, 79, 80, 83, 85, 88, 89, 90, 91, 93, 94, 95, 96, 98, 99, 100, 102, 103, 106, 107, 108, 110, 113, 114, 117, 118, 121, 122, 123, 124, 127, 128, 131, 133, 134, 135, 138, 140, 141, 144, 145, 146, 147, 148, 151, 152, 155, 156, 158, 161, 164, 166, 169, 171, 172, 173, 174, 175, 176, 178, 179, 180, 182, 183, 184, 187, 189, 190, 191, 194, 196, 197, 198, 199, 202, 204, 206, 207, 210, 212, 214, 217, 218, 220, 220, 222, 224, 227, 228, 231, 233, 234, 237, 239, 240, 241, 244, 247, 249, 251, 252, 253, 256, 259, 262, 263, 265, 268, 270]
def cd_X6_torn : List (Instr ⊕ Value) := [.inl (.aload 0), .inl (.getfield 216), .inl .ireturn]
def pb_X6_torn : List Nat := [0, 1, 4]
def cd_X6_count : List (Instr ⊕ Value) := [.inl (.aload 0), .inl (.invokevirtual 140), .inr (.int 0), .inl (.istore 2), .inr (.int 0), .inl (.istore 3), .inr (.int 0), .inl (.istore 4), .inl .nop, .inl (.iload 4), .inr (.int 4), .inl (.if_icmp .ge (.ofNat 32)), .inl (.iload 2), .inl (.aload 0), .inl (.iload 4), .inl (.invokevirtual 144), .inl (.invokestatic 139), .inl .iadd, .inl (.istore 2), .inl (.iload 3), .inl (.aload 0), .inl (.iload 4), .inl (.invokevirtual 144), .inl (.ifCond .eq (.ofNat 26)), .inr (.int 1), .inl (.goto (.ofNat 27)), .inr (.int 0), .inl (.invokestatic 115), .inl .iadd, .inl (.istore 3), .inl (.iinc 4 1), .inl (.goto (.ofNat 8)), .inl (.iload 1), .inl (.tableswitch (.ofNat 80) 0 6 #[.ofNat 34, .ofNat 36, .ofNat 38, .ofNat 47, .ofNat 52, .ofNat 64, .ofNat 67]), .inl (.iload 2), .inl .ireturn, .inl (.iload 3), .inl .ireturn, .inl (.aload 0), .inr (.int 1), .inl (.aload 0), .inl (.getfield 195), .inl .ishl, .inr (.int 1), .inl .isub, .inl (.invokevirtual 149), .inl .ireturn, .inl (.aload 0), .inl (.getfield 192), .inr (.int 44), .inl .iaload, .inl .ireturn, .inl (.aload 0), .inl (.getfield 194), .inr (.int 0), .inl .baload, .inl (.invokestatic 115), .inl (.aload 0), .inl (.getfield 194), .inr (.int 1), .inl .baload, .inl (.invokestatic 115), .inl .iadd, .inl .ireturn, .inl (.aload 0), .inl (.getfield 204), .inl .ireturn, .inl (.aload 0), .inl (.getfield 213), .inr (.int 0), .inl .iaload, .inr (.int (-4)), .inl (.if_icmp .ne (.ofNat 75)), .inr (.int (-4)), .inl (.goto (.ofNat 79)), .inl (.aload 0), .inl (.getfield 214), .inr (.int 0), .inl .iaload, .inl .ireturn, .inr (.int (-1)), .inl .ireturn]
def pb_X6_count : List Nat := [0, 1, 4, 5, 6, 7, 8, 9, 11, 11, 13, 14, 17, 18, 19, 21, 24, 27, 28, 29, 30, 31, 33, 36, 39, 40, 43, 44, 47, 48, 49, 52, 55, 56, 100, 101, 102, 103, 104, 105, 106, 107, 110, 111, 112, 113, 116, 117, 118, 121, 123, 124, 125, 126, 129, 130, 131, 134, 135, 138, 139, 140, 143, 144, 145, 146, 149, 150, 151, 154, 155, 156, 158, 161, 163, 166, 167, 170, 171, 172, 173, 174]
def cd_J6_bitCount_0f7a4 : List (Instr ⊕ Value) := [.inl (.iload 0), .inl (.iload 0), .inr (.int 1), .inl .iushr, .inr (.int 1431655765), .inl .iand, .inl .isub, .inl (.istore 0), .inl (.iload 0), .inr (.int 858993459), .inl .iand, .inl (.iload 0), .inr (.int 2), .inl .iushr, .inr (.int 858993459), .inl .iand, .inl .iadd, .inl (.istore 0), .inl (.iload 0), .inl (.iload 0), .inr (.int 4), .inl .iushr, .inl .iadd, .inr (.int 252645135), .inl .iand, .inl (.istore 0), .inl (.iload 0), .inl (.iload 0), .inr (.int 8), .inl .iushr, .inl .iadd, .inl (.istore 0), .inl (.iload 0), .inl (.iload 0), .inr (.int 16), .inl .iushr, .inl .iadd, .inl (.istore 0), .inl (.iload 0), .inr (.int 63), .inl .iand, .inl .ireturn]
def pb_J6_bitCount_0f7a4 : List Nat := [0, 1, 2, 3, 4, 7, 8, 9, 10, 11, 14, 15, 16, 17, 18, 21, 22, 23, 24, 25, 26, 27, 28, 29, 32, 33, 34, 35, 36, 38, 39, 40, 41, 42, 43, 45, 46, 47, 48, 49, 51, 52]
def cd_J9_min_7cf53 : List (Instr ⊕ Value) := [.inl (.iload 0), .inl (.iload 1), .inl (.if_icmp .gt (.ofNat 5)), .inl (.iload 0), .inl (.goto (.ofNat 6)), .inl (.iload 1), .inl .ireturn]
def pb_J9_min_7cf53 : List Nat := [0, 1, 2, 5, 6, 9, 10]
def cd_J0_length_8abf5 : List (Instr ⊕ Value) := [.inl (.aload 0), .inl (.dload 0), .inl .arraylength, .inl (.aload 0), .inl (.invokevirtual 208), .inl .ishr, .inl .ireturn]
def pb_J0_length_8abf5 : List Nat := [0, 1, 4, 5, 6, 9, 10]
def cd_J0_charAt_5068e : List (Instr ⊕ Value) := [.inl (.aload 0), .inl (.invokevirtual 209), .inl (.ifCond .eq (.ofNat 8)), .inl (.aload 0), .inl (.dload 0), .inl (.iload 1), .inl (.invokestatic 211), .inl (.ret 2), .inl (.aload 0), .inl (.dload 0), .inl (.iload 1), .inl .athrow, .inl .athrow]
def pb_J0_charAt_5068e : List Nat := [0, 1, 4, 7, 8, 11, 12, 15, 16, 17, 20, 21, 24]
def cd_J0_coder_7d493 : List (Instr ⊕ Value) := [.inr (.int 1), .inl (.ifCond .eq (.ofNat 5)), .inl (.aload 0), .inl (.dload 1), .inl (.goto (.ofNat 6)), .inr (.int 1), .inl (.ret 1)]
def pb_J0_coder_7d493 : List Nat := [0, 3, 6, 7, 10, 13, 14]
def cd_J0_isLatin1_aae02 : List (Instr ⊕ Value) := [.inr (.int 1), .inl (.ifCond .eq (.ofNat 7)), .inl (.aload 0), .inl (.dload 1), .inl (.ifCond .ne (.ofNat 7)), .inr (.int 1), .inl (.goto (.ofNat 8)), .inr (.int 0), .inl (.ret 0)]
def pb_J0_isLatin1_aae02 : List Nat := [0, 3, 6, 7, 10, 13, 14, 17, 18]
def cd_J0_checkIndex_df160 : List (Instr ⊕ Value) := [.inl (.iload 0), .inl (.iload 1), .inr (.retAddr 4), .inl (.invokestatic 212), .inl .pop, .inl .return_]
def pb_J0_checkIndex_df160 : List Nat := [0, 1, 2, 5, 8, 9]
def cd_J1_charAt_3b067 : List (Instr ⊕ Value) := [.inl (.iload 1), .inl (.aload 0), .inl .arraylength, .inl (.invokestatic 210), .inl (.aload 0), .inl (.iload 1), .inl .caload, .inr (.int 255), .inl .iand, .inl .i2c, .inl (.ret 2)]
def pb_J1_charAt_3b067 : List Nat := [0, 1, 2, 3, 6, 7, 8, 9, 12, 13, 14]
def cd_J3_checkIndex_8e157 : List (Instr ⊕ Value) := [.inl (.iload 0), .inl (.ifCond .lt (.ofNat 5)), .inl (.iload 0), .inl (.iload 1), .inl (.if_icmp .lt (.ofNat 10)), .inl (.aload 2), .inl (.iload 0), .inl (.iload 1), .inl .athrow, .inl .athrow, .inl (.iload 0), .inl .ireturn]
def pb_J3_checkIndex_8e157 : List Nat := [0, 1, 4, 5, 6, 9, 10, 11, 12, 15, 16, 17]
def cd_L_law : List (Instr ⊕ Value) := [.inl (.new 5), .inl .dup, .inl (.invokespecial 63), .inl (.astore 1), .inl (.new 6), .inl .dup, .inl (.invokespecial 113), .inl (.astore 2), .inr (.int 0), .inl (.istore 3), .inl .nop, .inl (.iload 3), .inl (.aload 0), .inl .arraylength, .inr (.int 5), .inl .isub, .inl (.if_icmp .gt (.ofNat 879)), .inl (.aload 0), .inl (.iload 3), .inl .faload, .inr (.int 63), .inl .iand, .inl (.tableswitch (.ofNat 877) 0 37 #[.ofNat 23, .ofNat 40, .ofNat 57, .ofNat 64, .ofNat 71, .ofNat 88, .ofNat 115, .ofNat 142, .ofNat 169, .ofNat 186, .ofNat 213, .ofNat 248, .ofNat 293, .ofNat 320, .ofNat 347, .ofNat 374, .ofNat 391, .ofNat 418, .ofNat 425, .ofNat 453, .ofNat 481, .ofNat 498, .ofNat 515, .ofNat 532, .ofNat 549, .ofNat 566, .ofNat 583, .ofNat 600, .ofNat 627, .ofNat 644, .ofNat 661, .ofNat 698, .ofNat 715, .ofNat 732, .ofNat 769, .ofNat 806, .ofNat 853, .ofNat 860]), .inl (.aload 1), .inl (.aload 0), .inl (.iload 3), .inr (.int 1), .inl .iadd, .inl .faload, .inl (.invokevirtual 64), .inl (.aload 2), .inl (.aload 0), .inl (.iload 3), .inr (.int 1), .inl .iadd, .inl .faload, .inl (.invokevirtual 118), .inl (.if_icmp .eq (.ofNat 877)), .inr (.int 0), .inl (.ret 0), .inl (.aload 1), .inl (.aload 0), .inl (.iload 3), .inr (.int 1), .inl .iadd, .inl .faload, .inl (.invokevirtual 65), .inl (.aload 2), .inl (.aload 0), .inl (.iload 3), .inr (.int 1), .inl .iadd, .inl .faload, .inl (.invokevirtual 119), .inl (.if_icmp .eq (.ofNat 877)), .inr (.int 0), .inl (.ret 0), .inl (.aload 1), .inl (.invokevirtual 66), .inl (.aload 2), .inl (.invokevirtual 134), .inl (.if_icmp .eq (.ofNat 877)), .inr (.int 0), .inl (.ret 0), .inl (.aload 1), .inl (.invokevirtual 67), .inl (.aload 2), .inl (.invokevirtual 135), .inl (.if_icmp .eq (.ofNat 877)), .inr (.int 0), .inl (.ret 0), .inl (.aload 1), .inl (.aload 0), .inl (.iload 3), .inr (.int 1), .inl .iadd, .inl .faload, .inl (.invokevirtual 68), .inl (.aload 2), .inl (.aload 0), .inl (.iload 3), .inr (.int 1), .inl .iadd, .inl .faload, .inl (.invokevirtual 150), .inl (.if_icmp .eq (.ofNat 877)), .inr (.int 0), .inl (.ret 0), .inl (.aload 1), .inl (.aload 0), .inl (.iload 3), .inr (.int 1), .inl .iadd, .inl .faload, .inl (.aload 0), .inl (.iload 3), .inr (.int 2), .inl .iadd, .inl .faload, .inl (.invokevirtual 69), .inl (.aload 2), .inl (.aload 0), .inl (.iload 3), .inr (.int 1), .inl .iadd, .inl .faload, .inl (.aload 0), .inl (.iload 3), .inr (.int 2), .inl .iadd, .inl .faload, .inl (.invokevirtual 151), .inl (.if_icmp .eq (.ofNat 877)), .inr (.int 0), .inl (.ret 0), .inl (.aload 1), .inl (.aload 0), .inl (.iload 3), .inr (.int 1), .inl .iadd, .inl .faload, .inl (.aload 0), .inl (.iload 3), .inr (.int 2), .inl .iadd, .inl .faload, .inl (.invokevirtual 70), .inl (.aload 2), .inl (.aload 0), .inl (.iload 3), .inr (.int 1), .inl .iadd, .inl .faload, .inl (.aload 0), .inl (.iload 3), .inr (.int 2), .inl .iadd, .inl .faload, .inl (.invokevirtual 152), .inl (.if_icmp .eq (.ofNat 877)), .inr (.int 0), .inl (.ret 0), .inl (.aload 1), .inl (.aload 0), .inl (.iload 3), .inr (.int 1), .inl .iadd, .inl .faload, .inl (.aload 0), .inl (.iload 3), .inr (.int 2), .inl .iadd, .inl .faload, .inl (.invokevirtual 71), .inl (.aload 2), .inl (.aload 0), .inl (.iload 3), .inr (.int 1), .inl .iadd, .inl .faload, .inl (.aload 0), .inl (.iload 3), .inr (.int 2), .inl .iadd, .inl .faload, .inl (.invokevirtual 156), .inl (.if_icmp .eq (.ofNat 877)), .inr (.int 0), .inl (.ret 0), .inl (.aload 1), .inl (.aload 0), .inl (.iload 3), .inr (.int 1), .inl .iadd, .inl .faload, .inl (.invokevirtual 72), .inl (.aload 2), .inl (.aload 0), .inl (.iload 3), .inr (.int 1), .inl .iadd, .inl .faload, .inl (.invokevirtual 157), .inl (.if_icmp .eq (.ofNat 877)), .inr (.int 0), .inl (.ret 0), .inl (.aload 1), .inl (.aload 0), .inl (.iload 3), .inr (.int 1), .inl .iadd, .inl .faload, .inl (.aload 0), .inl (.iload 3), .inr (.int 2), .inl .iadd, .inl .faload, .inl (.invokevirtual 73), .inl (.aload 2), .inl (.aload 0), .inl (.iload 3), .inr (.int 1), .inl .iadd, .inl .faload, .inl (.aload 0), .inl (.iload 3), .inr (.int 2), .inl .iadd, .inl .faload, .inl (.invokevirtual 158), .inl (.if_icmp .eq (.ofNat 877)), .inr (.int 0), .inl (.ret 0), .inl (.aload 1), .inl (.aload 0), .inl (.iload 3), .inr (.int 1), .inl .iadd, .inl .faload, .inl (.aload 0), .inl (.iload 3), .inr (.int 2), .inl .iadd, .inl .faload, .inl (.ifCond .eq (.ofNat 227)), .inr (.int 1), .inl (.goto (.ofNat 228)), .inr (.int 0), .inl (.invokevirtual 74), .inl (.aload 2), .inl (.aload 0), .inl (.iload 3), .inr (.int 1), .inl .iadd, .inl .faload, .inl (.aload 0), .inl (.iload 3), .inr (.int 2), .inl .iadd, .inl .faload, .inl (.ifCond .eq (.ofNat 243)), .inr (.int 1), .inl (.goto (.ofNat 244)), .inr (.int 0), .inl (.invokevirtual 160), .inl (.if_icmp .eq (.ofNat 877)), .inr (.int 0), .inl (.ret 0), .inl (.aload 1), .inl (.aload 0), .inl (.iload 3), .inr (.int 1), .inl .iadd, .inl .faload, .inl (.aload 0), .inl (.iload 3), .inr (.int 2), .inl .iadd, .inl .faload, .inl (.aload 0), .inl (.iload 3), .inr (.int 3), .inl .iadd, .inl .faload, .inl (.ifCond .eq (.ofNat 267)), .inr (.int 1), .inl (.goto (.ofNat 268)), .inr (.int 0), .inl (.invokevirtual 75), .inl (.aload 2), .inl (.aload 0), .inl (.iload 3), .inr (.int 1), .inl .iadd, .inl .faload, .inl (.aload 0), .inl (.iload 3), .inr (.int 2), .inl .iadd, .inl .faload, .inl (.aload 0), .inl (.iload 3), .inr (.int 3), .inl .iadd, .inl .faload, .inl (.ifCond .eq (.ofNat 288)), .inr (.int 1), .inl (.goto (.ofNat 289)), .inr (.int 0), .inl (.invokevirtual 161), .inl (.if_icmp .eq (.ofNat 877)), .inr (.int 0), .inl (.ret 0), .inl (.aload 1), .inl (.aload 0), .inl (.iload 3), .inr (.int 1), .inl .iadd, .inl .faload, .inl (.aload 0), .inl (.iload 3), .inr (.int 2), .inl .iadd, .inl .faload, .inl (.invokevirtual 76), .inl (.aload 2), .inl (.aload 0), .inl (.iload 3), .inr (.int 1), .inl .iadd, .inl .faload, .inl (.aload 0), .inl (.iload 3), .inr (.int 2), .inl .iadd, .inl .faload, .inl (.invokevirtual 162), .inl (.if_icmp .eq (.ofNat 877)), .inr (.int 0), .inl (.ret 0), .inl (.aload 1), .inl (.aload 0), .inl (.iload 3), .inr (.int 1), .inl .iadd, .inl .faload, .inl (.aload 0), .inl (.iload 3), .inr (.int 2), .inl .iadd, .inl .faload, .inl (.invokevirtual 77), .inl (.aload 2), .inl (.aload 0), .inl (.iload 3), .inr (.int 1), .inl .iadd, .inl .faload, .inl (.aload 0), .inl (.iload 3), .inr (.int 2), .inl .iadd, .inl .faload, .inl (.invokevirtual 163), .inl (.if_icmp .eq (.ofNat 877)), .inr (.int 0), .inl (.ret 0), .inl (.aload 1), .inl (.aload 0), .inl (.iload 3), .inr (.int 1), .inl .iadd, .inl .faload, .inl (.aload 0), .inl (.iload 3), .inr (.int 2), .inl .iadd, .inl .faload, .inl (.invokevirtual 78), .inl (.aload 2), .inl (.aload 0), .inl (.iload 3), .inr (.int 1), .inl .iadd, .inl .faload, .inl (.aload 0), .inl (.iload 3), .inr (.int 2), .inl .iadd, .inl .faload, .inl (.invokevirtual 164), .inl (.if_icmp .eq (.ofNat 877)), .inr (.int 0), .inl (.ret 0), .inl (.aload 1), .inl (.aload 0), .inl (.iload 3), .inr (.int 1), .inl .iadd, .inl .faload, .inl (.invokevirtual 79), .inl (.aload 2), .inl (.aload 0), .inl (.iload 3), .inr (.int 1), .inl .iadd, .inl .faload, .inl (.invokevirtual 171), .inl (.if_icmp .eq (.ofNat 877)), .inr (.int 0), .inl (.ret 0), .inl (.aload 1), .inl (.aload 0), .inl (.iload 3), .inr (.int 1), .inl .iadd, .inl .faload, .inl (.aload 0), .inl (.iload 3), .inr (.int 2), .inl .iadd, .inl .faload, .inl (.invokevirtual 80), .inl (.aload 2), .inl (.aload 0), .inl (.iload 3), .inr (.int 1), .inl .iadd, .inl .faload, .inl (.aload 0), .inl (.iload 3), .inr (.int 2), .inl .iadd, .inl .faload, .inl (.invokevirtual 172), .inl (.if_icmp .eq (.ofNat 877)), .inr (.int 0), .inl (.ret 0), .inl (.aload 1), .inl (.invokevirtual 81), .inl (.aload 2), .inl (.invokevirtual 173), .inl (.if_icmp .eq (.ofNat 877)), .inr (.int 0), .inl (.ret 0), .inl (.aload 1), .inl (.aload 0), .inl (.iload 3), .inr (.int 1), .inl .iadd, .inl .faload, .inl (.aload 0), .inl (.iload 3), .inr (.int 2), .inl .iadd, .inl .faload, .inl (.invokevirtual 82), .inl (.aload 2), .inl (.aload 0), .inl (.iload 3), .inr (.int 1), .inl .iadd, .inl .faload, .inl (.aload 0), .inl (.iload 3), .inr (.int 2), .inl .iadd, .inl .faload, .inl (.invokevirtual 176), .inl .lcmp, .inl (.ifCond .eq (.ofNat 877)), .inr (.int 0), .inl (.ret 0), .inl (.aload 1), .inl (.aload 0), .inl (.iload 3), .inr (.int 1), .inl .iadd, .inl .faload, .inl (.aload 0), .inl (.iload 3), .inr (.int 2), .inl .iadd, .inl .faload, .inl (.invokevirtual 83), .inl (.aload 2), .inl (.aload 0), .inl (.iload 3), .inr (.int 1), .inl .iadd, .inl .faload, .inl (.aload 0), .inl (.iload 3), .inr (.int 2), .inl .iadd, .inl .faload, .inl (.invokevirtual 178), .inl .lcmp, .inl (.ifCond .eq (.ofNat 877)), .inr (.int 0), .inl (.ret 0), .inl (.aload 1), .inl (.aload 0), .inl (.iload 3), .inr (.int 1), .inl .iadd, .inl .faload, .inl (.invokevirtual 84), .inl (.aload 2), .inl (.aload 0), .inl (.iload 3), .inr (.int 1), .inl .iadd, .inl .faload, .inl (.invokevirtual 181), .inl (.if_icmp .eq (.ofNat 877)), .inr (.int 0), .inl (.ret 0), .inl (.aload 1), .inl (.aload 0), .inl (.iload 3), .inr (.int 1), .inl .iadd, .inl .faload, .inl (.invokevirtual 85), .inl (.aload 2), .inl (.aload 0), .inl (.iload 3), .inr (.int 1), .inl .iadd, .inl .faload, .inl (.invokevirtual 182), .inl (.if_icmp .eq (.ofNat 877)), .inr (.int 0), .inl (.ret 0), .inl (.aload 1), .inl (.aload 0), .inl (.iload 3), .inr (.int 1), .inl .iadd, .inl .faload, .inl (.invokevirtual 86), .inl (.aload 2), .inl (.aload 0), .inl (.iload 3), .inr (.int 1), .inl .iadd, .inl .faload, .inl (.invokevirtual 183), .inl (.if_icmp .eq (.ofNat 877)), .inr (.int 0), .inl (.ret 0), .inl (.aload 1), .inl (.aload 0), .inl (.iload 3), .inr (.int 1), .inl .iadd, .inl .faload, .inl (.invokevirtual 87), .inl (.aload 2), .inl (.aload 0), .inl (.iload 3), .inr (.int 1), .inl .iadd, .inl .faload, .inl (.invokevirtual 185), .inl (.if_icmp .eq (.ofNat 877)), .inr (.int 0), .inl (.ret 0), .inl (.aload 1), .inl (.aload 0), .inl (.iload 3), .inr (.int 1), .inl .iadd, .inl .faload, .inl (.invokevirtual 88), .inl (.aload 2), .inl (.aload 0), .inl (.iload 3), .inr (.int 1), .inl .iadd, .inl .faload, .inl (.invokevirtual 186), .inl (.if_icmp .eq (.ofNat 877)), .inr (.int 0), .inl (.ret 0), .inl (.aload 1), .inl (.aload 0), .inl (.iload 3), .inr (.int 1), .inl .iadd, .inl .faload, .inl (.invokevirtual 89), .inl (.aload 2), .inl (.aload 0), .inl (.iload 3), .inr (.int 1), .inl .iadd, .inl .faload, .inl (.invokevirtual 187), .inl (.if_icmp .eq (.ofNat 877)), .inr (.int 0), .inl (.ret 0), .inl (.aload 1), .inl (.aload 0), .inl (.iload 3), .inr (.int 1), .inl .iadd, .inl .faload, .inl (.invokevirtual 90), .inl (.aload 2), .inl (.aload 0), .inl (.iload 3), .inr (.int 1), .inl .iadd, .inl .faload, .inl (.invokevirtual 188), .inl (.if_icmp .eq (.ofNat 877)), .inr (.int 0), .inl (.ret 0), .inl (.aload 1), .inl (.aload 0), .inl (.iload 3), .inr (.int 1), .inl .iadd, .inl .faload, .inl (.aload 0), .inl (.iload 3), .inr (.int 2), .inl .iadd, .inl .faload, .inl (.invokevirtual 91), .inl (.aload 2), .inl (.aload 0), .inl (.iload 3), .inr (.int 1), .inl .iadd, .inl .faload, .inl (.aload 0), .inl (.iload 3), .inr (.int 2), .inl .iadd, .inl .faload, .inl (.invokevirtual 189), .inl (.if_icmp .eq (.ofNat 877)), .inr (.int 0), .inl (.ret 0), .inl (.aload 1), .inl (.aload 0), .inl (.iload 3), .inr (.int 1), .inl .iadd, .inl .faload, .inl (.invokevirtual 92), .inl (.aload 2), .inl (.aload 0), .inl (.iload 3), .inr (.int 1), .inl .iadd, .inl .faload, .inl (.invokevirtual 190), .inl (.if_icmp .eq (.ofNat 877)), .inr (.int 0), .inl (.ret 0), .inl (.aload 1), .inl (.aload 0), .inl (.iload 3), .inr (.int 1), .inl .iadd, .inl .faload, .inl (.invokevirtual 93), .inl (.aload 2), .inl (.aload 0), .inl (.iload 3), .inr (.int 1), .inl .iadd, .inl .faload, .inl (.invokevirtual 193), .inl (.if_icmp .eq (.ofNat 877)), .inr (.int 0), .inl (.ret 0), .inl (.aload 1), .inl (.aload 0), .inl (.iload 3), .inr (.int 1), .inl .iadd, .inl .faload, .inl (.aload 0), .inl (.iload 3), .inr (.int 2), .inl .iadd, .inl .faload, .inl (.aload 0), .inl (.iload 3), .inr (.int 3), .inl .iadd, .inl .faload, .inl (.invokevirtual 94), .inl (.aload 2), .inl (.aload 0), .inl (.iload 3), .inr (.int 1), .inl .iadd, .inl .faload, .inl (.aload 0), .inl (.iload 3), .inr (.int 2), .inl .iadd, .inl .faload, .inl (.aload 0), .inl (.iload 3), .inr (.int 3), .inl .iadd, .inl .faload, .inl (.invokevirtual 194), .inl (.if_icmp .eq (.ofNat 877)), .inr (.int 0), .inl (.ret 0), .inl (.aload 1), .inl (.aload 0), .inl (.iload 3), .inr (.int 1), .inl .iadd, .inl .faload, .inl (.invokevirtual 95), .inl (.aload 2), .inl (.aload 0), .inl (.iload 3), .inr (.int 1), .inl .iadd, .inl .faload, .inl (.invokevirtual 196), .inl (.if_icmp .eq (.ofNat 877)), .inr (.int 0), .inl (.ret 0), .inl (.aload 1), .inl (.aload 0), .inl (.iload 3), .inr (.int 1), .inl .iadd, .inl .faload, .inl (.invokevirtual 96), .inl (.aload 2), .inl (.aload 0), .inl (.iload 3), .inr (.int 1), .inl .iadd, .inl .faload, .inl (.invokevirtual 197), .inl (.if_icmp .eq (.ofNat 877)), .inr (.int 0), .inl (.ret 0), .inl (.aload 1), .inl (.aload 0), .inl (.iload 3), .inr (.int 1), .inl .iadd, .inl .faload, .inl (.aload 0), .inl (.iload 3), .inr (.int 2), .inl .iadd, .inl .faload, .inl (.aload 0), .inl (.iload 3), .inr (.int 3), .inl .iadd, .inl .faload, .inl (.invokevirtual 97), .inl (.aload 2), .inl (.aload 0), .inl (.iload 3), .inr (.int 1), .inl .iadd, .inl .faload, .inl (.aload 0), .inl (.iload 3), .inr (.int 2), .inl .iadd, .inl .faload, .inl (.aload 0), .inl (.iload 3), .inr (.int 3), .inl .iadd, .inl .faload, .inl (.invokevirtual 199), .inl (.if_icmp .eq (.ofNat 877)), .inr (.int 0), .inl (.ret 0), .inl (.aload 1), .inl (.aload 0), .inl (.iload 3), .inr (.int 1), .inl .iadd, .inl .faload, .inl (.aload 0), .inl (.iload 3), .inr (.int 2), .inl .iadd, .inl .faload, .inl (.aload 0), .inl (.iload 3), .inr (.int 3), .inl .iadd, .inl .faload, .inl (.invokevirtual 98), .inl (.aload 2), .inl (.aload 0), .inl (.iload 3), .inr (.int 1), .inl .iadd, .inl .faload, .inl (.aload 0), .inl (.iload 3), .inr (.int 2), .inl .iadd, .inl .faload, .inl (.aload 0), .inl (.iload 3), .inr (.int 3), .inl .iadd, .inl .faload, .inl (.invokevirtual 200), .inl (.if_icmp .eq (.ofNat 877)), .inr (.int 0), .inl (.ret 0), .inl (.aload 1), .inl (.aload 0), .inl (.iload 3), .inr (.int 1), .inl .iadd, .inl .faload, .inl (.aload 0), .inl (.iload 3), .inr (.int 2), .inl .iadd, .inl .faload, .inl (.aload 0), .inl (.iload 3), .inr (.int 3), .inl .iadd, .inl .faload, .inl (.aload 0), .inl (.iload 3), .inr (.int 4), .inl .iadd, .inl .faload, .inl (.invokevirtual 99), .inl (.aload 2), .inl (.aload 0), .inl (.iload 3), .inr (.int 1), .inl .iadd, .inl .faload, .inl (.aload 0), .inl (.iload 3), .inr (.int 2), .inl .iadd, .inl .faload, .inl (.aload 0), .inl (.iload 3), .inr (.int 3), .inl .iadd, .inl .faload, .inl (.aload 0), .inl (.iload 3), .inr (.int 4), .inl .iadd, .inl .faload, .inl (.invokevirtual 201), .inl (.if_icmp .eq (.ofNat 877)), .inr (.int 0), .inl (.ret 0), .inl (.aload 1), .inl (.invokevirtual 100), .inl (.aload 2), .inl (.invokevirtual 202), .inl (.if_icmp .eq (.ofNat 877)), .inr (.int 0), .inl (.ret 0), .inl (.aload 1), .inl (.aload 0), .inl (.iload 3), .inr (.int 1), .inl .iadd, .inl .faload, .inl (.invokevirtual 101), .inl (.aload 2), .inl (.aload 0), .inl (.iload 3), .inr (.int 1), .inl .iadd, .inl .faload, .inl (.invokevirtual 203), .inl (.if_icmp .eq (.ofNat 877)), .inr (.int 0), .inl (.ret 0), .inl (.iinc 3 5), .inl (.goto (.ofNat 10)), .inr (.int 1), .inl (.ret 0)]
def pb_L_law : List Nat := [0, 3, 4, 7, 8, 11, 12, 15, 16, 17, 18, 18, 19, 20, 21, 22, 23, 26, 27, 28, 29, 31, 32, 200, 201, 202, 203, 204, 205, 206, 209, 210, 211, 212, 213, 214, 215, 218, 221, 222, 223, 224, 225, 226, 227, 228, 229, 232, 233, 234, 235, 236, 237, 238, 241, 244, 245, 246, 247, 250, 251, 254, 257, 258, 259, 260, 263, 264, 267, 270, 271, 272, 273, 274, 275, 276, 277, 278, 281, 282, 283, 284, 285, 286, 287, 290, 293, 294, 295, 296, 297, 298, 299, 300, 301, 302, 303, 304, 305, 306, 309, 310, 311, 312, 313, 314, 315, 316, 317, 318, 319, 320, 323, 326, 327, 328, 329, 330, 331, 332, 333, 334, 335, 336, 337, 338, 339, 342, 343, 344, 345, 346, 347, 348, 349, 350, 351, 352, 353, 356, 359, 360, 361, 362, 363, 364, 365, 366, 367, 368, 369, 370, 371, 372, 375, 376, 377, 378, 379, 380, 381, 382, 383, 384, 385, 386, 389, 392, 393, 394, 395, 396, 397, 398, 399, 400, 403, 404, 405, 406, 407, 408, 409, 412, 415, 416, 417, 418, 419, 420, 421, 422, 423, 424, 425, 426, 427, 428, 431, 432, 433, 434, 435, 436, 437, 438, 439, 440, 441, 442, 445, 448, 449, 450, 451, 452, 453, 454, 455, 456, 457, 458, 459, 460, 461, 464, 465, 468, 469, 472, 473, 474, 475, 476, 477, 478, 479, 480, 481, 482, 483, 486, 487, 490, 491, 494, 497, 498, 499, 500, 501, 502, 503, 504, 505, 506, 507, 508, 509, 510, 511, 512, 513, 514, 515, 518, 519, 522, 523, 526, 527, 528, 529, 530, 531, 532, 533, 534, 535, 536, 537, 538, 539, 540, 541, 542, 545, 546, 549, 550, 553, 556, 557, 558, 559, 560, 561, 562, 563, 564, 565, 566, 567, 568, 569, 572, 573, 574, 575, 576, 577, 578, 579, 580, 581, 582, 583, 586, 589, 590, 591, 592, 593, 594, 595, 596, 597, 598, 599, 600, 601, 602, 605, 606, 607, 608, 609, 610, 611, 612, 613, 614, 615, 616, 619, 622, 623, 624, 625, 626, 627, 628, 629, 630, 631, 632, 633, 634, 635, 638, 639, 640, 641, 642, 643, 644, 645, 646, 647, 648, 649, 652, 655, 656, 657, 658, 659, 660, 661, 662, 663, 666, 667, 668, 669, 670, 671, 672, 675, 678, 679, 680, 681, 682, 683, 684, 685, 686, 687, 688, 689, 690, 691, 694, 695, 696, 697, 698, 699, 700, 701, 702, 703, 704, 705, 708, 711, 712, 713, 714, 717, 718, 721, 724, 725, 726, 727, 728, 729, 730, 731, 732, 733, 734, 735, 736, 737, 740, 741, 742, 743, 744, 745, 746, 747, 748, 749, 750, 751, 754, 755, 758, 759, 760, 761, 762, 763, 764, 765, 766, 767, 768, 769, 770, 771, 774, 775, 776, 777, 778, 779, 780, 781, 782, 783, 784, 785, 788, 789, 792, 793, 794, 795, 796, 797, 798, 799, 800, 803, 804, 805, 806, 807, 808, 809, 812, 815, 816, 817, 818, 819, 820, 821, 822, 823, 826, 827, 828, 829, 830, 831, 832, 835, 838, 839, 840, 841, 842, 843, 844, 845, 846, 849, 850, 851, 852, 853, 854, 855, 858, 861, 862, 863, 864, 865, 866, 867, 868, 869, 872, 873, 874, 875, 876, 877, 878, 881, 884, 885, 886, 887, 888, 889, 890, 891, 892, 895, 896, 897, 898, 899, 900, 901, 904, 907, 908, 909, 910, 911, 912, 913, 914, 915, 918, 919, 920, 921, 922, 923, 924, 927, 930, 931, 932, 933, 934, 935, 936, 937, 938, 941, 942, 943, 944, 945, 946, 947, 950, 953, 954, 955, 956, 957, 958, 959, 960, 961, 962, 963, 964, 965, 966, 969, 970, 971, 972, 973, 974, 975, 976, 977, 978, 979, 980, 983, 986, 987, 988, 989, 990, 991, 992, 993, 994, 997, 998, 999, 1000, 1001, 1002, 1003, 1006, 1009, 1010, 1011, 1012, 1013, 1014, 1015, 1016, 1017, 1020, 1021, 1022, 1023, 1024, 1025, 1026, 1029, 1032, 1033, 1034, 1035, 1036, 1037, 1038, 1039, 1040, 1041, 1042, 1043, 1044, 1045, 1046, 1047, 1048, 1049, 1050, 1053, 1054, 1055, 1056, 1057, 1058, 1059, 1060, 1061, 1062, 1063, 1064, 1065, 1066, 1067, 1068, 1069, 1072, 1075, 1076, 1077, 1078, 1079, 1080, 1081, 1082, 1083, 1086, 1087, 1088, 1089, 1090, 1091, 1092, 1095, 1098, 1099, 1100, 1101, 1102, 1103, 1104, 1105, 1106, 1109, 1110, 1111, 1112, 1113, 1114, 1115, 1118, 1121, 1122, 1123, 1124, 1125, 1126, 1127, 1128, 1129, 1130, 1131, 1132, 1133, 1134, 1135, 1136, 1137, 1138, 1139, 1142, 1143, 1144, 1145, 1146, 1147, 1148, 1149, 1150, 1151, 1152, 1153, 1154, 1155, 1156, 1157, 1158, 1161, 1164, 1165, 1166, 1167, 1168, 1169, 1170, 1171, 1172, 1173, 1174, 1175, 1176, 1177, 1178, 1179, 1180, 1181, 1182, 1185, 1186, 1187, 1188, 1189, 1190, 1191, 1192, 1193, 1194, 1195, 1196, 1197, 1198, 1199, 1200, 1201, 1204, 1207, 1208, 1209, 1210, 1211, 1212, 1213, 1214, 1215, 1216, 1217, 1218, 1219, 1220, 1221, 1222, 1223, 1224, 1225, 1226, 1227, 1228, 1229, 1230, 1233, 1234, 1235, 1236, 1237, 1238, 1239, 1240, 1241, 1242, 1243, 1244, 1245, 1246, 1247, 1248, 1249, 1250, 1251, 1252, 1253, 1254, 1257, 1260, 1261, 1262, 1263, 1266, 1267, 1270, 1273, 1274, 1275, 1276, 1277, 1278, 1279, 1280, 1281, 1284, 1285, 1286, 1287, 1288, 1289, 1290, 1293, 1296, 1297, 1298, 1301, 1304, 1305]
/-- a method: its name, bytes, locals, answer, how many it takes (itself too), its class, resolved code, the places of its instructions -/
abbrev ev_MT : Type := MethodName × ByteArray × Nat × Option FieldType × Nat × Nat × List (Instr ⊕ Value) × List Nat
def ev_ml0 : List ev_MT := [(yX0_init, cX0_init, 1, none, 1, 0, cd_X0_init, pb_X0_init),
  (yX0_search, cX0_search, 6, none, 3, 0, cd_X0_search, pb_X0_search),
  (yX0_addSet, cX0_addSet, 3, none, 3, 0, cd_X0_addSet, pb_X0_addSet),
  (yX0_isAsSeen, cX0_isAsSeen, 5, (some .boolean), 3, 0, cd_X0_isAsSeen, pb_X0_isAsSeen),
  (yX1_init, cX1_init, 1, none, 1, 1, cd_X1_init, pb_X1_init),
  (yX1_search, cX1_search, 3, none, 2, 1, cd_X1_search, pb_X1_search),
  (yX1_seatFrom, cX1_seatFrom, 4, none, 2, 1, cd_X1_seatFrom, pb_X1_seatFrom),
  (yX1_takeIt, cX1_takeIt, 3, none, 2, 1, cd_X1_takeIt, pb_X1_takeIt),
  (yX1_isLikeEarlier, cX1_isLikeEarlier, 3, (some .boolean), 2, 1, cd_X1_isLikeEarlier, pb_X1_isLikeEarlier),
  (yX1_atLeastHarm, cX1_atLeastHarm, 6, (some .int), 2, 1, cd_X1_atLeastHarm, pb_X1_atLeastHarm),
  (yX1_fewestRough, cX1_fewestRough, 3, (some .int), 1, 1, cd_X1_fewestRough, pb_X1_fewestRough),
  (yX2_init, cX2_init, 1, none, 1, 2, cd_X2_init, pb_X2_init),
  (yX2_renew, cX2_renew, 4, none, 3, 2, cd_X2_renew, pb_X2_renew),
  (yX2_write, cX2_write, 3, none, 3, 2, cd_X2_write, pb_X2_write),
  (yX2_faultAt, cX2_faultAt, 3, (some .int), 3, 2, cd_X2_faultAt, pb_X2_faultAt),
  (yX2_faultAtTwo, cX2_faultAtTwo, 4, (some .int), 3, 2, cd_X2_faultAtTwo, pb_X2_faultAtTwo),
  (yX3_init, cX3_init, 1, none, 1, 3, cd_X3_init, pb_X3_init),
  (yX3_tell, cX3_tell, 5, (some .boolean), 4, 3, cd_X3_tell, pb_X3_tell),
  (yX3_start, cX3_start, 4, none, 4, 3, cd_X3_start, pb_X3_start),
  (yX3_refuse, cX3_refuse, 3, (some .boolean), 3, 3, cd_X3_refuse, pb_X3_refuse),
  (yX3_agrees, cX3_agrees, 2, (some .boolean), 1, 3, cd_X3_agrees, pb_X3_agrees),
  (yX3_nextToken, cX3_nextToken, 2, (some .boolean), 1, 3, cd_X3_nextToken, pb_X3_nextToken),
  (yX3_takeFigures, cX3_takeFigures, 2, (some .boolean), 1, 3, cd_X3_takeFigures, pb_X3_takeFigures),
  (yX3_pass, cX3_pass, 3, none, 3, 3, cd_X3_pass, pb_X3_pass),
  (yX3_isIn, cX3_isIn, 3, (some .boolean), 3, 3, cd_X3_isIn, pb_X3_isIn),
  (yX3_takeLine, cX3_takeLine, 3, (some .boolean), 1, 3, cd_X3_takeLine, pb_X3_takeLine),
  (yX3_takeNumber, cX3_takeNumber, 4, (some .boolean), 3, 3, cd_X3_takeNumber, pb_X3_takeNumber)]
def ev_ml1 : List ev_MT := [(yX3_putDown, cX3_putDown, 4, none, 2, 3, cd_X3_putDown, pb_X3_putDown),
  (yX3_wordHere, cX3_wordHere, 2, (some .int), 1, 3, cd_X3_wordHere, pb_X3_wordHere),
  (yX3_isHere, cX3_isHere, 3, (some .boolean), 2, 3, cd_X3_isHere, pb_X3_isHere),
  (yX3_wordOf, cX3_wordOf, 1, (some (.object "java/lang/String")), 1, 3, cd_X3_wordOf, pb_X3_wordOf),
  (yX4_init, cX4_init, 1, none, 1, 4, cd_X4_init, pb_X4_init),
  (yX4_clear, cX4_clear, 2, none, 1, 4, cd_X4_clear, pb_X4_clear),
  (yX4_copyFrom, cX4_copyFrom, 3, none, 2, 4, cd_X4_copyFrom, pb_X4_copyFrom),
  (yX4_copyStock, cX4_copyStock, 3, none, 2, 4, cd_X4_copyStock, pb_X4_copyStock),
  (yX4_hasMan, cX4_hasMan, 2, (some .boolean), 2, 4, cd_X4_hasMan, pb_X4_hasMan),
  (yX4_allMen, cX4_allMen, 1, (some .int), 1, 4, cd_X4_allMen, pb_X4_allMen),
  (yX4_menOfKind, cX4_menOfKind, 4, (some .int), 2, 4, cd_X4_menOfKind, pb_X4_menOfKind),
  (yX4_menOfTen, cX4_menOfTen, 4, (some .int), 2, 4, cd_X4_menOfTen, pb_X4_menOfTen),
  (yX4_sizeOfTen, cX4_sizeOfTen, 2, (some .int), 2, 4, cd_X4_sizeOfTen, pb_X4_sizeOfTen),
  (yX4_tensWithMen, cX4_tensWithMen, 3, (some .int), 1, 4, cd_X4_tensWithMen, pb_X4_tensWithMen),
  (yX4_tensOf, cX4_tensOf, 4, (some .int), 2, 4, cd_X4_tensOf, pb_X4_tensOf),
  (yX4_stockOf, cX4_stockOf, 4, (some .int), 2, 4, cd_X4_stockOf, pb_X4_stockOf),
  (yX4_addMan, cX4_addMan, 5, none, 5, 4, cd_X4_addMan, pb_X4_addMan),
  (yX4_setKin, cX4_setKin, 4, none, 4, 4, cd_X4_setKin, pb_X4_setKin),
  (yX4_whyNoSeat, cX4_whyNoSeat, 3, (some .int), 3, 4, cd_X4_whyNoSeat, pb_X4_whyNoSeat),
  (yX4_seat, cX4_seat, 4, (some .int), 3, 4, cd_X4_seat, pb_X4_seat),
  (yX4_giveUp, cX4_giveUp, 2, none, 2, 4, cd_X4_giveUp, pb_X4_giveUp),
  (yX4_maySwap, cX4_maySwap, 3, (some .boolean), 3, 4, cd_X4_maySwap, pb_X4_maySwap),
  (yX4_exchange, cX4_exchange, 4, none, 3, 4, cd_X4_exchange, pb_X4_exchange),
  (yX4_oddsInTen, cX4_oddsInTen, 2, (some .int), 2, 4, cd_X4_oddsInTen, pb_X4_oddsInTen),
  (yX4_oddsIfWatched, cX4_oddsIfWatched, 4, (some .int), 3, 4, cd_X4_oddsIfWatched, pb_X4_oddsIfWatched),
  (yX4_oddsAmong, cX4_oddsAmong, 5, (some .int), 4, 4, cd_X4_oddsAmong, pb_X4_oddsAmong),
  (yX4_wonByWatch, cX4_wonByWatch, 2, (some .int), 2, 4, cd_X4_wonByWatch, pb_X4_wonByWatch)]
def ev_ml2 : List ev_MT := [(yX4_harmOfTen, cX4_harmOfTen, 5, (some .int), 2, 4, cd_X4_harmOfTen, pb_X4_harmOfTen),
  (yX4_harmOfAll, cX4_harmOfAll, 3, (some .int), 1, 4, cd_X4_harmOfAll, pb_X4_harmOfAll),
  (yX4_chanceOf, cX4_chanceOf, 7, (some .long), 3, 4, cd_X4_chanceOf, pb_X4_chanceOf),
  (yX4_mayDoWrong, cX4_mayDoWrong, 2, (some .boolean), 2, 4, cd_X4_mayDoWrong, pb_X4_mayDoWrong),
  (yX4_payAll, cX4_payAll, 3, (some .int), 2, 4, cd_X4_payAll, pb_X4_payAll),
  (yX4_payFines, cX4_payFines, 4, (some .int), 2, 4, cd_X4_payFines, pb_X4_payFines),
  (yX4_payFor, cX4_payFor, 7, (some .int), 2, 4, cd_X4_payFor, pb_X4_payFor),
  (yX4_payCosts, cX4_payCosts, 7, (some .int), 1, 4, cd_X4_payCosts, pb_X4_payCosts),
  (yX4_takeFrom, cX4_takeFrom, 4, (some .int), 3, 4, cd_X4_takeFrom, pb_X4_takeFrom),
  (yX5_init, cX5_init, 2, none, 1, 5, cd_X5_init, pb_X5_init),
  (yX5_feed, cX5_feed, 2, (some .int), 2, 5, cd_X5_feed, pb_X5_feed),
  (yX5_end, cX5_end, 3, (some .int), 2, 5, cd_X5_end, pb_X5_end),
  (yX5_text, cX5_text, 3, (some .int), 1, 5, cd_X5_text, pb_X5_text),
  (yX5_fault, cX5_fault, 1, (some .int), 1, 5, cd_X5_fault, pb_X5_fault),
  (yX5_rule, cX5_rule, 2, (some .int), 2, 5, cd_X5_rule, pb_X5_rule),
  (yX5_man, cX5_man, 3, (some .int), 3, 5, cd_X5_man, pb_X5_man),
  (yX5_ten, cX5_ten, 3, (some .int), 3, 5, cd_X5_ten, pb_X5_ten),
  (yX5_move, cX5_move, 4, (some .int), 3, 5, cd_X5_move, pb_X5_move),
  (yX5_leave, cX5_leave, 4, (some .int), 2, 5, cd_X5_leave, pb_X5_leave),
  (yX5_swap, cX5_swap, 3, (some .int), 3, 5, cd_X5_swap, pb_X5_swap),
  (yX5_watch, cX5_watch, 5, (some .int), 3, 5, cd_X5_watch, pb_X5_watch),
  (yX5_kin, cX5_kin, 5, (some .int), 4, 5, cd_X5_kin, pb_X5_kin),
  (yX5_odd, cX5_odd, 4, (some .int), 3, 5, cd_X5_odd, pb_X5_odd),
  (yX5_law, cX5_law, 4, (some .int), 3, 5, cd_X5_law, pb_X5_law),
  (yX5_goods, cX5_goods, 4, (some .int), 3, 5, cd_X5_goods, pb_X5_goods),
  (yX5_year, cX5_year, 2, (some .int), 2, 5, cd_X5_year, pb_X5_year),
  (yX5_pays, cX5_pays, 3, (some .int), 3, 5, cd_X5_pays, pb_X5_pays)]
def ev_ml3 : List ev_MT := [(yX5_harm, cX5_harm, 1, (some .int), 1, 5, cd_X5_harm, pb_X5_harm),
  (yX5_calm, cX5_calm, 4, (some .long), 3, 5, cd_X5_calm, pb_X5_calm),
  (yX5_mean, cX5_mean, 9, (some .long), 3, 5, cd_X5_mean, pb_X5_mean),
  (yX5_best, cX5_best, 3, (some .int), 2, 5, cd_X5_best, pb_X5_best),
  (yX5_change, cX5_change, 7, (some .int), 2, 5, cd_X5_change, pb_X5_change),
  (yX5_takes, cX5_takes, 6, (some .int), 2, 5, cd_X5_takes, pb_X5_takes),
  (yX5_weight, cX5_weight, 4, (some .int), 2, 5, cd_X5_weight, pb_X5_weight),
  (yX5_should, cX5_should, 6, (some .int), 2, 5, cd_X5_should, pb_X5_should),
  (yX5_guard, cX5_guard, 4, (some .int), 2, 5, cd_X5_guard, pb_X5_guard),
  (yX5_worth, cX5_worth, 5, (some .int), 2, 5, cd_X5_worth, pb_X5_worth),
  (yX5_see, cX5_see, 3, (some .int), 3, 5, cd_X5_see, pb_X5_see),
  (yX5_forget, cX5_forget, 3, (some .int), 2, 5, cd_X5_forget, pb_X5_forget),
  (yX5_fits, cX5_fits, 2, (some .int), 2, 5, cd_X5_fits, pb_X5_fits),
  (yX5_drift, cX5_drift, 10, (some .int), 4, 5, cd_X5_drift, pb_X5_drift),
  (yX5_keep, cX5_keep, 3, (some .int), 2, 5, cd_X5_keep, pb_X5_keep),
  (yX5_back, cX5_back, 2, (some .int), 2, 5, cd_X5_back, pb_X5_back),
  (yX5_sheet, cX5_sheet, 4, (some .int), 4, 5, cd_X5_sheet, pb_X5_sheet),
  (yX5_lay, cX5_lay, 6, (some .int), 4, 5, cd_X5_lay, pb_X5_lay),
  (yX5_read, cX5_read, 10, (some .int), 5, 5, cd_X5_read, pb_X5_read),
  (yX5_torn, cX5_torn, 1, (some .int), 1, 5, cd_X5_torn, pb_X5_torn),
  (yX5_count, cX5_count, 2, (some .int), 2, 5, cd_X5_count, pb_X5_count),
  (yX5_refusalInTen, cX5_refusalInTen, 2, (some .int), 2, 5, cd_X5_refusalInTen, pb_X5_refusalInTen),
  (yX5_isPair, cX5_isPair, 3, (some .boolean), 3, 5, cd_X5_isPair, pb_X5_isPair),
  (yX5_finesOnTrial, cX5_finesOnTrial, 3, (some .int), 3, 5, cd_X5_finesOnTrial, pb_X5_finesOnTrial),
  (yX5_harmBySwap, cX5_harmBySwap, 4, (some .int), 3, 5, cd_X5_harmBySwap, pb_X5_harmBySwap),
  (yX5_isTen, cX5_isTen, 1, (some .boolean), 1, 5, cd_X5_isTen, pb_X5_isTen),
  (yX5_isWithin, cX5_isWithin, 2, (some .boolean), 2, 5, cd_X5_isWithin, pb_X5_isWithin)]
def ev_ml4 : List ev_MT := [(yX5_bitOf, cX5_bitOf, 2, (some .int), 2, 5, cd_X5_bitOf, pb_X5_bitOf),
  (yX5_withBit, cX5_withBit, 3, (some .int), 3, 5, cd_X5_withBit, pb_X5_withBit),
  (yX5_tenthsOf, cX5_tenthsOf, 4, (some .long), 1, 5, cd_X5_tenthsOf, pb_X5_tenthsOf),
  (yX5_inLowestTerms, cX5_inLowestTerms, 7, (some .long), 3, 5, cd_X5_inLowestTerms, pb_X5_inLowestTerms),
  (yX5_greatestCommon, cX5_greatestCommon, 11, (some .long), 2, 5, cd_X5_greatestCommon, pb_X5_greatestCommon),
  (yX6_init, cX6_init, 2, none, 1, 6, cd_X6_init, pb_X6_init),
  (yX6_in, cX6_in, 6, (some .boolean), 3, 6, cd_X6_in, pb_X6_in),
  (yX6_flag, cX6_flag, 1, (some .int), 1, 6, cd_X6_flag, pb_X6_flag),
  (yX6_firstDraft, cX6_firstDraft, 2, none, 1, 6, cd_X6_firstDraft, pb_X6_firstDraft),
  (yX6_keepDraft, cX6_keepDraft, 2, none, 1, 6, cd_X6_keepDraft, pb_X6_keepDraft),
  (yX6_feed, cX6_feed, 2, (some .int), 2, 6, cd_X6_feed, pb_X6_feed),
  (yX6_end, cX6_end, 3, (some .int), 2, 6, cd_X6_end, pb_X6_end),
  (yX6_needs, cX6_needs, 3, none, 3, 6, cd_X6_needs, pb_X6_needs),
  (yX6_byteAt, cX6_byteAt, 2, (some .int), 2, 6, cd_X6_byteAt, pb_X6_byteAt),
  (yX6_is, cX6_is, 6, (some .boolean), 6, 6, cd_X6_is, pb_X6_is),
  (yX6_ends, cX6_ends, 4, (some .boolean), 4, 6, cd_X6_ends, pb_X6_ends),
  (yX6_lineNow, cX6_lineNow, 1, (some .int), 1, 6, cd_X6_lineNow, pb_X6_lineNow),
  (yX6_next, cX6_next, 2, none, 1, 6, cd_X6_next, pb_X6_next),
  (yX6_looked, cX6_looked, 3, (some .int), 3, 6, cd_X6_looked, pb_X6_looked),
  (yX6_readNumber, cX6_readNumber, 4, (some .int), 3, 6, cd_X6_readNumber, pb_X6_readNumber),
  (yX6_readMan, cX6_readMan, 3, none, 2, 6, cd_X6_readMan, pb_X6_readMan),
  (yX6_readMost, cX6_readMost, 3, none, 1, 6, cd_X6_readMost, pb_X6_readMost),
  (yX6_readKin, cX6_readKin, 3, none, 1, 6, cd_X6_readKin, pb_X6_readKin),
  (yX6_readLineOf, cX6_readLineOf, 2, none, 2, 6, cd_X6_readLineOf, pb_X6_readLineOf),
  (yX6_readLine, cX6_readLine, 2, none, 1, 6, cd_X6_readLine, pb_X6_readLine),
  (yX6_doFit, cX6_doFit, 5, (some .boolean), 1, 6, cd_X6_doFit, pb_X6_doFit),
  (yX6_text, cX6_text, 2, (some .int), 1, 6, cd_X6_text, pb_X6_text)]
def ev_ml5 : List ev_MT := [(yX6_fault, cX6_fault, 1, (some .int), 1, 6, cd_X6_fault, pb_X6_fault),
  (yX6_isMan, cX6_isMan, 2, (some .boolean), 2, 6, cd_X6_isMan, pb_X6_isMan),
  (yX6_isTen, cX6_isTen, 1, (some .boolean), 1, 6, cd_X6_isTen, pb_X6_isTen),
  (yX6_isPart, cX6_isPart, 1, (some .boolean), 1, 6, cd_X6_isPart, pb_X6_isPart),
  (yX6_bitsOf, cX6_bitsOf, 3, (some .int), 1, 6, cd_X6_bitsOf, pb_X6_bitsOf),
  (yX6_starts, cX6_starts, 2, none, 1, 6, cd_X6_starts, pb_X6_starts),
  (yX6_settles, cX6_settles, 2, none, 1, 6, cd_X6_settles, pb_X6_settles),
  (yX6_of, cX6_of, 3, (some .int), 3, 6, cd_X6_of, pb_X6_of),
  (yX6_becomesOf, cX6_becomesOf, 4, none, 4, 6, cd_X6_becomesOf, pb_X6_becomesOf),
  (yX6_menOf, cX6_menOf, 4, (some .int), 2, 6, cd_X6_menOf, pb_X6_menOf),
  (yX6_isWatched, cX6_isWatched, 2, (some .boolean), 2, 6, cd_X6_isWatched, pb_X6_isWatched),
  (yX6_oddsOf, cX6_oddsOf, 5, (some .int), 2, 6, cd_X6_oddsOf, pb_X6_oddsOf),
  (yX6_harmOf, cX6_harmOf, 4, (some .int), 2, 6, cd_X6_harmOf, pb_X6_harmOf),
  (yX6_harmAll, cX6_harmAll, 3, (some .int), 1, 6, cd_X6_harmAll, pb_X6_harmAll),
  (yX6_allGoods, cX6_allGoods, 4, (some .int), 2, 6, cd_X6_allGoods, pb_X6_allGoods),
  (yX6_rule, cX6_rule, 4, (some .int), 2, 6, cd_X6_rule, pb_X6_rule),
  (yX6_man, cX6_man, 3, (some .int), 3, 6, cd_X6_man, pb_X6_man),
  (yX6_ten, cX6_ten, 3, (some .int), 3, 6, cd_X6_ten, pb_X6_ten),
  (yX6_becomes, cX6_becomes, 4, (some .int), 3, 6, cd_X6_becomes, pb_X6_becomes),
  (yX6_isWanderer, cX6_isWanderer, 2, (some .boolean), 2, 6, cd_X6_isWanderer, pb_X6_isWanderer),
  (yX6_isFull, cX6_isFull, 2, (some .boolean), 2, 6, cd_X6_isFull, pb_X6_isFull),
  (yX6_move, cX6_move, 4, (some .int), 3, 6, cd_X6_move, pb_X6_move),
  (yX6_leave, cX6_leave, 2, (some .int), 2, 6, cd_X6_leave, pb_X6_leave),
  (yX6_swap, cX6_swap, 5, (some .int), 3, 6, cd_X6_swap, pb_X6_swap),
  (yX6_becomesBit, cX6_becomesBit, 5, (some .int), 4, 6, cd_X6_becomesBit, pb_X6_becomesBit),
  (yX6_watch, cX6_watch, 3, (some .int), 3, 6, cd_X6_watch, pb_X6_watch),
  (yX6_kin, cX6_kin, 4, (some .int), 4, 6, cd_X6_kin, pb_X6_kin)]
def ev_ml6 : List ev_MT := [(yX6_odd, cX6_odd, 3, (some .int), 3, 6, cd_X6_odd, pb_X6_odd),
  (yX6_law, cX6_law, 3, (some .int), 3, 6, cd_X6_law, pb_X6_law),
  (yX6_goods, cX6_goods, 3, (some .int), 3, 6, cd_X6_goods, pb_X6_goods),
  (yX6_pay, cX6_pay, 4, (some .int), 3, 6, cd_X6_pay, pb_X6_pay),
  (yX6_runs, cX6_runs, 8, (some .int), 2, 6, cd_X6_runs, pb_X6_runs),
  (yX6_watches, cX6_watches, 7, (some .int), 2, 6, cd_X6_watches, pb_X6_watches),
  (yX6_yearGoes, cX6_yearGoes, 4, (some .int), 2, 6, cd_X6_yearGoes, pb_X6_yearGoes),
  (yX6_saints, cX6_saints, 3, (some .int), 1, 6, cd_X6_saints, pb_X6_saints),
  (yX6_isWrong, cX6_isWrong, 2, (some .boolean), 2, 6, cd_X6_isWrong, pb_X6_isWrong),
  (yX6_year, cX6_year, 3, (some .int), 2, 6, cd_X6_year, pb_X6_year),
  (yX6_pays, cX6_pays, 3, (some .int), 3, 6, cd_X6_pays, pb_X6_pays),
  (yX6_harm, cX6_harm, 1, (some .int), 1, 6, cd_X6_harm, pb_X6_harm),
  (yX6_common, cX6_common, 10, (some .long), 2, 6, cd_X6_common, pb_X6_common),
  (yX6_told, cX6_told, 7, (some .long), 3, 6, cd_X6_told, pb_X6_told),
  (yX6_calm, cX6_calm, 9, (some .long), 3, 6, cd_X6_calm, pb_X6_calm),
  (yX6_findOdds, cX6_findOdds, 2, none, 1, 6, cd_X6_findOdds, pb_X6_findOdds),
  (yX6_mean, cX6_mean, 11, (some .long), 3, 6, cd_X6_mean, pb_X6_mean),
  (yX6_puttings, cX6_puttings, 3, (some .int), 1, 6, cd_X6_puttings, pb_X6_puttings),
  (yX6_putsBy, cX6_putsBy, 5, (some .boolean), 2, 6, cd_X6_putsBy, pb_X6_putsBy),
  (yX6_best, cX6_best, 6, (some .int), 2, 6, cd_X6_best, pb_X6_best),
  (yX6_change, cX6_change, 9, (some .int), 2, 6, cd_X6_change, pb_X6_change),
  (yX6_takes, cX6_takes, 6, (some .int), 2, 6, cd_X6_takes, pb_X6_takes),
  (yX6_goesAway, cX6_goesAway, 2, none, 2, 6, cd_X6_goesAway, pb_X6_goesAway),
  (yX6_weight, cX6_weight, 4, (some .int), 2, 6, cd_X6_weight, pb_X6_weight),
  (yX6_should, cX6_should, 4, (some .int), 2, 6, cd_X6_should, pb_X6_should),
  (yX6_guard, cX6_guard, 6, (some .int), 2, 6, cd_X6_guard, pb_X6_guard),
  (yX6_worth, cX6_worth, 4, (some .int), 2, 6, cd_X6_worth, pb_X6_worth)]
def ev_ml7 : List ev_MT := [(yX6_see, cX6_see, 3, (some .int), 3, 6, cd_X6_see, pb_X6_see),
  (yX6_forget, cX6_forget, 2, (some .int), 2, 6, cd_X6_forget, pb_X6_forget),
  (yX6_isSo, cX6_isSo, 5, (some .boolean), 2, 6, cd_X6_isSo, pb_X6_isSo),
  (yX6_tensOf, cX6_tensOf, 5, (some .int), 2, 6, cd_X6_tensOf, pb_X6_tensOf),
  (yX6_fits, cX6_fits, 9, (some .int), 2, 6, cd_X6_fits, pb_X6_fits),
  (yX6_drift, cX6_drift, 9, (some .int), 4, 6, cd_X6_drift, pb_X6_drift),
  (yX6_copies, cX6_copies, 4, none, 3, 6, cd_X6_copies, pb_X6_copies),
  (yX6_keep, cX6_keep, 3, (some .int), 2, 6, cd_X6_keep, pb_X6_keep),
  (yX6_back, cX6_back, 2, (some .int), 2, 6, cd_X6_back, pb_X6_back),
  (yX6_isSheet, cX6_isSheet, 2, (some .boolean), 2, 6, cd_X6_isSheet, pb_X6_isSheet),
  (yX6_sheet, cX6_sheet, 5, (some .int), 4, 6, cd_X6_sheet, pb_X6_sheet),
  (yX6_lay, cX6_lay, 4, (some .int), 4, 6, cd_X6_lay, pb_X6_lay),
  (yX6_read, cX6_read, 11, (some .int), 5, 6, cd_X6_read, pb_X6_read),
  (yX6_torn, cX6_torn, 1, (some .int), 1, 6, cd_X6_torn, pb_X6_torn),
  (yX6_count, cX6_count, 5, (some .int), 2, 6, cd_X6_count, pb_X6_count),
  (yJ6_bitCount_0f7a4, cJ6_bitCount_0f7a4, 1, (some .int), 1, 8, cd_J6_bitCount_0f7a4, pb_J6_bitCount_0f7a4),
  (yJ9_min_7cf53, cJ9_min_7cf53, 2, (some .int), 2, 9, cd_J9_min_7cf53, pb_J9_min_7cf53),
  (yJ0_length_8abf5, cJ0_length_8abf5, 1, (some .int), 1, 10, cd_J0_length_8abf5, pb_J0_length_8abf5),
  (yJ0_charAt_5068e, cJ0_charAt_5068e, 2, (some .char), 2, 10, cd_J0_charAt_5068e, pb_J0_charAt_5068e),
  (yJ0_coder_7d493, cJ0_coder_7d493, 1, (some .byte), 1, 10, cd_J0_coder_7d493, pb_J0_coder_7d493),
  (yJ0_isLatin1_aae02, cJ0_isLatin1_aae02, 1, (some .boolean), 1, 10, cd_J0_isLatin1_aae02, pb_J0_isLatin1_aae02),
  (yJ0_checkIndex_df160, cJ0_checkIndex_df160, 2, none, 2, 10, cd_J0_checkIndex_df160, pb_J0_checkIndex_df160),
  (yJ1_charAt_3b067, cJ1_charAt_3b067, 2, (some .char), 2, 11, cd_J1_charAt_3b067, pb_J1_charAt_3b067),
  (yJ3_checkIndex_8e157, cJ3_checkIndex_8e157, 3, (some .int), 3, 12, cd_J3_checkIndex_8e157, pb_J3_checkIndex_8e157),
  (yL_law, cL_law, 4, (some .boolean), 1, 7, cd_L_law, pb_L_law)]
def ev_ml : List ev_MT := ev_ml0 ++ (ev_ml1 ++ (ev_ml2 ++ (ev_ml3 ++ (ev_ml4 ++ (ev_ml5 ++ (ev_ml6 ++ (ev_ml7)))))))
def ev_nm : Nat := 214
def ev_cn (i : Nat) : String := [RX0, RX1, RX2, RX3, RX4, RX5, RX6, RL, RJ6, RJ9, RJ0, RJ1, RJ3].getD i ""
abbrev ev_cl : List vw_C := [(RX0, TX0, 5), (RX1, TX1, 6), (RX2, TX2, 3), (RX3, TX3, 15), (RX4, TX4, 14), (RX5, TX5, 12), (RX6, TX6, 26)]
end
section
/-! A machine of our own: it runs resolved code over numbered cells. A cell: an array of numbers (kind, what it holds), or an object or an array of references (class, what it holds). '.ref k' is the cell k, '.retAddr k' a thing that was there before, '.float 0' a local that nobody has set, '.double 0' a long's second half. -/
abbrev ev_C : Type := (Nat × List Int32) ⊕ (Nat × List Value)
abbrev ev_H : Type := List ev_C
abbrev ev_I : Type := Instr ⊕ Value
def ev_ft : List ev_I → Nat → Option ev_I
  | [], _ => none
  | a :: _, 0 => some a
  | _ :: l, n + 1 => ev_ft l n
def ev_lg : List Value → Nat → Option Value
  | [], _ => none
  | a :: _, 0 => some a
  | _ :: l, n + 1 => ev_lg l n
def ev_half : Value → Bool
  | .double _ => true
  | _ => false
def ev_isL : Value → Bool
  | .long _ => true
  | _ => false
def ev_ok1 : List Value → Nat → Bool
  | [], _ => false
  | a :: _, 0 => !ev_half a
  | _ :: l, n + 1 => ev_ok1 l n
def ev_ok2 : List Value → Nat → Bool
  | a :: _ :: _, 0 => !ev_half a
  | _ :: l, n + 1 => ev_ok2 l n
  | _, _ => false
def ev_un : List Value → List Value
  | [] => []
  | _ :: l => .float 0 :: l
def ev_s1 : List Value → Nat → Value → List Value
  | [], _, _ => []
  | a :: l, 0, v => match ev_isL a with
    | true => v :: ev_un l
    | false => v :: l
  | a :: l, n + 1, v => a :: ev_s1 l n v
def ev_s2 : List Value → Nat → Value → List Value
  | _ :: _ :: l, 0, v => v :: .double 0 :: l
  | a :: l, n + 1, v => a :: ev_s2 l n v
  | l, _, _ => l
def ev_lay : List Value → Nat → List Value
  | [], n => List.replicate n (.float 0)
  | v :: l, n => match ev_isL v, n with
    | true, n + 2 => v :: .double 0 :: ev_lay l n
    | false, n + 1 => v :: ev_lay l n
    | _, _ => []
def ev_ii (st : List Value) (f : Int32 → Int32 → Int32) : Option (List Value) := match st with
  | .int y :: .int x :: r => some (.int (f x y) :: r)
  | _ => none
def ev_ll (st : List Value) (f : Int64 → Int64 → Int64) : Option (List Value) := match st with
  | .long y :: .long x :: r => some (.long (f x y) :: r)
  | _ => none
def ev_i1 (st : List Value) (f : Int32 → Value) : Option (List Value) := match st with
  | .int x :: r => some (f x :: r)
  | _ => none
def ev_inc (n : Int) (x : Int32) : Int32 := match n with
  | .ofNat 1 => x + 1
  | n => x + Int32.ofInt n
def ev_nx (pc : Nat) (ls : List Value) (o : Option (List Value)) : Option (Nat × List Value × List Value) := match o with
  | some st => some (pc + 1, ls, st)
  | none => none
/-- what needs no cells, and does not turn off -/
def ev_xP (i : ev_I) (pc : Nat) (ls st : List Value) : Option (Nat × List Value × List Value) := match i with
  | .inr v => some (pc + 1, ls, v :: st)
  | .inl ins => match ins with
    | .iload k => match ev_lg ls k with
      | some (.int x) => some (pc + 1, ls, .int x :: st)
      | _ => none
    | .lload k => match ev_lg ls k with
      | some (.long x) => some (pc + 1, ls, .long x :: st)
      | _ => none
    | .aload k => match ev_lg ls k with
      | some (.ref x) => some (pc + 1, ls, .ref x :: st)
      | some (.retAddr x) => match x with
        | 4 => none
        | x => some (pc + 1, ls, .retAddr x :: st)
      | _ => none
    | .istore k => match st with
      | .int x :: r => match ev_ok1 ls k with
        | true => some (pc + 1, ev_s1 ls k (.int x), r)
        | false => none
      | _ => none
    | .astore k => match st with
      | .ref x :: r => match ev_ok1 ls k with
        | true => some (pc + 1, ev_s1 ls k (.ref x), r)
        | false => none
      | _ => none
    | .lstore k => match st with
      | .long x :: r => match ev_ok2 ls k with
        | true => some (pc + 1, ev_s2 ls k (.long x), r)
        | false => none
      | _ => none
    | .iinc k n => match ev_lg ls k with
      | some (.int x) => match ev_ok1 ls k with
        | true => some (pc + 1, ev_s1 ls k (.int (ev_inc n x)), st)
        | false => none
      | _ => none
    | .iadd => ev_nx pc ls (ev_ii st (fun x y => x + y))
    | .isub => ev_nx pc ls (ev_ii st (fun x y => x - y))
    | .imul => ev_nx pc ls (ev_ii st (fun x y => x * y))
    | .iand => ev_nx pc ls (ev_ii st (fun x y => x &&& y))
    | .ior => ev_nx pc ls (ev_ii st (fun x y => x ||| y))
    | .ixor => ev_nx pc ls (ev_ii st (fun x y => x ^^^ y))
    | .ishl => ev_nx pc ls (ev_ii st (fun x y => x <<< (y &&& 31)))
    | .ishr => ev_nx pc ls (ev_ii st (fun x y => x >>> (y &&& 31)))
    | .iushr => ev_nx pc ls (ev_ii st (fun x y => (x.toUInt32 >>> (y.toUInt32 &&& Int32.toUInt32 31)).toInt32))
    | .ladd => ev_nx pc ls (ev_ll st (fun x y => x + y))
    | .lmul => ev_nx pc ls (ev_ll st (fun x y => x * y))
    | .lcmp => match st with
      | .long y :: .long x :: r => some (pc + 1, ls, .int (lg_cmp x y) :: r)
      | _ => none
    | .i2l => ev_nx pc ls (ev_i1 st (fun x => .long x.toInt64))
    | .i2b => ev_nx pc ls (ev_i1 st (fun x => .int x.toInt8.toInt32))
    | .i2s => ev_nx pc ls (ev_i1 st (fun x => .int x.toInt16.toInt32))
    | .i2c => ev_nx pc ls (ev_i1 st (fun x => .int (x.toUInt32 % 65536).toInt32))
    | .dup => match st with
      | .int x :: r => some (pc + 1, ls, .int x :: .int x :: r)
      | .ref x :: r => some (pc + 1, ls, .ref x :: .ref x :: r)
      | _ => none
    | .dup2 => match st with
      | .int y :: .ref x :: r => some (pc + 1, ls, .int y :: .ref x :: .int y :: .ref x :: r)
      | _ => none
    | .pop => match st with
      | .int _ :: r => some (pc + 1, ls, r)
      | _ => none
    | .goto t => some (t.toNat, ls, st)
    | _ => none
def ev_cb (c : ClassFile.Cond) (x y : Int32) : Bool := match c with
  | .eq => decide (x = y)
  | .ne => decide (¬ x = y)
  | .lt => decide (x < y)
  | .ge => decide (y ≤ x)
  | .gt => decide (y < x)
  | .le => decide (x ≤ y)
def ev_br (b : Bool) (t f : Nat) : Nat := match b with
  | true => t
  | false => f
/-- what turns off, and what may divide by 0 -/
def ev_xB (i : ev_I) (pc : Nat) (st : List Value) : Option (Nat × List Value) := match i with
  | .inr _ => none
  | .inl ins => match ins with
    | .if_icmp c t => match st with
      | .int y :: .int x :: r => some (ev_br (ev_cb c x y) t.toNat (pc + 1), r)
      | _ => none
    | .ifCond c t => match st with
      | .int x :: r => some (ev_br (ev_cb c x 0) t.toNat (pc + 1), r)
      | _ => none
    | .tableswitch d lo hi offs => match st with
      | .int x :: r => some (if x.toInt < lo ∨ hi < x.toInt then d.toNat else (offs.toList.getD (x.toInt - lo).toNat d).toNat, r)
      | _ => none
    | .lookupswitch d ps => match st with
      | .int x :: r => some ((Op.lookupswitch.offset ps.toList d x.toInt).toNat, r)
      | _ => none
    | .idiv => match st with
      | .int y :: .int x :: r => if y = 0 then none else some (pc + 1, .int (x / y) :: r)
      | _ => none
    | .irem => match st with
      | .int y :: .int x :: r => if y = 0 then none else some (pc + 1, .int (x - x / y * y) :: r)
      | _ => none
    | .ldiv => match st with
      | .long y :: .long x :: r => if y = 0 then none else some (pc + 1, .long (x / y) :: r)
      | _ => none
    | .lrem => match st with
      | .long y :: .long x :: r => if y = 0 then none else some (pc + 1, .long (x - x / y * y) :: r)
      | _ => none
    | _ => none
def ev_ro (scr : List Int32) (k : Nat) : Option (List Int32) := match k with
  | 0 => some scr
  | 1 => some [3, 3, 2, 2, 1, 1, 2, 2]
  | 2 => some [0, 0, 0, 0, 0, 0, 0, 0, 0, 0, 0, 0, 0, 0, 0, 0, 0, 0, 0, 1, 0, 0, 0, 0]
  | 3 => some [9, 99, 3, 9, 99, 3, 99, 3, 0, 9, 99, 0, 99, 0, 0, 9, 0, 0, 3, 5, 0, 7, 7, 0]
  | 20 => some [99, 97, 108, 109]
  | 21 => some [113, 117, 97, 114, 114, 101, 108]
  | 22 => some [115, 97, 105, 110, 116]
  | 23 => some [119, 97, 110, 100, 101, 114]
  | 24 => some [102, 105, 110, 101]
  | 25 => some [119, 97, 116, 99, 104]
  | 26 => some [109, 111, 115, 116]
  | 27 => some [107, 105, 110]
  | _ => none
def ev_df (c : Nat) : List Value := match c with
  | 0 => [.int 0, .int 0, .int 0, .int 0, .int 0]
  | 1 => [.null, .int 0, .null, .null, .null, .null]
  | 2 => [.int 0, .int 0, .null]
  | 3 => [.int 0, .int 0, .int 0, .null, .null, .int 0, .int 0, .int 0, .int 0, .int 0, .null, .int 0, .int 0, .int 0, .int 0]
  | 4 => [.int 0, .int 0, .int 0, .int 0, .int 0, .int 0, .null, .null, .null, .null, .null, .null, .null, .null]
  | 5 => [.null, .null, .null, .null, .null, .null, .null, .null, .null, .int 0, .int 0, .int 0]
  | 6 => [.null, .null, .null, .int 0, .null, .null, .int 0, .null, .int 0, .int 0, .int 0, .null, .int 0, .int 0, .int 0, .int 0, .int 0, .int 0, .int 0, .null, .null, .null, .null, .null, .int 0, .null]
  | _ => []
def ev_in (j : Int32) (n : Nat) : Bool := !(decide (j < 0) || decide (n ≤ j.toNatClampNeg))
def ev_bz (x : Int32) : Bool := decide (x = 0) || decide (x = 1)
/-- what reads, writes or makes cells -/
def ev_xH (scr : List Int32) (i : ev_I) (st : List Value) (h : ev_H) : Option (List Value × ev_H) := match i with
  | .inr _ => none
  | .inl ins => match ins with
    | .nop => some (st, h)
    | .getfield i => match st with
      | .ref a :: r => match h[a]? with
        | some (.inr (c, vs)) => match Nat.beq c (i / 32), vs[i % 32]? with
          | true, some v => some (v :: r, h)
          | _, _ => none
        | _ => none
      | _ => none
    | .putfield i => match st with
      | .int x :: .ref a :: r => match h[a]? with
        | some (.inr (c, vs)) => match Nat.beq c (i / 32), Nat.blt (i % 32) vs.length with
          | true, true => some (r, h.set a (.inr (c, vs.set (i % 32) (.int x))))
          | _, _ => none
        | _ => none
      | _ => none
    | .multianewarray i _ => match st with
      | .int x :: .ref a :: r => match h[a]? with
        | some (.inr (c, vs)) => match Nat.beq c (i / 32), Nat.blt (i % 32) vs.length, ev_bz x with
          | true, true, true => some (r, h.set a (.inr (c, vs.set (i % 32) (.int x))))
          | _, _, _ => none
        | _ => none
      | _ => none
    | .putstatic i => match st with
      | .ref b :: .ref a :: r => match h[a]? with
        | some (.inr (c, vs)) => match Nat.beq c (i / 32), Nat.blt (i % 32) vs.length with
          | true, true => some (r, h.set a (.inr (c, vs.set (i % 32) (.ref b))))
          | _, _ => none
        | _ => none
      | _ => none
    | .iaload => match st with
      | .int j :: .ref a :: r => match h[a]? with
        | some (.inl (0, xs)) => match ev_in j xs.length with
          | true => some (.int (xs.getD j.toNatClampNeg 0) :: r, h)
          | false => none
        | _ => none
      | _ => none
    | .baload => match st with
      | .int j :: .ref a :: r => match h[a]? with
        | some (.inl (1, xs)) => match ev_in j xs.length with
          | true => some (.int (xs.getD j.toNatClampNeg 0) :: r, h)
          | false => none
        | some (.inl (2, xs)) => match ev_in j xs.length with
          | true => some (.int (xs.getD j.toNatClampNeg 0) :: r, h)
          | false => none
        | _ => none
      | _ => none
    | .iastore => match st with
      | .int x :: .int j :: .ref a :: r => match h[a]? with
        | some (.inl (0, xs)) => match ev_in j xs.length with
          | true => some (r, h.set a (.inl (0, xs.set j.toNatClampNeg x)))
          | false => none
        | _ => none
      | _ => none
    | .bastore => match st with
      | .int x :: .int j :: .ref a :: r => match h[a]? with
        | some (.inl (1, xs)) => match ev_in j xs.length with
          | true => some (r, h.set a (.inl (1, xs.set j.toNatClampNeg (vp_nar .byte x))))
          | false => none
        | some (.inl (2, xs)) => match ev_in j xs.length with
          | true => some (r, h.set a (.inl (2, xs.set j.toNatClampNeg (vp_nar .boolean x))))
          | false => none
        | _ => none
      | _ => none
    | .aaload => match st with
      | .int j :: .ref a :: r => match h[a]? with
        | some (.inr (c, vs)) => match Nat.blt 9 c, ev_in j vs.length, vs[j.toNatClampNeg]? with
          | true, true, some (.ref b) => some (.ref b :: r, h)
          | _, _, _ => none
        | _ => none
      | _ => none
    | .aastore => match st with
      | .ref b :: .int j :: .ref a :: r => match h[a]?, h[b]? with
        | some (.inr (c, vs)), some (.inr (cb, _)) => match Nat.beq c (10 + cb), Nat.blt cb 7, ev_in j vs.length with
          | true, true, true => some (r, h.set a (.inr (c, vs.set j.toNatClampNeg (.ref b))))
          | _, _, _ => none
        | _, _ => none
      | _ => none
    | .new c => match Nat.blt c 7 with
      | true => some (.ref h.length :: st, h ++ [.inr (c, ev_df c)])
      | false => none
    | .newarray t => match st with
      | .int n :: r => match ev_in n 201, t with
        | true, .int => some (.ref h.length :: r, h ++ [.inl (0, List.replicate n.toNatClampNeg 0)])
        | true, .byte => some (.ref h.length :: r, h ++ [.inl (1, List.replicate n.toNatClampNeg 0)])
        | true, .boolean => some (.ref h.length :: r, h ++ [.inl (2, List.replicate n.toNatClampNeg 0)])
        | _, _ => none
      | _ => none
    | .anewarray c => match st with
      | .int n :: r => match ev_in n 201, Nat.blt c 7 with
        | true, true => some (.ref h.length :: r, h ++ [.inr (10 + c, List.replicate n.toNatClampNeg .null)])
        | _, _ => none
      | _ => none
    | .faload => match st with
      | .int j :: .retAddr a :: r => match Nat.blt a 4, ev_ro scr a with
        | true, some xs => match ev_in j xs.length with
          | true => some (.int (xs.getD j.toNatClampNeg 0) :: r, h)
          | false => none
        | _, _ => none
      | _ => none
    | .caload => match st with
      | .int j :: .retAddr a :: r => match Nat.blt a 20, ev_ro scr a with
        | false, some xs => match ev_in j xs.length with
          | true => some (.int (xs.getD j.toNatClampNeg 0) :: r, h)
          | false => none
        | _, _ => none
      | _ => none
    | .arraylength => match st with
      | .retAddr a :: r => match ev_ro scr a with
        | some xs => some (.int (Int32.ofNat xs.length) :: r, h)
        | none => none
      | _ => none
    | .dload k => match st with
      | .retAddr a :: r => match Nat.blt 9 a, Nat.blt a 18, k with
        | true, true, 0 => some (.retAddr (a + 10) :: r, h)
        | true, true, 1 => some (.int 0 :: r, h)
        | _, _, _ => none
      | _ => none
    | _ => none
def ev_nrw (t : Nat) (x : Int32) : Bool := match t with
  | 0 => ev_bz x
  | 1 => decide (narrow .byte (.int x) = .int x)
  | _ => decide (narrow .char (.int x) = .int x)
/-- a method's end -/
def ev_xR (i : ev_I) (st : List Value) : Option (Option Value) := match i with
  | .inr _ => none
  | .inl ins => match ins with
    | .return_ => match st with
      | [] => some none
      | _ => none
    | .ireturn => match st with
      | [.int x] => some (some (.int x))
      | _ => none
    | .ret t => match st with
      | [.int x] => match ev_nrw t x with
        | true => some (some (.int x))
        | false => none
      | _ => none
    | .lreturn => match st with
      | [.long x] => some (some (.long x))
      | _ => none
    | .areturn => match st with
      | [.retAddr x] => match Nat.beq x 4 with
        | true => none
        | false => some (some (.retAddr x))
      | _ => none
    | _ => none
def ev_xC (i : ev_I) : Option Nat := match i with
  | .inr _ => none
  | .inl ins => match ins with
    | .invokevirtual k => some k
    | .invokestatic k => some k
    | .invokespecial k => some k
    | .monitorexit => some 999
    | _ => none
def ev_rec (own : Nat) (v : Option Value) (h : ev_H) : Bool := match v with
  | some (.ref b) => match h[b]? with
    | some (.inr (c, _)) => Nat.beq c own && Nat.blt own 7
    | _ => false
  | some (.retAddr k) => Nat.beq own 10 && Nat.blt 9 k && Nat.blt k 18
  | _ => false
def ev_cok (i : ev_I) (st : List Value) (np own : Nat) (h : ev_H) : Bool := match i with
  | .inr _ => false
  | .inl ins => Nat.ble np st.length && Nat.ble (st.drop np).length 4 && (match ins with
    | .invokevirtual _ => ev_rec own (ev_lg (st.take np).reverse 0) h
    | .invokespecial _ => match ev_lg (st.take np).reverse 0 with
      | some (.ref _) => true
      | _ => false
    | _ => true)
abbrev ev_Q : Type := (Nat × List Value × List Value × ev_H) ⊕ (Option Value ⊕ Nat)
def ev_S (scr : List Int32) (i : ev_I) (pc : Nat) (ls st : List Value) (h : ev_H) : Option ev_Q :=
  match ev_xP i pc ls st with
  | some (pc', ls', st') => some (.inl (pc', ls', st', h))
  | none => match ev_xB i pc st with
    | some (pc', st') => some (.inl (pc', ls, st', h))
    | none => match ev_xH scr i st h with
      | some (st', h') => some (.inl (pc + 1, ls, st', h'))
      | none => match ev_xR i st with
        | some v => some (.inr (.inl v))
        | none => match ev_xC i with
          | some k => some (.inr (.inr k))
          | none => none
def ev_pr (k : Nat) : Option (List ev_I × Nat × Nat × Nat) := match ev_ml[k]? with
  | some (_, _, mL, _, np, own, cd, _) => some (cd, mL, np, own)
  | none => none
def ev_E (scr : List Int32) : Nat → Nat → List ev_I → Nat → List Value → List Value → ev_H → Option (Option Value × ev_H)
  | 0, _, _, _, _, _, _ => none
  | n + 1, d, cd, pc, ls, st, h => match ev_ft cd pc with
    | none => none
    | some i => match ev_S scr i pc ls st h with
      | none => none
      | some (.inl (pc', ls', st', h')) => ev_E scr n d cd pc' ls' st' h'
      | some (.inr (.inl v)) => some (v, h)
      | some (.inr (.inr k)) => match d with
        | 0 => none
        | d' + 1 => match ev_pr k with
          | none => match Nat.beq k 999, st with
            | true, .ref _ :: r => ev_E scr n (d' + 1) cd (pc + 1) ls r h
            | _, _ => none
          | some (cd', mL, np, own) => match ev_cok i st np own h with
            | false => none
            | true => match ev_E scr n d' cd' 0 (ev_lay (st.take np).reverse mL) [] h with
              | none => none
              | some (v, h') => ev_E scr n (d' + 1) cd (pc + 1) ls (v.toList ++ st.drop np) h'
/-- it comes to an end, with r -/
def ev_V (scr : List Int32) (d : Nat) (cd : List ev_I) (pc : Nat) (ls st : List Value) (h : ev_H) (r : Option Value × ev_H) : Prop := ∃ n, ev_E scr n d cd pc ls st h = some r
theorem ev_mono (scr : List Int32) : ∀ (n d : Nat) (cd : List ev_I) (pc : Nat) (ls st : List Value) (h : ev_H) (r : Option Value × ev_H), ev_E scr n d cd pc ls st h = some r → ∀ n' d', n ≤ n' → d ≤ d' → ev_E scr n' d' cd pc ls st h = some r := by
  intro n
  induction n with
  | zero => intro d cd pc ls st h r hr; cases hr
  | succ n ih =>
    intro d cd pc ls st h r hr n' d' hn hd
    obtain ⟨m, rfl⟩ : ∃ m, n' = m + 1 := ⟨n' - 1, by omega⟩
    have hm : n ≤ m := by omega
    unfold ev_E at hr ⊢
    cases hf : ev_ft cd pc with
    | none => rw [hf] at hr; cases hr
    | some i =>
      rw [hf] at hr
      dsimp only at hr ⊢
      cases hs : ev_S scr i pc ls st h with
      | none => rw [hs] at hr; cases hr
      | some q =>
        rw [hs] at hr
        match q, hr with
        | .inl (pc', ls', st', h'), hr => exact ih _ _ _ _ _ _ _ hr _ _ hm hd
        | .inr (.inl v), hr => exact hr
        | .inr (.inr k), hr =>
          dsimp only at hr ⊢
          cases d with
          | zero => cases hr
          | succ d0 =>
            obtain ⟨e, rfl⟩ : ∃ e, d' = e + 1 := ⟨d' - 1, by omega⟩
            dsimp only at hr ⊢
            cases hp : ev_pr k with
            | none =>
              rw [hp] at hr
              dsimp only at hr ⊢
              split at hr
              next => exact ih _ _ _ _ _ _ _ hr _ _ hm hd
              next => cases hr
            | some M =>
              obtain ⟨cd', mL, np, own⟩ := M
              rw [hp] at hr
              dsimp only at hr ⊢
              cases hc : ev_cok i st np own h with
              | false => rw [hc] at hr; cases hr
              | true =>
                rw [hc] at hr
                dsimp only at hr ⊢
                cases he : ev_E scr n d0 cd' 0 (ev_lay (st.take np).reverse mL) [] h with
                | none => rw [he] at hr; cases hr
                | some w =>
                  obtain ⟨v, h'⟩ := w
                  rw [he] at hr
                  rw [ih _ _ _ _ _ _ _ he m e hm (by omega)]
                  exact ih _ _ _ _ _ _ _ hr _ _ hm hd
section EV
variable {scr : List Int32} {d : Nat} {cd : List ev_I} {pc : Nat} {ls st : List Value} {h : ev_H} {r : Option Value × ev_H}
theorem ev_V.more {d' : Nat} (hd : d ≤ d') (H : ev_V scr d cd pc ls st h r) : ev_V scr d' cd pc ls st h r := by
  obtain ⟨n, e⟩ := H
  exact ⟨n, ev_mono scr _ _ _ _ _ _ _ _ e _ _ (Nat.le_refl n) hd⟩
theorem ev_step {i : ev_I} {pc' : Nat} {ls' st' : List Value} {h' : ev_H} (hf : ev_ft cd pc = some i) (hs : ev_S scr i pc ls st h = some (.inl (pc', ls', st', h'))) (K : ev_V scr d cd pc' ls' st' h' r) : ev_V scr d cd pc ls st h r := by
  obtain ⟨n, e⟩ := K
  refine ⟨n + 1, ?_⟩
  unfold ev_E
  rw [hf]
  dsimp only
  rw [hs]
  exact e
theorem ev_ret {i : ev_I} {v : Option Value} (hf : ev_ft cd pc = some i) (hs : ev_S scr i pc ls st h = some (.inr (.inl v))) : ev_V scr d cd pc ls st h (v, h) := by
  refine ⟨1, ?_⟩
  unfold ev_E
  rw [hf]
  dsimp only
  rw [hs]
theorem ev_call {i : ev_I} {k d' : Nat} {cd' : List ev_I} {mL np own : Nat} {v : Option Value} {h' : ev_H} (hf : ev_ft cd pc = some i) (hs : ev_S scr i pc ls st h = some (.inr (.inr k))) (hp : ev_pr k = some (cd', mL, np, own)) (hc : ev_cok i st np own h = true) (hd : d' < d)
    (C : ev_V scr d' cd' 0 (ev_lay (st.take np).reverse mL) [] h (v, h')) (K : ev_V scr d cd (pc + 1) ls (v.toList ++ st.drop np) h' r) : ev_V scr d cd pc ls st h r := by
  obtain ⟨d0, rfl⟩ : ∃ d0, d = d0 + 1 := ⟨d - 1, by omega⟩
  obtain ⟨n1, e1⟩ := C
  obtain ⟨n2, e2⟩ := K
  refine ⟨max n1 n2 + 1, ?_⟩
  unfold ev_E
  rw [hf]
  dsimp only
  rw [hs]
  dsimp only
  rw [hp]
  dsimp only
  rw [hc]
  dsimp only
  rw [ev_mono scr _ _ _ _ _ _ _ _ e1 (max n1 n2) d0 (by omega) (by omega)]
  exact ev_mono scr _ _ _ _ _ _ _ _ e2 _ _ (by omega) (Nat.le_refl _)
/-- as far as it goes without cells and without turning off -/
def ev_run : Nat → List ev_I → Nat → List Value → List Value → Nat × List Value × List Value
  | 0, _, pc, ls, st => (pc, ls, st)
  | n + 1, cd, pc, ls, st => match ev_ft cd pc with
    | none => (pc, ls, st)
    | some i => match ev_xP i pc ls st with
      | none => (pc, ls, st)
      | some (pc', ls', st') => ev_run n cd pc' ls' st'
theorem ev_go (n : Nat) {pc' : Nat} {ls' st' : List Value} (hr : ev_run n cd pc ls st = (pc', ls', st')) (K : ev_V scr d cd pc' ls' st' h r) : ev_V scr d cd pc ls st h r := by
  induction n generalizing pc ls st with
  | zero => cases hr; exact K
  | succ n ih =>
    unfold ev_run at hr
    cases hf : ev_ft cd pc with
    | none => rw [hf] at hr; cases hr; exact K
    | some i =>
      rw [hf] at hr
      dsimp only at hr
      cases hx : ev_xP i pc ls st with
      | none => rw [hx] at hr; cases hr; exact K
      | some q =>
        obtain ⟨p1, l1, s1⟩ := q
        rw [hx] at hr
        refine ev_step (pc' := p1) (ls' := l1) (st' := s1) (h' := h) hf ?_ (ih hr)
        unfold ev_S
        rw [hx]
end EV
end
section
section ER
variable {scr : List Int32} {d : Nat} {cd : List ev_I} {pc : Nat} {ls st : List Value} {h : ev_H} {r : Option Value × ev_H}
theorem ev_nop (hf : ev_ft cd pc = some (.inl .nop)) (K : ev_V scr d cd (pc + 1) ls st h r) : ev_V scr d cd pc ls st h r := ev_step hf rfl K
theorem ev_getf {i a c : Nat} {vs : List Value} {v : Value} (hf : ev_ft cd pc = some (.inl (.getfield i))) (hh : h[a]? = some (.inr (c, vs))) (hc : Nat.beq c (i / 32) = true) (hv : vs[i % 32]? = some v) (K : ev_V scr d cd (pc + 1) ls (v :: st) h r) : ev_V scr d cd pc ls (.ref a :: st) h r := by
  refine ev_step hf (pc' := pc + 1) (ls' := ls) (st' := v :: st) (h' := h) ?_ K
  simp only [ev_S, ev_xP, ev_xB, ev_xH, hh, hc, hv]
theorem ev_putf {i a c : Nat} {vs : List Value} {x : Int32} (hf : ev_ft cd pc = some (.inl (.putfield i))) (hh : h[a]? = some (.inr (c, vs))) (hc : Nat.beq c (i / 32) = true) (hl : Nat.blt (i % 32) vs.length = true) (K : ev_V scr d cd (pc + 1) ls st (h.set a (.inr (c, vs.set (i % 32) (.int x)))) r) : ev_V scr d cd pc ls (.int x :: .ref a :: st) h r := by
  refine ev_step hf ?_ K
  simp only [ev_S, ev_xP, ev_xB, ev_xH, hh, hc, hl]
theorem ev_putz {i a c n : Nat} {vs : List Value} {x : Int32} (hf : ev_ft cd pc = some (.inl (.multianewarray i n))) (hh : h[a]? = some (.inr (c, vs))) (hc : Nat.beq c (i / 32) = true) (hl : Nat.blt (i % 32) vs.length = true) (hz : ev_bz x = true) (K : ev_V scr d cd (pc + 1) ls st (h.set a (.inr (c, vs.set (i % 32) (.int x)))) r) : ev_V scr d cd pc ls (.int x :: .ref a :: st) h r := by
  refine ev_step hf ?_ K
  simp only [ev_S, ev_xP, ev_xB, ev_xH, hh, hc, hl, hz]
theorem ev_putr {i a c b : Nat} {vs : List Value} (hf : ev_ft cd pc = some (.inl (.putstatic i))) (hh : h[a]? = some (.inr (c, vs))) (hc : Nat.beq c (i / 32) = true) (hl : Nat.blt (i % 32) vs.length = true) (K : ev_V scr d cd (pc + 1) ls st (h.set a (.inr (c, vs.set (i % 32) (.ref b)))) r) : ev_V scr d cd pc ls (.ref b :: .ref a :: st) h r := by
  refine ev_step hf ?_ K
  simp only [ev_S, ev_xP, ev_xB, ev_xH, hh, hc, hl]
theorem ev_in_of {j : Int32} {n L : Nat} (hj : j = nI n) (hn : n < L) (hb : n < 1000) : ev_in j L = true ∧ j.toNatClampNeg = n := by
  subst hj
  have hc : (nI n).toNatClampNeg = n := nI_clamp (by omega)
  refine ⟨?_, hc⟩
  simp only [ev_in, hc, Bool.not_eq_true', Bool.or_eq_false_iff, decide_eq_false_iff_not]
  exact ⟨nI_pos (by omega), by omega⟩
theorem ev_iald (n : Nat) {a : Nat} {j x : Int32} {xs : List Int32} (hf : ev_ft cd pc = some (.inl .iaload)) (hh : h[a]? = some (.inl (0, xs))) (hj : j = nI n) (hn : n < xs.length) (hb : n < 1000) (hx : xs.getD n 0 = x) (K : ev_V scr d cd (pc + 1) ls (.int x :: st) h r) : ev_V scr d cd pc ls (.int j :: .ref a :: st) h r := by
  obtain ⟨h1, h2⟩ := ev_in_of hj hn hb
  refine ev_step hf (pc' := pc + 1) (ls' := ls) (st' := .int x :: st) (h' := h) ?_ K
  simp only [ev_S, ev_xP, ev_xB, ev_xH, hh, h1, h2, hx]
theorem ev_bald (n : Nat) {a : Nat} {j x : Int32} {xs : List Int32} (hf : ev_ft cd pc = some (.inl .baload)) (hh : h[a]? = some (.inl (1, xs)) ∨ h[a]? = some (.inl (2, xs))) (hj : j = nI n) (hn : n < xs.length) (hb : n < 1000) (hx : xs.getD n 0 = x) (K : ev_V scr d cd (pc + 1) ls (.int x :: st) h r) : ev_V scr d cd pc ls (.int j :: .ref a :: st) h r := by
  obtain ⟨h1, h2⟩ := ev_in_of hj hn hb
  refine ev_step hf (pc' := pc + 1) (ls' := ls) (st' := .int x :: st) (h' := h) ?_ K
  rcases hh with hh | hh <;> simp only [ev_S, ev_xP, ev_xB, ev_xH, hh, h1, h2, hx]
theorem ev_iast (n : Nat) {a : Nat} {j x : Int32} {xs : List Int32} (hf : ev_ft cd pc = some (.inl .iastore)) (hh : h[a]? = some (.inl (0, xs))) (hj : j = nI n) (hn : n < xs.length) (hb : n < 1000) (K : ev_V scr d cd (pc + 1) ls st (h.set a (.inl (0, xs.set n x))) r) : ev_V scr d cd pc ls (.int x :: .int j :: .ref a :: st) h r := by
  obtain ⟨h1, h2⟩ := ev_in_of hj hn hb
  refine ev_step hf (pc' := pc + 1) (ls' := ls) (st' := st) (h' := h.set a (.inl (0, xs.set n x))) ?_ K
  simp only [ev_S, ev_xP, ev_xB, ev_xH, hh, h1, h2]
theorem ev_bast1 (n : Nat) {a : Nat} {j x : Int32} {xs : List Int32} (hf : ev_ft cd pc = some (.inl .bastore)) (hh : h[a]? = some (.inl (1, xs))) (hj : j = nI n) (hn : n < xs.length) (hb : n < 1000) (K : ev_V scr d cd (pc + 1) ls st (h.set a (.inl (1, xs.set n (vp_nar .byte x)))) r) : ev_V scr d cd pc ls (.int x :: .int j :: .ref a :: st) h r := by
  obtain ⟨h1, h2⟩ := ev_in_of hj hn hb
  refine ev_step hf (pc' := pc + 1) (ls' := ls) (st' := st) (h' := h.set a (.inl (1, xs.set n (vp_nar .byte x)))) ?_ K
  simp only [ev_S, ev_xP, ev_xB, ev_xH, hh, h1, h2]
theorem ev_bast2 (n : Nat) {a : Nat} {j x : Int32} {xs : List Int32} (hf : ev_ft cd pc = some (.inl .bastore)) (hh : h[a]? = some (.inl (2, xs))) (hj : j = nI n) (hn : n < xs.length) (hb : n < 1000) (K : ev_V scr d cd (pc + 1) ls st (h.set a (.inl (2, xs.set n (vp_nar .boolean x)))) r) : ev_V scr d cd pc ls (.int x :: .int j :: .ref a :: st) h r := by
  obtain ⟨h1, h2⟩ := ev_in_of hj hn hb
  refine ev_step hf (pc' := pc + 1) (ls' := ls) (st' := st) (h' := h.set a (.inl (2, xs.set n (vp_nar .boolean x)))) ?_ K
  simp only [ev_S, ev_xP, ev_xB, ev_xH, hh, h1, h2]
theorem ev_aald (n : Nat) {a b c : Nat} {j : Int32} {vs : List Value} (hf : ev_ft cd pc = some (.inl .aaload)) (hh : h[a]? = some (.inr (c, vs))) (hc : Nat.blt 9 c = true) (hj : j = nI n) (hn : n < vs.length) (hb : n < 1000) (hx : vs[n]? = some (.ref b)) (K : ev_V scr d cd (pc + 1) ls (.ref b :: st) h r) : ev_V scr d cd pc ls (.int j :: .ref a :: st) h r := by
  obtain ⟨h1, h2⟩ := ev_in_of hj hn hb
  refine ev_step hf (pc' := pc + 1) (ls' := ls) (st' := .ref b :: st) (h' := h) ?_ K
  simp only [ev_S, ev_xP, ev_xB, ev_xH, hh, hc, h1, h2, hx]
/-- out of the script, out of rows that nobody writes -/
theorem ev_fald (n : Nat) {a : Nat} {j x : Int32} {xs : List Int32} (hf : ev_ft cd pc = some (.inl .faload)) (ha : Nat.blt a 4 = true) (hh : ev_ro scr a = some xs) (hj : j = nI n) (hn : n < xs.length) (hb : n < 1000) (hx : xs.getD n 0 = x) (K : ev_V scr d cd (pc + 1) ls (.int x :: st) h r) : ev_V scr d cd pc ls (.int j :: .retAddr a :: st) h r := by
  obtain ⟨h1, h2⟩ := ev_in_of hj hn hb
  refine ev_step hf (pc' := pc + 1) (ls' := ls) (st' := .int x :: st) (h' := h) ?_ K
  simp only [ev_S, ev_xP, ev_xB, ev_xH, ha, hh, h1, h2, hx]
theorem ev_cald (n : Nat) {a : Nat} {j x : Int32} {xs : List Int32} (hf : ev_ft cd pc = some (.inl .caload)) (ha : Nat.blt a 20 = false) (hh : ev_ro scr a = some xs) (hj : j = nI n) (hn : n < xs.length) (hb : n < 1000) (hx : xs.getD n 0 = x) (K : ev_V scr d cd (pc + 1) ls (.int x :: st) h r) : ev_V scr d cd pc ls (.int j :: .retAddr a :: st) h r := by
  obtain ⟨h1, h2⟩ := ev_in_of hj hn hb
  refine ev_step hf (pc' := pc + 1) (ls' := ls) (st' := .int x :: st) (h' := h) ?_ K
  simp only [ev_S, ev_xP, ev_xB, ev_xH, ha, hh, h1, h2, hx]
theorem ev_alen {a : Nat} {xs : List Int32} (hf : ev_ft cd pc = some (.inl .arraylength)) (hh : ev_ro scr a = some xs) (K : ev_V scr d cd (pc + 1) ls (.int (Int32.ofNat xs.length) :: st) h r) : ev_V scr d cd pc ls (.retAddr a :: st) h r := by
  refine ev_step hf (pc' := pc + 1) (ls' := ls) (st' := .int (Int32.ofNat xs.length) :: st) (h' := h) ?_ K
  simp only [ev_S, ev_xP, ev_xB, ev_xH, hh]
theorem ev_cbr {c : ClassFile.Cond} {x y : Int32} {t : Int} (b : Bool) (hb : ev_cb c x y = b) (hf : ev_ft cd pc = some (.inl (.if_icmp c t))) (K : ev_V scr d cd (ev_br b t.toNat (pc + 1)) ls st h r) : ev_V scr d cd pc ls (.int y :: .int x :: st) h r := by
  refine ev_step hf ?_ K
  simp only [ev_S, ev_xP, ev_xB, hb]
theorem ev_cbr0 {c : ClassFile.Cond} {x : Int32} {t : Int} (b : Bool) (hb : ev_cb c x 0 = b) (hf : ev_ft cd pc = some (.inl (.ifCond c t))) (K : ev_V scr d cd (ev_br b t.toNat (pc + 1)) ls st h r) : ev_V scr d cd pc ls (.int x :: st) h r := by
  refine ev_step hf ?_ K
  simp only [ev_S, ev_xP, ev_xB, hb]
theorem ev_ieq {x y : Int32} {t : Int} (hf : ev_ft cd pc = some (.inl (.if_icmp .eq t))) (kt : x = y → ev_V scr d cd t.toNat ls st h r) (kf : ¬ x = y → ev_V scr d cd (pc + 1) ls st h r) : ev_V scr d cd pc ls (.int y :: .int x :: st) h r := by
  by_cases hc : x = y
  · exact ev_cbr (c := .eq) true (decide_eq_true hc) hf (kt hc)
  · exact ev_cbr (c := .eq) false (decide_eq_false hc) hf (kf hc)
theorem ev_zeq {x : Int32} {t : Int} (hf : ev_ft cd pc = some (.inl (.ifCond .eq t))) (kt : x = 0 → ev_V scr d cd t.toNat ls st h r) (kf : ¬ x = 0 → ev_V scr d cd (pc + 1) ls st h r) : ev_V scr d cd pc ls (.int x :: st) h r := by
  by_cases hc : x = 0
  · exact ev_cbr0 (c := .eq) true (decide_eq_true hc) hf (kt hc)
  · exact ev_cbr0 (c := .eq) false (decide_eq_false hc) hf (kf hc)
theorem ev_ine {x y : Int32} {t : Int} (hf : ev_ft cd pc = some (.inl (.if_icmp .ne t))) (kt : ¬ x = y → ev_V scr d cd t.toNat ls st h r) (kf : x = y → ev_V scr d cd (pc + 1) ls st h r) : ev_V scr d cd pc ls (.int y :: .int x :: st) h r := by
  by_cases hc : ¬ x = y
  · exact ev_cbr (c := .ne) true (decide_eq_true hc) hf (kt hc)
  · exact ev_cbr (c := .ne) false (decide_eq_false hc) hf (kf (Decidable.not_not.mp hc))
theorem ev_zne {x : Int32} {t : Int} (hf : ev_ft cd pc = some (.inl (.ifCond .ne t))) (kt : ¬ x = 0 → ev_V scr d cd t.toNat ls st h r) (kf : x = 0 → ev_V scr d cd (pc + 1) ls st h r) : ev_V scr d cd pc ls (.int x :: st) h r := by
  by_cases hc : ¬ x = 0
  · exact ev_cbr0 (c := .ne) true (decide_eq_true hc) hf (kt hc)
  · exact ev_cbr0 (c := .ne) false (decide_eq_false hc) hf (kf (Decidable.not_not.mp hc))
theorem ev_ilt {x y : Int32} {t : Int} (hf : ev_ft cd pc = some (.inl (.if_icmp .lt t))) (kt : x < y → ev_V scr d cd t.toNat ls st h r) (kf : ¬ x < y → ev_V scr d cd (pc + 1) ls st h r) : ev_V scr d cd pc ls (.int y :: .int x :: st) h r := by
  by_cases hc : x < y
  · exact ev_cbr (c := .lt) true (decide_eq_true hc) hf (kt hc)
  · exact ev_cbr (c := .lt) false (decide_eq_false hc) hf (kf hc)
theorem ev_zlt {x : Int32} {t : Int} (hf : ev_ft cd pc = some (.inl (.ifCond .lt t))) (kt : x < 0 → ev_V scr d cd t.toNat ls st h r) (kf : ¬ x < 0 → ev_V scr d cd (pc + 1) ls st h r) : ev_V scr d cd pc ls (.int x :: st) h r := by
  by_cases hc : x < 0
  · exact ev_cbr0 (c := .lt) true (decide_eq_true hc) hf (kt hc)
  · exact ev_cbr0 (c := .lt) false (decide_eq_false hc) hf (kf hc)
theorem ev_ige {x y : Int32} {t : Int} (hf : ev_ft cd pc = some (.inl (.if_icmp .ge t))) (kt : y ≤ x → ev_V scr d cd t.toNat ls st h r) (kf : ¬ y ≤ x → ev_V scr d cd (pc + 1) ls st h r) : ev_V scr d cd pc ls (.int y :: .int x :: st) h r := by
  by_cases hc : y ≤ x
  · exact ev_cbr (c := .ge) true (decide_eq_true hc) hf (kt hc)
  · exact ev_cbr (c := .ge) false (decide_eq_false hc) hf (kf hc)
theorem ev_zge {x : Int32} {t : Int} (hf : ev_ft cd pc = some (.inl (.ifCond .ge t))) (kt : 0 ≤ x → ev_V scr d cd t.toNat ls st h r) (kf : ¬ 0 ≤ x → ev_V scr d cd (pc + 1) ls st h r) : ev_V scr d cd pc ls (.int x :: st) h r := by
  by_cases hc : 0 ≤ x
  · exact ev_cbr0 (c := .ge) true (decide_eq_true hc) hf (kt hc)
  · exact ev_cbr0 (c := .ge) false (decide_eq_false hc) hf (kf hc)
theorem ev_igt {x y : Int32} {t : Int} (hf : ev_ft cd pc = some (.inl (.if_icmp .gt t))) (kt : y < x → ev_V scr d cd t.toNat ls st h r) (kf : ¬ y < x → ev_V scr d cd (pc + 1) ls st h r) : ev_V scr d cd pc ls (.int y :: .int x :: st) h r := by
  by_cases hc : y < x
  · exact ev_cbr (c := .gt) true (decide_eq_true hc) hf (kt hc)
  · exact ev_cbr (c := .gt) false (decide_eq_false hc) hf (kf hc)
theorem ev_zgt {x : Int32} {t : Int} (hf : ev_ft cd pc = some (.inl (.ifCond .gt t))) (kt : 0 < x → ev_V scr d cd t.toNat ls st h r) (kf : ¬ 0 < x → ev_V scr d cd (pc + 1) ls st h r) : ev_V scr d cd pc ls (.int x :: st) h r := by
  by_cases hc : 0 < x
  · exact ev_cbr0 (c := .gt) true (decide_eq_true hc) hf (kt hc)
  · exact ev_cbr0 (c := .gt) false (decide_eq_false hc) hf (kf hc)
theorem ev_ile {x y : Int32} {t : Int} (hf : ev_ft cd pc = some (.inl (.if_icmp .le t))) (kt : x ≤ y → ev_V scr d cd t.toNat ls st h r) (kf : ¬ x ≤ y → ev_V scr d cd (pc + 1) ls st h r) : ev_V scr d cd pc ls (.int y :: .int x :: st) h r := by
  by_cases hc : x ≤ y
  · exact ev_cbr (c := .le) true (decide_eq_true hc) hf (kt hc)
  · exact ev_cbr (c := .le) false (decide_eq_false hc) hf (kf hc)
theorem ev_zle {x : Int32} {t : Int} (hf : ev_ft cd pc = some (.inl (.ifCond .le t))) (kt : x ≤ 0 → ev_V scr d cd t.toNat ls st h r) (kf : ¬ x ≤ 0 → ev_V scr d cd (pc + 1) ls st h r) : ev_V scr d cd pc ls (.int x :: st) h r := by
  by_cases hc : x ≤ 0
  · exact ev_cbr0 (c := .le) true (decide_eq_true hc) hf (kt hc)
  · exact ev_cbr0 (c := .le) false (decide_eq_false hc) hf (kf hc)
theorem ev_idiv {x y v : Int32} (hf : ev_ft cd pc = some (.inl .idiv)) (hy : ¬ y = 0) (hv : x / y = v) (K : ev_V scr d cd (pc + 1) ls (.int v :: st) h r) : ev_V scr d cd pc ls (.int y :: .int x :: st) h r := by
  refine ev_step hf (pc' := pc + 1) (ls' := ls) (st' := .int v :: st) (h' := h) ?_ K
  simp only [ev_S, ev_xP, ev_xB, hy, if_false, hv]
theorem ev_irem {x y v : Int32} (hf : ev_ft cd pc = some (.inl .irem)) (hy : ¬ y = 0) (hv : x - x / y * y = v) (K : ev_V scr d cd (pc + 1) ls (.int v :: st) h r) : ev_V scr d cd pc ls (.int y :: .int x :: st) h r := by
  refine ev_step hf (pc' := pc + 1) (ls' := ls) (st' := .int v :: st) (h' := h) ?_ K
  simp only [ev_S, ev_xP, ev_xB, hy, if_false, hv]
theorem ev_ldiv {x y v : Int64} (hf : ev_ft cd pc = some (.inl .ldiv)) (hy : ¬ y = 0) (hv : x / y = v) (K : ev_V scr d cd (pc + 1) ls (.long v :: st) h r) : ev_V scr d cd pc ls (.long y :: .long x :: st) h r := by
  refine ev_step hf (pc' := pc + 1) (ls' := ls) (st' := .long v :: st) (h' := h) ?_ K
  simp only [ev_S, ev_xP, ev_xB, hy, if_false, hv]
theorem ev_lrem {x y v : Int64} (hf : ev_ft cd pc = some (.inl .lrem)) (hy : ¬ y = 0) (hv : x - x / y * y = v) (K : ev_V scr d cd (pc + 1) ls (.long v :: st) h r) : ev_V scr d cd pc ls (.long y :: .long x :: st) h r := by
  refine ev_step hf (pc' := pc + 1) (ls' := ls) (st' := .long v :: st) (h' := h) ?_ K
  simp only [ev_S, ev_xP, ev_xB, hy, if_false, hv]
theorem ev_tsw {x : Int32} {d0 lo hi : Int} {offs : Array Int} {t : Nat} (hf : ev_ft cd pc = some (.inl (.tableswitch d0 lo hi offs))) (ht : (if x.toInt < lo ∨ hi < x.toInt then d0.toNat else (offs.toList.getD (x.toInt - lo).toNat d0).toNat) = t) (K : ev_V scr d cd t ls st h r) : ev_V scr d cd pc ls (.int x :: st) h r := by
  refine ev_step hf ?_ K
  simp only [ev_S, ev_xP, ev_xB, ht]
theorem ev_lsw {x : Int32} {d0 : Int} {ps : Array (Int × Int)} {t : Nat} (hf : ev_ft cd pc = some (.inl (.lookupswitch d0 ps))) (ht : (Op.lookupswitch.offset ps.toList d0 x.toInt).toNat = t) (K : ev_V scr d cd t ls st h r) : ev_V scr d cd pc ls (.int x :: st) h r := by
  refine ev_step hf ?_ K
  simp only [ev_S, ev_xP, ev_xB, ht]
theorem ev_iret {x : Int32} (hf : ev_ft cd pc = some (.inl .ireturn)) : ev_V scr d cd pc ls [.int x] h (some (.int x), h) := ev_ret hf rfl
theorem ev_lret {x : Int64} (hf : ev_ft cd pc = some (.inl .lreturn)) : ev_V scr d cd pc ls [.long x] h (some (.long x), h) := ev_ret hf rfl
theorem ev_vret (hf : ev_ft cd pc = some (.inl .return_)) : ev_V scr d cd pc ls [] h (none, h) := ev_ret hf rfl
theorem ev_tret {x : Int32} {t : Nat} (hf : ev_ft cd pc = some (.inl (.ret t))) (hn : ev_nrw t x = true) : ev_V scr d cd pc ls [.int x] h (some (.int x), h) := by
  refine ev_ret hf ?_
  simp only [ev_S, ev_xP, ev_xB, ev_xH, ev_xR, hn]
theorem ev_aret {x : Nat} (hf : ev_ft cd pc = some (.inl .areturn)) (hx : Nat.beq x 4 = false) : ev_V scr d cd pc ls [.retAddr x] h (some (.retAddr x), h) := by
  refine ev_ret hf ?_
  simp only [ev_S, ev_xP, ev_xB, ev_xH, ev_xR, hx]
theorem ev_cs {k d' : Nat} {cd' : List ev_I} {mL np own : Nat} {v : Option Value} {h' : ev_H} (hf : ev_ft cd pc = some (.inl (.invokestatic k))) (hp : ev_pr k = some (cd', mL, np, own)) (hl : (Nat.ble np st.length && Nat.ble (st.drop np).length 4) = true) (hd : d' < d)
    (C : ev_V scr d' cd' 0 (ev_lay (st.take np).reverse mL) [] h (v, h')) (K : ev_V scr d cd (pc + 1) ls (v.toList ++ st.drop np) h' r) : ev_V scr d cd pc ls st h r := by
  refine ev_call hf (k := k) ?_ hp ?_ hd C K
  · simp only [ev_S, ev_xP, ev_xB, ev_xH, ev_xR, ev_xC]
  · simp only [ev_cok, hl, Bool.and_true]
theorem ev_cv {k d' b : Nat} {cd' : List ev_I} {mL np own : Nat} {vs : List Value} {v : Option Value} {h' : ev_H} (hf : ev_ft cd pc = some (.inl (.invokevirtual k))) (hp : ev_pr k = some (cd', mL, np, own)) (hl : (Nat.ble np st.length && Nat.ble (st.drop np).length 4) = true) (hb : ev_lg (st.take np).reverse 0 = some (.ref b)) (hh : h[b]? = some (.inr (own, vs))) (ho : Nat.blt own 7 = true) (hd : d' < d)
    (C : ev_V scr d' cd' 0 (ev_lay (st.take np).reverse mL) [] h (v, h')) (K : ev_V scr d cd (pc + 1) ls (v.toList ++ st.drop np) h' r) : ev_V scr d cd pc ls st h r := by
  refine ev_call hf (k := k) ?_ hp ?_ hd C K
  · simp only [ev_S, ev_xP, ev_xB, ev_xH, ev_xR, ev_xC]
  · have e : Nat.beq own own = true := Nat.beq_refl own
    simp only [ev_cok, hl, hb, ev_rec, hh, ho, e, Bool.and_self]
theorem ev_ct {k d' b : Nat} {cd' : List ev_I} {mL np : Nat} {v : Option Value} {h' : ev_H} (hf : ev_ft cd pc = some (.inl (.invokevirtual k))) (hp : ev_pr k = some (cd', mL, np, 10)) (hl : (Nat.ble np st.length && Nat.ble (st.drop np).length 4) = true) (hb : ev_lg (st.take np).reverse 0 = some (.retAddr b)) (hh : (Nat.blt 9 b && Nat.blt b 18) = true) (hd : d' < d)
    (C : ev_V scr d' cd' 0 (ev_lay (st.take np).reverse mL) [] h (v, h')) (K : ev_V scr d cd (pc + 1) ls (v.toList ++ st.drop np) h' r) : ev_V scr d cd pc ls st h r := by
  refine ev_call hf (k := k) ?_ hp ?_ hd C K
  · simp only [ev_S, ev_xP, ev_xB, ev_xH, ev_xR, ev_xC]
  · simp only [Bool.and_eq_true] at hh
    simp only [ev_cok, hl, hb, ev_rec, hh.1, hh.2, show Nat.beq 10 10 = true from rfl, Bool.and_self]
end ER
end
section
def tt_mb (tens : List Int32) (t : Int32) : Nat → Nat → Int32 → Int32
  | 0, _, s => s
  | k + 1, i, s => tt_mb tens t k (i + 1) (if tens.getD i 0 = t then s ||| (1 <<< (nI i &&& 31)) else s)
theorem tt_loop {scr : List Int32} {d : Nat} {h : ev_H} {a b men : Nat} {t : Int32} {vs : List Value} {tens : List Int32} (hO : h[a]? = some (.inr (4, vs))) (h0 : vs[0]? = some (.int (nI men))) (h9 : vs[9]? = some (.ref b)) (hT : h[b]? = some (.inl (0, tens))) (hl : tens.length = 8) (hm : men ≤ 8) : ∀ k i s, i + k = men → ev_V scr d cd_X4_menOfTen 4 [.ref a, .int t, .int s, .int (nI i)] [] h (some (.int (tt_mb tens t k i s)), h) := by
  intro k
  induction k with
  | zero =>
    intro i s hi
    refine ev_nop rfl ?_
    refine ev_go 40 rfl ?_
    refine ev_getf rfl hO rfl h0 ?_
    refine ev_ige rfl (fun hc => ?_) (fun hc => ?_)
    · refine ev_go 40 rfl ?_
      exact ev_iret rfl
    · exact absurd (nI_le (by omega) (by omega)) hc
  | succ k ih =>
    intro i s hi
    refine ev_nop rfl ?_
    refine ev_go 40 rfl ?_
    refine ev_getf rfl hO rfl h0 ?_
    refine ev_ige rfl (fun hc => ?_) (fun hc => ?_)
    · exact absurd hc (nI_ge (by omega) (by omega))
    · refine ev_go 40 rfl ?_
      refine ev_getf rfl hO rfl h9 ?_
      refine ev_go 40 rfl ?_
      refine ev_iald i rfl hT rfl (by omega) (by omega) rfl ?_
      refine ev_go 40 rfl ?_
      refine ev_ine rfl (fun hc => ?_) (fun hc => ?_)
      · refine ev_go 40 rfl ?_
        have := ih (i + 1) s (by omega)
        rw [tt_mb, if_neg hc]
        rw [show ev_inc 1 (nI i) = nI (i + 1) from nI_1 i]
        trace_state
        exact ih (i + 1) s (by omega)
      · refine ev_go 40 rfl ?_
        rw [tt_mb, if_pos hc, show ev_inc 1 (nI i) = nI (i + 1) from nI_1 i]
        exact ih (i + 1) _ (by omega)
end
