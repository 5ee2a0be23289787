section
-- ===== PART A: goes FIRST, ahead of the names: the tables' words, and 'selects' of the private methods out of them =====
/-- a private method of a class that the tables say can be made, by its rows of tables_1 -/
def lw_okq (q : MethodName × Nat) : Prop := (q.1.cls ≠ "java/lang/invoke/MethodHandle" ∧ q.1.cls ≠ "java/lang/invoke/VarHandle") ∧ Cond.instantiable q.1.cls q.2 ∈ tables_1 ∧ Cond.privateMethod q.1 ∈ tables_1 ∧ Cond.instanceMethod q.1 ∈ tables_1
theorem lw_p0 : lw_okq (⟨"TenPledges$Teller", "start", "([BILTenPledges$Town;)V"⟩, 15) := ⟨⟨by decide +kernel, by decide +kernel⟩, List.mem_of_getElem? (i := 104) (by decide +kernel), List.mem_of_getElem? (i := 286) (by decide +kernel), List.mem_of_getElem? (i := 287) (by decide +kernel)⟩
theorem lw_p1 : lw_okq (⟨"TenPledges$Teller", "nextToken", "()Z"⟩, 15) := ⟨⟨by decide +kernel, by decide +kernel⟩, List.mem_of_getElem? (i := 104) (by decide +kernel), List.mem_of_getElem? (i := 294) (by decide +kernel), List.mem_of_getElem? (i := 295) (by decide +kernel)⟩
theorem lw_p2 : lw_okq (⟨"TenPledges$Teller", "pass", "(CC)V"⟩, 15) := ⟨⟨by decide +kernel, by decide +kernel⟩, List.mem_of_getElem? (i := 104) (by decide +kernel), List.mem_of_getElem? (i := 301) (by decide +kernel), List.mem_of_getElem? (i := 302) (by decide +kernel)⟩
theorem lw_p3 : lw_okq (⟨"TenPledges$Teller", "takeFigures", "()Z"⟩, 15) := ⟨⟨by decide +kernel, by decide +kernel⟩, List.mem_of_getElem? (i := 104) (by decide +kernel), List.mem_of_getElem? (i := 305) (by decide +kernel), List.mem_of_getElem? (i := 306) (by decide +kernel)⟩
theorem lw_p4 : lw_okq (⟨"TenPledges$Teller", "refuse", "(II)Z"⟩, 15) := ⟨⟨by decide +kernel, by decide +kernel⟩, List.mem_of_getElem? (i := 104) (by decide +kernel), List.mem_of_getElem? (i := 309) (by decide +kernel), List.mem_of_getElem? (i := 310) (by decide +kernel)⟩
theorem lw_p5 : lw_okq (⟨"TenPledges$Teller", "agrees", "()Z"⟩, 15) := ⟨⟨by decide +kernel, by decide +kernel⟩, List.mem_of_getElem? (i := 104) (by decide +kernel), List.mem_of_getElem? (i := 313) (by decide +kernel), List.mem_of_getElem? (i := 314) (by decide +kernel)⟩
theorem lw_p6 : lw_okq (⟨"TenPledges$Teller", "takeLine", "()Z"⟩, 15) := ⟨⟨by decide +kernel, by decide +kernel⟩, List.mem_of_getElem? (i := 104) (by decide +kernel), List.mem_of_getElem? (i := 335) (by decide +kernel), List.mem_of_getElem? (i := 336) (by decide +kernel)⟩
theorem lw_p7 : lw_okq (⟨"TenPledges$Teller", "wordHere", "()I"⟩, 15) := ⟨⟨by decide +kernel, by decide +kernel⟩, List.mem_of_getElem? (i := 104) (by decide +kernel), List.mem_of_getElem? (i := 339) (by decide +kernel), List.mem_of_getElem? (i := 340) (by decide +kernel)⟩
theorem lw_p8 : lw_okq (⟨"TenPledges$Teller", "isHere", "(Ljava/lang/String;)Z"⟩, 15) := ⟨⟨by decide +kernel, by decide +kernel⟩, List.mem_of_getElem? (i := 104) (by decide +kernel), List.mem_of_getElem? (i := 354) (by decide +kernel), List.mem_of_getElem? (i := 355) (by decide +kernel)⟩
theorem lw_p9 : lw_okq (⟨"TenPledges$Teller", "takeNumber", "(II)Z"⟩, 15) := ⟨⟨by decide +kernel, by decide +kernel⟩, List.mem_of_getElem? (i := 104) (by decide +kernel), List.mem_of_getElem? (i := 408) (by decide +kernel), List.mem_of_getElem? (i := 409) (by decide +kernel)⟩
theorem lw_p10 : lw_okq (⟨"TenPledges$Teller", "putDown", "(I)V"⟩, 15) := ⟨⟨by decide +kernel, by decide +kernel⟩, List.mem_of_getElem? (i := 104) (by decide +kernel), List.mem_of_getElem? (i := 419) (by decide +kernel), List.mem_of_getElem? (i := 420) (by decide +kernel)⟩
theorem lw_p11 : lw_okq (⟨"TenPledges", "refusalInTen", "(I)I"⟩, 12) := ⟨⟨by decide +kernel, by decide +kernel⟩, List.mem_of_getElem? (i := 15) (by decide +kernel), List.mem_of_getElem? (i := 515) (by decide +kernel), List.mem_of_getElem? (i := 516) (by decide +kernel)⟩
theorem lw_p12 : lw_okq (⟨"TenPledges", "isPair", "(II)Z"⟩, 12) := ⟨⟨by decide +kernel, by decide +kernel⟩, List.mem_of_getElem? (i := 15) (by decide +kernel), List.mem_of_getElem? (i := 527) (by decide +kernel), List.mem_of_getElem? (i := 528) (by decide +kernel)⟩
theorem lw_p13 : lw_okq (⟨"TenPledges", "finesOnTrial", "(II)I"⟩, 12) := ⟨⟨by decide +kernel, by decide +kernel⟩, List.mem_of_getElem? (i := 15) (by decide +kernel), List.mem_of_getElem? (i := 598) (by decide +kernel), List.mem_of_getElem? (i := 599) (by decide +kernel)⟩
theorem lw_p14 : lw_okq (⟨"TenPledges$Putting", "seatFrom", "(I)V"⟩, 6) := ⟨⟨by decide +kernel, by decide +kernel⟩, List.mem_of_getElem? (i := 161) (by decide +kernel), List.mem_of_getElem? (i := 646) (by decide +kernel), List.mem_of_getElem? (i := 647) (by decide +kernel)⟩
theorem lw_p15 : lw_okq (⟨"TenPledges$Putting", "atLeastHarm", "(I)I"⟩, 6) := ⟨⟨by decide +kernel, by decide +kernel⟩, List.mem_of_getElem? (i := 161) (by decide +kernel), List.mem_of_getElem? (i := 650) (by decide +kernel), List.mem_of_getElem? (i := 651) (by decide +kernel)⟩
def lw_privs_1 : List (MethodName × Nat) := [(⟨"TenPledges$Teller", "start", "([BILTenPledges$Town;)V"⟩, 15), (⟨"TenPledges$Teller", "nextToken", "()Z"⟩, 15), (⟨"TenPledges$Teller", "pass", "(CC)V"⟩, 15), (⟨"TenPledges$Teller", "takeFigures", "()Z"⟩, 15), (⟨"TenPledges$Teller", "refuse", "(II)Z"⟩, 15), (⟨"TenPledges$Teller", "agrees", "()Z"⟩, 15), (⟨"TenPledges$Teller", "takeLine", "()Z"⟩, 15), (⟨"TenPledges$Teller", "wordHere", "()I"⟩, 15), (⟨"TenPledges$Teller", "isHere", "(Ljava/lang/String;)Z"⟩, 15), (⟨"TenPledges$Teller", "takeNumber", "(II)Z"⟩, 15), (⟨"TenPledges$Teller", "putDown", "(I)V"⟩, 15), (⟨"TenPledges", "refusalInTen", "(I)I"⟩, 12), (⟨"TenPledges", "isPair", "(II)Z"⟩, 12), (⟨"TenPledges", "finesOnTrial", "(II)I"⟩, 12), (⟨"TenPledges$Putting", "seatFrom", "(I)V"⟩, 6), (⟨"TenPledges$Putting", "atLeastHarm", "(I)I"⟩, 6)]
theorem lw_r1 : ∀ q ∈ lw_privs_1, lw_okq q := List.forall_mem_cons.mpr ⟨lw_p0, List.forall_mem_cons.mpr ⟨lw_p1, List.forall_mem_cons.mpr ⟨lw_p2, List.forall_mem_cons.mpr ⟨lw_p3, List.forall_mem_cons.mpr ⟨lw_p4, List.forall_mem_cons.mpr ⟨lw_p5, List.forall_mem_cons.mpr ⟨lw_p6, List.forall_mem_cons.mpr ⟨lw_p7, List.forall_mem_cons.mpr ⟨lw_p8, List.forall_mem_cons.mpr ⟨lw_p9, List.forall_mem_cons.mpr ⟨lw_p10, List.forall_mem_cons.mpr ⟨lw_p11, List.forall_mem_cons.mpr ⟨lw_p12, List.forall_mem_cons.mpr ⟨lw_p13, List.forall_mem_cons.mpr ⟨lw_p14, List.forall_mem_cons.mpr ⟨lw_p15, fun _ h => absurd h List.not_mem_nil⟩⟩⟩⟩⟩⟩⟩⟩⟩⟩⟩⟩⟩⟩⟩⟩
theorem lw_p16 : lw_okq (⟨"TenPledges$Putting", "fewestRough", "()I"⟩, 6) := ⟨⟨by decide +kernel, by decide +kernel⟩, List.mem_of_getElem? (i := 161) (by decide +kernel), List.mem_of_getElem? (i := 654) (by decide +kernel), List.mem_of_getElem? (i := 655) (by decide +kernel)⟩
theorem lw_p17 : lw_okq (⟨"TenPledges$Putting", "takeIt", "(I)V"⟩, 6) := ⟨⟨by decide +kernel, by decide +kernel⟩, List.mem_of_getElem? (i := 161) (by decide +kernel), List.mem_of_getElem? (i := 662) (by decide +kernel), List.mem_of_getElem? (i := 663) (by decide +kernel)⟩
theorem lw_p18 : lw_okq (⟨"TenPledges$Putting", "isLikeEarlier", "(I)Z"⟩, 6) := ⟨⟨by decide +kernel, by decide +kernel⟩, List.mem_of_getElem? (i := 161) (by decide +kernel), List.mem_of_getElem? (i := 666) (by decide +kernel), List.mem_of_getElem? (i := 667) (by decide +kernel)⟩
theorem lw_p19 : lw_okq (⟨"TenPledges", "harmBySwap", "(II)I"⟩, 12) := ⟨⟨by decide +kernel, by decide +kernel⟩, List.mem_of_getElem? (i := 15) (by decide +kernel), List.mem_of_getElem? (i := 674) (by decide +kernel), List.mem_of_getElem? (i := 675) (by decide +kernel)⟩
theorem lw_p20 : lw_okq (⟨"TenPledges$Fitting", "addSet", "(II)V"⟩, 5) := ⟨⟨by decide +kernel, by decide +kernel⟩, List.mem_of_getElem? (i := 188) (by decide +kernel), List.mem_of_getElem? (i := 731) (by decide +kernel), List.mem_of_getElem? (i := 732) (by decide +kernel)⟩
theorem lw_p21 : lw_okq (⟨"TenPledgesModel", "firstDraft", "()V"⟩, 26) := ⟨⟨by decide +kernel, by decide +kernel⟩, List.mem_of_getElem? (i := 790) (by decide +kernel), List.mem_of_getElem? (i := 796) (by decide +kernel), List.mem_of_getElem? (i := 797) (by decide +kernel)⟩
theorem lw_p22 : lw_okq (⟨"TenPledgesModel", "keepDraft", "()V"⟩, 26) := ⟨⟨by decide +kernel, by decide +kernel⟩, List.mem_of_getElem? (i := 790) (by decide +kernel), List.mem_of_getElem? (i := 800) (by decide +kernel), List.mem_of_getElem? (i := 801) (by decide +kernel)⟩
theorem lw_p23 : lw_okq (⟨"TenPledgesModel", "next", "()V"⟩, 26) := ⟨⟨by decide +kernel, by decide +kernel⟩, List.mem_of_getElem? (i := 790) (by decide +kernel), List.mem_of_getElem? (i := 899) (by decide +kernel), List.mem_of_getElem? (i := 900) (by decide +kernel)⟩
theorem lw_p24 : lw_okq (⟨"TenPledgesModel", "byteAt", "(I)I"⟩, 26) := ⟨⟨by decide +kernel, by decide +kernel⟩, List.mem_of_getElem? (i := 790) (by decide +kernel), List.mem_of_getElem? (i := 903) (by decide +kernel), List.mem_of_getElem? (i := 904) (by decide +kernel)⟩
theorem lw_p25 : lw_okq (⟨"TenPledgesModel", "needs", "(ZI)V"⟩, 26) := ⟨⟨by decide +kernel, by decide +kernel⟩, List.mem_of_getElem? (i := 790) (by decide +kernel), List.mem_of_getElem? (i := 911) (by decide +kernel), List.mem_of_getElem? (i := 912) (by decide +kernel)⟩
theorem lw_p26 : lw_okq (⟨"TenPledgesModel", "readLine", "()V"⟩, 26) := ⟨⟨by decide +kernel, by decide +kernel⟩, List.mem_of_getElem? (i := 790) (by decide +kernel), List.mem_of_getElem? (i := 915) (by decide +kernel), List.mem_of_getElem? (i := 916) (by decide +kernel)⟩
theorem lw_p27 : lw_okq (⟨"TenPledgesModel", "lineNow", "()I"⟩, 26) := ⟨⟨by decide +kernel, by decide +kernel⟩, List.mem_of_getElem? (i := 790) (by decide +kernel), List.mem_of_getElem? (i := 919) (by decide +kernel), List.mem_of_getElem? (i := 920) (by decide +kernel)⟩
theorem lw_p28 : lw_okq (⟨"TenPledgesModel", "is", "(IIIII)Z"⟩, 26) := ⟨⟨by decide +kernel, by decide +kernel⟩, List.mem_of_getElem? (i := 790) (by decide +kernel), List.mem_of_getElem? (i := 923) (by decide +kernel), List.mem_of_getElem? (i := 924) (by decide +kernel)⟩
theorem lw_p29 : lw_okq (⟨"TenPledgesModel", "ends", "(III)Z"⟩, 26) := ⟨⟨by decide +kernel, by decide +kernel⟩, List.mem_of_getElem? (i := 790) (by decide +kernel), List.mem_of_getElem? (i := 927) (by decide +kernel), List.mem_of_getElem? (i := 928) (by decide +kernel)⟩
theorem lw_p30 : lw_okq (⟨"TenPledgesModel", "readLineOf", "(I)V"⟩, 26) := ⟨⟨by decide +kernel, by decide +kernel⟩, List.mem_of_getElem? (i := 790) (by decide +kernel), List.mem_of_getElem? (i := 933) (by decide +kernel), List.mem_of_getElem? (i := 934) (by decide +kernel)⟩
theorem lw_p31 : lw_okq (⟨"TenPledgesModel", "readNumber", "(II)I"⟩, 26) := ⟨⟨by decide +kernel, by decide +kernel⟩, List.mem_of_getElem? (i := 790) (by decide +kernel), List.mem_of_getElem? (i := 937) (by decide +kernel), List.mem_of_getElem? (i := 938) (by decide +kernel)⟩
def lw_privs_2 : List (MethodName × Nat) := [(⟨"TenPledges$Putting", "fewestRough", "()I"⟩, 6), (⟨"TenPledges$Putting", "takeIt", "(I)V"⟩, 6), (⟨"TenPledges$Putting", "isLikeEarlier", "(I)Z"⟩, 6), (⟨"TenPledges", "harmBySwap", "(II)I"⟩, 12), (⟨"TenPledges$Fitting", "addSet", "(II)V"⟩, 5), (⟨"TenPledgesModel", "firstDraft", "()V"⟩, 26), (⟨"TenPledgesModel", "keepDraft", "()V"⟩, 26), (⟨"TenPledgesModel", "next", "()V"⟩, 26), (⟨"TenPledgesModel", "byteAt", "(I)I"⟩, 26), (⟨"TenPledgesModel", "needs", "(ZI)V"⟩, 26), (⟨"TenPledgesModel", "readLine", "()V"⟩, 26), (⟨"TenPledgesModel", "lineNow", "()I"⟩, 26), (⟨"TenPledgesModel", "is", "(IIIII)Z"⟩, 26), (⟨"TenPledgesModel", "ends", "(III)Z"⟩, 26), (⟨"TenPledgesModel", "readLineOf", "(I)V"⟩, 26), (⟨"TenPledgesModel", "readNumber", "(II)I"⟩, 26)]
theorem lw_r2 : ∀ q ∈ lw_privs_2, lw_okq q := List.forall_mem_cons.mpr ⟨lw_p16, List.forall_mem_cons.mpr ⟨lw_p17, List.forall_mem_cons.mpr ⟨lw_p18, List.forall_mem_cons.mpr ⟨lw_p19, List.forall_mem_cons.mpr ⟨lw_p20, List.forall_mem_cons.mpr ⟨lw_p21, List.forall_mem_cons.mpr ⟨lw_p22, List.forall_mem_cons.mpr ⟨lw_p23, List.forall_mem_cons.mpr ⟨lw_p24, List.forall_mem_cons.mpr ⟨lw_p25, List.forall_mem_cons.mpr ⟨lw_p26, List.forall_mem_cons.mpr ⟨lw_p27, List.forall_mem_cons.mpr ⟨lw_p28, List.forall_mem_cons.mpr ⟨lw_p29, List.forall_mem_cons.mpr ⟨lw_p30, List.forall_mem_cons.mpr ⟨lw_p31, fun _ h => absurd h List.not_mem_nil⟩⟩⟩⟩⟩⟩⟩⟩⟩⟩⟩⟩⟩⟩⟩⟩
theorem lw_p32 : lw_okq (⟨"TenPledgesModel", "looked", "(II)I"⟩, 26) := ⟨⟨by decide +kernel, by decide +kernel⟩, List.mem_of_getElem? (i := 790) (by decide +kernel), List.mem_of_getElem? (i := 941) (by decide +kernel), List.mem_of_getElem? (i := 942) (by decide +kernel)⟩
theorem lw_p33 : lw_okq (⟨"TenPledgesModel", "readMost", "()V"⟩, 26) := ⟨⟨by decide +kernel, by decide +kernel⟩, List.mem_of_getElem? (i := 790) (by decide +kernel), List.mem_of_getElem? (i := 945) (by decide +kernel), List.mem_of_getElem? (i := 946) (by decide +kernel)⟩
theorem lw_p34 : lw_okq (⟨"TenPledgesModel", "readKin", "()V"⟩, 26) := ⟨⟨by decide +kernel, by decide +kernel⟩, List.mem_of_getElem? (i := 790) (by decide +kernel), List.mem_of_getElem? (i := 949) (by decide +kernel), List.mem_of_getElem? (i := 950) (by decide +kernel)⟩
theorem lw_p35 : lw_okq (⟨"TenPledgesModel", "readMan", "(I)V"⟩, 26) := ⟨⟨by decide +kernel, by decide +kernel⟩, List.mem_of_getElem? (i := 790) (by decide +kernel), List.mem_of_getElem? (i := 953) (by decide +kernel), List.mem_of_getElem? (i := 954) (by decide +kernel)⟩
theorem lw_p36 : lw_okq (⟨"TenPledgesModel", "doFit", "()Z"⟩, 26) := ⟨⟨by decide +kernel, by decide +kernel⟩, List.mem_of_getElem? (i := 790) (by decide +kernel), List.mem_of_getElem? (i := 957) (by decide +kernel), List.mem_of_getElem? (i := 958) (by decide +kernel)⟩
theorem lw_p37 : lw_okq (⟨"TenPledgesModel", "isMan", "(I)Z"⟩, 26) := ⟨⟨by decide +kernel, by decide +kernel⟩, List.mem_of_getElem? (i := 790) (by decide +kernel), List.mem_of_getElem? (i := 976) (by decide +kernel), List.mem_of_getElem? (i := 977) (by decide +kernel)⟩
theorem lw_p38 : lw_okq (⟨"TenPledgesModel", "starts", "()V"⟩, 26) := ⟨⟨by decide +kernel, by decide +kernel⟩, List.mem_of_getElem? (i := 790) (by decide +kernel), List.mem_of_getElem? (i := 980) (by decide +kernel), List.mem_of_getElem? (i := 981) (by decide +kernel)⟩
theorem lw_p39 : lw_okq (⟨"TenPledgesModel", "of", "(II)I"⟩, 26) := ⟨⟨by decide +kernel, by decide +kernel⟩, List.mem_of_getElem? (i := 790) (by decide +kernel), List.mem_of_getElem? (i := 984) (by decide +kernel), List.mem_of_getElem? (i := 985) (by decide +kernel)⟩
theorem lw_p40 : lw_okq (⟨"TenPledgesModel", "oddsOf", "(I)I"⟩, 26) := ⟨⟨by decide +kernel, by decide +kernel⟩, List.mem_of_getElem? (i := 790) (by decide +kernel), List.mem_of_getElem? (i := 988) (by decide +kernel), List.mem_of_getElem? (i := 989) (by decide +kernel)⟩
theorem lw_p41 : lw_okq (⟨"TenPledgesModel", "isWatched", "(I)Z"⟩, 26) := ⟨⟨by decide +kernel, by decide +kernel⟩, List.mem_of_getElem? (i := 790) (by decide +kernel), List.mem_of_getElem? (i := 992) (by decide +kernel), List.mem_of_getElem? (i := 993) (by decide +kernel)⟩
theorem lw_p42 : lw_okq (⟨"TenPledgesModel", "menOf", "(I)I"⟩, 26) := ⟨⟨by decide +kernel, by decide +kernel⟩, List.mem_of_getElem? (i := 790) (by decide +kernel), List.mem_of_getElem? (i := 1004) (by decide +kernel), List.mem_of_getElem? (i := 1005) (by decide +kernel)⟩
theorem lw_p43 : lw_okq (⟨"TenPledgesModel", "harmOf", "(I)I"⟩, 26) := ⟨⟨by decide +kernel, by decide +kernel⟩, List.mem_of_getElem? (i := 790) (by decide +kernel), List.mem_of_getElem? (i := 1008) (by decide +kernel), List.mem_of_getElem? (i := 1009) (by decide +kernel)⟩
theorem lw_p44 : lw_okq (⟨"TenPledgesModel", "allGoods", "(I)I"⟩, 26) := ⟨⟨by decide +kernel, by decide +kernel⟩, List.mem_of_getElem? (i := 790) (by decide +kernel), List.mem_of_getElem? (i := 1012) (by decide +kernel), List.mem_of_getElem? (i := 1013) (by decide +kernel)⟩
theorem lw_p45 : lw_okq (⟨"TenPledgesModel", "isFull", "(I)Z"⟩, 26) := ⟨⟨by decide +kernel, by decide +kernel⟩, List.mem_of_getElem? (i := 790) (by decide +kernel), List.mem_of_getElem? (i := 1020) (by decide +kernel), List.mem_of_getElem? (i := 1021) (by decide +kernel)⟩
theorem lw_p46 : lw_okq (⟨"TenPledgesModel", "becomes", "(II)I"⟩, 26) := ⟨⟨by decide +kernel, by decide +kernel⟩, List.mem_of_getElem? (i := 790) (by decide +kernel), List.mem_of_getElem? (i := 1027) (by decide +kernel), List.mem_of_getElem? (i := 1028) (by decide +kernel)⟩
theorem lw_p47 : lw_okq (⟨"TenPledgesModel", "isWanderer", "(I)Z"⟩, 26) := ⟨⟨by decide +kernel, by decide +kernel⟩, List.mem_of_getElem? (i := 790) (by decide +kernel), List.mem_of_getElem? (i := 1035) (by decide +kernel), List.mem_of_getElem? (i := 1036) (by decide +kernel)⟩
def lw_privs_3 : List (MethodName × Nat) := [(⟨"TenPledgesModel", "looked", "(II)I"⟩, 26), (⟨"TenPledgesModel", "readMost", "()V"⟩, 26), (⟨"TenPledgesModel", "readKin", "()V"⟩, 26), (⟨"TenPledgesModel", "readMan", "(I)V"⟩, 26), (⟨"TenPledgesModel", "doFit", "()Z"⟩, 26), (⟨"TenPledgesModel", "isMan", "(I)Z"⟩, 26), (⟨"TenPledgesModel", "starts", "()V"⟩, 26), (⟨"TenPledgesModel", "of", "(II)I"⟩, 26), (⟨"TenPledgesModel", "oddsOf", "(I)I"⟩, 26), (⟨"TenPledgesModel", "isWatched", "(I)Z"⟩, 26), (⟨"TenPledgesModel", "menOf", "(I)I"⟩, 26), (⟨"TenPledgesModel", "harmOf", "(I)I"⟩, 26), (⟨"TenPledgesModel", "allGoods", "(I)I"⟩, 26), (⟨"TenPledgesModel", "isFull", "(I)Z"⟩, 26), (⟨"TenPledgesModel", "becomes", "(II)I"⟩, 26), (⟨"TenPledgesModel", "isWanderer", "(I)Z"⟩, 26)]
theorem lw_r3 : ∀ q ∈ lw_privs_3, lw_okq q := List.forall_mem_cons.mpr ⟨lw_p32, List.forall_mem_cons.mpr ⟨lw_p33, List.forall_mem_cons.mpr ⟨lw_p34, List.forall_mem_cons.mpr ⟨lw_p35, List.forall_mem_cons.mpr ⟨lw_p36, List.forall_mem_cons.mpr ⟨lw_p37, List.forall_mem_cons.mpr ⟨lw_p38, List.forall_mem_cons.mpr ⟨lw_p39, List.forall_mem_cons.mpr ⟨lw_p40, List.forall_mem_cons.mpr ⟨lw_p41, List.forall_mem_cons.mpr ⟨lw_p42, List.forall_mem_cons.mpr ⟨lw_p43, List.forall_mem_cons.mpr ⟨lw_p44, List.forall_mem_cons.mpr ⟨lw_p45, List.forall_mem_cons.mpr ⟨lw_p46, List.forall_mem_cons.mpr ⟨lw_p47, fun _ h => absurd h List.not_mem_nil⟩⟩⟩⟩⟩⟩⟩⟩⟩⟩⟩⟩⟩⟩⟩⟩
theorem lw_p48 : lw_okq (⟨"TenPledgesModel", "becomesBit", "(IIZ)I"⟩, 26) := ⟨⟨by decide +kernel, by decide +kernel⟩, List.mem_of_getElem? (i := 790) (by decide +kernel), List.mem_of_getElem? (i := 1047) (by decide +kernel), List.mem_of_getElem? (i := 1048) (by decide +kernel)⟩
theorem lw_p49 : lw_okq (⟨"TenPledgesModel", "isWrong", "(I)Z"⟩, 26) := ⟨⟨by decide +kernel, by decide +kernel⟩, List.mem_of_getElem? (i := 790) (by decide +kernel), List.mem_of_getElem? (i := 1076) (by decide +kernel), List.mem_of_getElem? (i := 1077) (by decide +kernel)⟩
theorem lw_p50 : lw_okq (⟨"TenPledgesModel", "saints", "()I"⟩, 26) := ⟨⟨by decide +kernel, by decide +kernel⟩, List.mem_of_getElem? (i := 790) (by decide +kernel), List.mem_of_getElem? (i := 1080) (by decide +kernel), List.mem_of_getElem? (i := 1081) (by decide +kernel)⟩
theorem lw_p51 : lw_okq (⟨"TenPledgesModel", "yearGoes", "(I)I"⟩, 26) := ⟨⟨by decide +kernel, by decide +kernel⟩, List.mem_of_getElem? (i := 790) (by decide +kernel), List.mem_of_getElem? (i := 1084) (by decide +kernel), List.mem_of_getElem? (i := 1085) (by decide +kernel)⟩
theorem lw_p52 : lw_okq (⟨"TenPledgesModel", "runs", "(I)I"⟩, 26) := ⟨⟨by decide +kernel, by decide +kernel⟩, List.mem_of_getElem? (i := 790) (by decide +kernel), List.mem_of_getElem? (i := 1088) (by decide +kernel), List.mem_of_getElem? (i := 1089) (by decide +kernel)⟩
theorem lw_p53 : lw_okq (⟨"TenPledgesModel", "pay", "(II)I"⟩, 26) := ⟨⟨by decide +kernel, by decide +kernel⟩, List.mem_of_getElem? (i := 790) (by decide +kernel), List.mem_of_getElem? (i := 1092) (by decide +kernel), List.mem_of_getElem? (i := 1093) (by decide +kernel)⟩
theorem lw_p54 : lw_okq (⟨"TenPledgesModel", "becomesOf", "(III)V"⟩, 26) := ⟨⟨by decide +kernel, by decide +kernel⟩, List.mem_of_getElem? (i := 790) (by decide +kernel), List.mem_of_getElem? (i := 1096) (by decide +kernel), List.mem_of_getElem? (i := 1097) (by decide +kernel)⟩
theorem lw_p55 : lw_okq (⟨"TenPledgesModel", "watches", "(I)I"⟩, 26) := ⟨⟨by decide +kernel, by decide +kernel⟩, List.mem_of_getElem? (i := 790) (by decide +kernel), List.mem_of_getElem? (i := 1100) (by decide +kernel), List.mem_of_getElem? (i := 1101) (by decide +kernel)⟩
theorem lw_p56 : lw_okq (⟨"TenPledgesModel", "settles", "()V"⟩, 26) := ⟨⟨by decide +kernel, by decide +kernel⟩, List.mem_of_getElem? (i := 790) (by decide +kernel), List.mem_of_getElem? (i := 1104) (by decide +kernel), List.mem_of_getElem? (i := 1105) (by decide +kernel)⟩
theorem lw_p57 : lw_okq (⟨"TenPledgesModel", "harmAll", "()I"⟩, 26) := ⟨⟨by decide +kernel, by decide +kernel⟩, List.mem_of_getElem? (i := 790) (by decide +kernel), List.mem_of_getElem? (i := 1116) (by decide +kernel), List.mem_of_getElem? (i := 1117) (by decide +kernel)⟩
theorem lw_p58 : lw_okq (⟨"TenPledgesModel", "findOdds", "()V"⟩, 26) := ⟨⟨by decide +kernel, by decide +kernel⟩, List.mem_of_getElem? (i := 790) (by decide +kernel), List.mem_of_getElem? (i := 1136) (by decide +kernel), List.mem_of_getElem? (i := 1137) (by decide +kernel)⟩
theorem lw_p59 : lw_okq (⟨"TenPledgesModel", "puttings", "()I"⟩, 26) := ⟨⟨by decide +kernel, by decide +kernel⟩, List.mem_of_getElem? (i := 790) (by decide +kernel), List.mem_of_getElem? (i := 1145) (by decide +kernel), List.mem_of_getElem? (i := 1146) (by decide +kernel)⟩
theorem lw_p60 : lw_okq (⟨"TenPledgesModel", "putsBy", "(I)Z"⟩, 26) := ⟨⟨by decide +kernel, by decide +kernel⟩, List.mem_of_getElem? (i := 790) (by decide +kernel), List.mem_of_getElem? (i := 1149) (by decide +kernel), List.mem_of_getElem? (i := 1150) (by decide +kernel)⟩
theorem lw_p61 : lw_okq (⟨"TenPledgesModel", "goesAway", "(I)V"⟩, 26) := ⟨⟨by decide +kernel, by decide +kernel⟩, List.mem_of_getElem? (i := 790) (by decide +kernel), List.mem_of_getElem? (i := 1166) (by decide +kernel), List.mem_of_getElem? (i := 1167) (by decide +kernel)⟩
theorem lw_p62 : lw_okq (⟨"TenPledgesModel", "isSo", "(I)Z"⟩, 26) := ⟨⟨by decide +kernel, by decide +kernel⟩, List.mem_of_getElem? (i := 790) (by decide +kernel), List.mem_of_getElem? (i := 1195) (by decide +kernel), List.mem_of_getElem? (i := 1196) (by decide +kernel)⟩
theorem lw_p63 : lw_okq (⟨"TenPledgesModel", "tensOf", "(I)I"⟩, 26) := ⟨⟨by decide +kernel, by decide +kernel⟩, List.mem_of_getElem? (i := 790) (by decide +kernel), List.mem_of_getElem? (i := 1199) (by decide +kernel), List.mem_of_getElem? (i := 1200) (by decide +kernel)⟩
def lw_privs_4 : List (MethodName × Nat) := [(⟨"TenPledgesModel", "becomesBit", "(IIZ)I"⟩, 26), (⟨"TenPledgesModel", "isWrong", "(I)Z"⟩, 26), (⟨"TenPledgesModel", "saints", "()I"⟩, 26), (⟨"TenPledgesModel", "yearGoes", "(I)I"⟩, 26), (⟨"TenPledgesModel", "runs", "(I)I"⟩, 26), (⟨"TenPledgesModel", "pay", "(II)I"⟩, 26), (⟨"TenPledgesModel", "becomesOf", "(III)V"⟩, 26), (⟨"TenPledgesModel", "watches", "(I)I"⟩, 26), (⟨"TenPledgesModel", "settles", "()V"⟩, 26), (⟨"TenPledgesModel", "harmAll", "()I"⟩, 26), (⟨"TenPledgesModel", "findOdds", "()V"⟩, 26), (⟨"TenPledgesModel", "puttings", "()I"⟩, 26), (⟨"TenPledgesModel", "putsBy", "(I)Z"⟩, 26), (⟨"TenPledgesModel", "goesAway", "(I)V"⟩, 26), (⟨"TenPledgesModel", "isSo", "(I)Z"⟩, 26), (⟨"TenPledgesModel", "tensOf", "(I)I"⟩, 26)]
theorem lw_r4 : ∀ q ∈ lw_privs_4, lw_okq q := List.forall_mem_cons.mpr ⟨lw_p48, List.forall_mem_cons.mpr ⟨lw_p49, List.forall_mem_cons.mpr ⟨lw_p50, List.forall_mem_cons.mpr ⟨lw_p51, List.forall_mem_cons.mpr ⟨lw_p52, List.forall_mem_cons.mpr ⟨lw_p53, List.forall_mem_cons.mpr ⟨lw_p54, List.forall_mem_cons.mpr ⟨lw_p55, List.forall_mem_cons.mpr ⟨lw_p56, List.forall_mem_cons.mpr ⟨lw_p57, List.forall_mem_cons.mpr ⟨lw_p58, List.forall_mem_cons.mpr ⟨lw_p59, List.forall_mem_cons.mpr ⟨lw_p60, List.forall_mem_cons.mpr ⟨lw_p61, List.forall_mem_cons.mpr ⟨lw_p62, List.forall_mem_cons.mpr ⟨lw_p63, fun _ h => absurd h List.not_mem_nil⟩⟩⟩⟩⟩⟩⟩⟩⟩⟩⟩⟩⟩⟩⟩⟩
theorem lw_p64 : lw_okq (⟨"TenPledgesModel", "copies", "(II)V"⟩, 26) := ⟨⟨by decide +kernel, by decide +kernel⟩, List.mem_of_getElem? (i := 790) (by decide +kernel), List.mem_of_getElem? (i := 1213) (by decide +kernel), List.mem_of_getElem? (i := 1214) (by decide +kernel)⟩
def lw_privs_5 : List (MethodName × Nat) := [(⟨"TenPledgesModel", "copies", "(II)V"⟩, 26)]
theorem lw_r5 : ∀ q ∈ lw_privs_5, lw_okq q := List.forall_mem_cons.mpr ⟨lw_p64, fun _ h => absurd h List.not_mem_nil⟩
def lw_privs : List (MethodName × Nat) := lw_privs_1 ++ (lw_privs_2 ++ (lw_privs_3 ++ (lw_privs_4 ++ (lw_privs_5))))
def lw_tbl : List Cond := k2_sels lw_privs ++ tables_1
theorem lw_privs_ok : ∀ q ∈ lw_privs, lw_okq q := by
  show ∀ q ∈ lw_privs_1 ++ (lw_privs_2 ++ (lw_privs_3 ++ (lw_privs_4 ++ (lw_privs_5)))), lw_okq q
  exact List.forall_mem_append.mpr ⟨lw_r1, List.forall_mem_append.mpr ⟨lw_r2, List.forall_mem_append.mpr ⟨lw_r3, List.forall_mem_append.mpr ⟨lw_r4, lw_r5⟩⟩⟩⟩
def RX0 : String := "TenPledges$Fitting"
def TX0 : u_T := fun k => match k with
  | 0 => ("TenPledges$Fitting", "sets", "I", false)
  | 1 => ("TenPledges$Fitting", "first", "I", false)
  | 2 => ("TenPledges$Fitting", "inAll", "I", false)
  | 3 => ("TenPledges$Fitting", "inAny", "I", false)
  | _ => ("TenPledges$Fitting", "tensOfAll", "I", false)
def tyX0 : Nat → FieldType := fun k => match k with
  | 0 => .int
  | 1 => .int
  | 2 => .int
  | 3 => .int
  | _ => .int
abbrev wsX00 : List Cond := u_ws RX0 TX0 5
theorem nmX0 : ∀ a, a < 5 → ∀ b, b < 5 → a ≠ b → (TX0 a).2.1 ≠ (TX0 b).2.1 := by decide +kernel
theorem tyX0_ok : ∀ k, k < 5 → parseFieldDescriptor (TX0 k).2.2.1 = some (tyX0 k) := by decide +kernel
def RX1 : String := "TenPledges$Putting"
def TX1 : u_T := fun k => match k with
  | 0 => ("TenPledges$Putting", "seats", "[I", true)
  | 1 => ("TenPledges$Putting", "least", "I", false)
  | 2 => ("TenPledges$Putting", "town", "LTenPledges$Town;", false)
  | 3 => ("TenPledges$Putting", "tried", "[I", true)
  | 4 => ("TenPledges$Putting", "sizes", "[I", true)
  | _ => ("TenPledges$Putting", "roughs", "[I", true)
def tyX1 : Nat → FieldType := fun k => match k with
  | 0 => .array .int
  | 1 => .int
  | 2 => .object "TenPledges$Town"
  | 3 => .array .int
  | 4 => .array .int
  | _ => .array .int
abbrev wsX10 : List Cond := u_ws RX1 TX1 6
theorem nmX1 : ∀ a, a < 6 → ∀ b, b < 6 → a ≠ b → (TX1 a).2.1 ≠ (TX1 b).2.1 := by decide +kernel
theorem tyX1_ok : ∀ k, k < 6 → parseFieldDescriptor (TX1 k).2.2.1 = some (tyX1 k) := by decide +kernel
def RX2 : String := "TenPledges$Sheet"
def TX2 : u_T := fun k => match k with
  | 0 => ("TenPledges$Sheet", "lane", "I", false)
  | 1 => ("TenPledges$Sheet", "size", "I", false)
  | _ => ("TenPledges$Sheet", "cells", "[I", true)
def tyX2 : Nat → FieldType := fun k => match k with
  | 0 => .int
  | 1 => .int
  | _ => .array .int
abbrev wsX20 : List Cond := u_ws RX2 TX2 3
theorem nmX2 : ∀ a, a < 3 → ∀ b, b < 3 → a ≠ b → (TX2 a).2.1 ≠ (TX2 b).2.1 := by decide +kernel
theorem tyX2_ok : ∀ k, k < 3 → parseFieldDescriptor (TX2 k).2.2.1 = some (tyX2 k) := by decide +kernel
def RX3 : String := "TenPledges$Teller"
def TX3 : u_T := fun k => match k with
  | 0 => ("TenPledges$Teller", "lines", "I", false)
  | 1 => ("TenPledges$Teller", "problem", "I", false)
  | 2 => ("TenPledges$Teller", "problemAt", "I", false)
  | 3 => ("TenPledges$Teller", "told", "LTenPledges$Town;", false)
  | 4 => ("TenPledges$Teller", "bytes", "[B", false)
  | 5 => ("TenPledges$Teller", "length", "I", false)
  | 6 => ("TenPledges$Teller", "place", "I", false)
  | 7 => ("TenPledges$Teller", "token", "I", false)
  | 8 => ("TenPledges$Teller", "tokenAt", "I", false)
  | 9 => ("TenPledges$Teller", "value", "I", false)
  | 10 => ("TenPledges$Teller", "numbers", "[I", true)
  | 11 => ("TenPledges$Teller", "fineTold", "Z", false)
  | 12 => ("TenPledges$Teller", "watchTold", "Z", false)
  | 13 => ("TenPledges$Teller", "mostsTold", "I", false)
  | _ => ("TenPledges$Teller", "kinMen", "I", false)
def tyX3 : Nat → FieldType := fun k => match k with
  | 0 => .int
  | 1 => .int
  | 2 => .int
  | 3 => .object "TenPledges$Town"
  | 4 => .array .byte
  | 5 => .int
  | 6 => .int
  | 7 => .int
  | 8 => .int
  | 9 => .int
  | 10 => .array .int
  | 11 => .boolean
  | 12 => .boolean
  | 13 => .int
  | _ => .int
abbrev wsX30 : List Cond := u_ws RX3 TX3 15
theorem nmX3 : ∀ a, a < 15 → ∀ b, b < 15 → a ≠ b → (TX3 a).2.1 ≠ (TX3 b).2.1 := by decide +kernel
theorem tyX3_ok : ∀ k, k < 15 → parseFieldDescriptor (TX3 k).2.2.1 = some (tyX3 k) := by decide +kernel
def RX4 : String := "TenPledges$Town"
def TX4 : u_T := fun k => match k with
  | 0 => ("TenPledges$Town", "men", "I", false)
  | 1 => ("TenPledges$Town", "fine", "I", false)
  | 2 => ("TenPledges$Town", "cost", "I", false)
  | 3 => ("TenPledges$Town", "year", "I", false)
  | 4 => ("TenPledges$Town", "watched", "I", false)
  | 5 => ("TenPledges$Town", "seen", "I", false)
  | 6 => ("TenPledges$Town", "kinds", "[I", true)
  | 7 => ("TenPledges$Town", "odds", "[I", true)
  | 8 => ("TenPledges$Town", "stock", "[I", true)
  | 9 => ("TenPledges$Town", "tens", "[I", true)
  | 10 => ("TenPledges$Town", "kins", "[I", true)
  | 11 => ("TenPledges$Town", "mosts", "[I", true)
  | 12 => ("TenPledges$Town", "seenMen", "[I", true)
  | _ => ("TenPledges$Town", "seenLess", "[I", true)
def tyX4 : Nat → FieldType := fun k => match k with
  | 0 => .int
  | 1 => .int
  | 2 => .int
  | 3 => .int
  | 4 => .int
  | 5 => .int
  | 6 => .array .int
  | 7 => .array .int
  | 8 => .array .int
  | 9 => .array .int
  | 10 => .array .int
  | 11 => .array .int
  | 12 => .array .int
  | _ => .array .int
abbrev wsX40 : List Cond := u_ws RX4 TX4 14
theorem nmX4 : ∀ a, a < 14 → ∀ b, b < 14 → a ≠ b → (TX4 a).2.1 ≠ (TX4 b).2.1 := by decide +kernel
theorem tyX4_ok : ∀ k, k < 14 → parseFieldDescriptor (TX4 k).2.2.1 = some (tyX4 k) := by decide +kernel
def RX5 : String := "TenPledges"
def TX5 : u_T := fun k => match k with
  | 0 => ("TenPledges", "town", "LTenPledges$Town;", true)
  | 1 => ("TenPledges", "trial", "LTenPledges$Town;", true)
  | 2 => ("TenPledges", "images", "[LTenPledges$Town;", true)
  | 3 => ("TenPledges", "kept", "[Z", true)
  | 4 => ("TenPledges", "sheets", "[LTenPledges$Sheet;", true)
  | 5 => ("TenPledges", "tape", "[B", true)
  | 6 => ("TenPledges", "teller", "LTenPledges$Teller;", true)
  | 7 => ("TenPledges", "putting", "LTenPledges$Putting;", true)
  | 8 => ("TenPledges", "fitting", "LTenPledges$Fitting;", true)
  | 9 => ("TenPledges", "tapeLength", "I", false)
  | 10 => ("TenPledges", "textFault", "I", false)
  | _ => ("TenPledges", "readFault", "I", false)
def tyX5 : Nat → FieldType := fun k => match k with
  | 0 => .object "TenPledges$Town"
  | 1 => .object "TenPledges$Town"
  | 2 => .array (.object "TenPledges$Town")
  | 3 => .array .boolean
  | 4 => .array (.object "TenPledges$Sheet")
  | 5 => .array .byte
  | 6 => .object "TenPledges$Teller"
  | 7 => .object "TenPledges$Putting"
  | 8 => .object "TenPledges$Fitting"
  | 9 => .int
  | 10 => .int
  | _ => .int
abbrev wsX50 : List Cond := u_ws RX5 TX5 12
theorem nmX5 : ∀ a, a < 12 → ∀ b, b < 12 → a ≠ b → (TX5 a).2.1 ≠ (TX5 b).2.1 := by decide +kernel
theorem tyX5_ok : ∀ k, k < 12 → parseFieldDescriptor (TX5 k).2.2.1 = some (tyX5 k) := by decide +kernel
def RX6 : String := "TenPledgesModel"
def TX6 : u_T := fun k => match k with
  | 0 => ("TenPledgesModel", "st", "[I", true)
  | 1 => ("TenPledgesModel", "at", "[I", true)
  | 2 => ("TenPledgesModel", "isKept", "[Z", true)
  | 3 => ("TenPledgesModel", "men", "I", false)
  | 4 => ("TenPledgesModel", "mosts", "[I", true)
  | 5 => ("TenPledgesModel", "draft", "[I", true)
  | 6 => ("TenPledgesModel", "dMen", "I", false)
  | 7 => ("TenPledgesModel", "dMosts", "[I", true)
  | 8 => ("TenPledgesModel", "toldLines", "I", false)
  | 9 => ("TenPledgesModel", "toldMosts", "I", false)
  | 10 => ("TenPledgesModel", "highest", "I", false)
  | 11 => ("TenPledgesModel", "tape", "[I", true)
  | 12 => ("TenPledgesModel", "taped", "I", false)
  | 13 => ("TenPledgesModel", "pos", "I", false)
  | 14 => ("TenPledgesModel", "from", "I", false)
  | 15 => ("TenPledgesModel", "sort", "I", false)
  | 16 => ("TenPledgesModel", "value", "I", false)
  | 17 => ("TenPledgesModel", "fault", "I", false)
  | 18 => ("TenPledgesModel", "wrongAt", "I", false)
  | 19 => ("TenPledgesModel", "fines", "[I", true)
  | 20 => ("TenPledgesModel", "odds", "[I", true)
  | 21 => ("TenPledgesModel", "lanes", "[I", true)
  | 22 => ("TenPledgesModel", "sizes", "[I", true)
  | 23 => ("TenPledgesModel", "cells", "[I", true)
  | 24 => ("TenPledgesModel", "torn", "I", false)
  | _ => ("TenPledgesModel", "had", "[I", true)
def tyX6 : Nat → FieldType := fun k => match k with
  | 0 => .array .int
  | 1 => .array .int
  | 2 => .array .boolean
  | 3 => .int
  | 4 => .array .int
  | 5 => .array .int
  | 6 => .int
  | 7 => .array .int
  | 8 => .int
  | 9 => .int
  | 10 => .int
  | 11 => .array .int
  | 12 => .int
  | 13 => .int
  | 14 => .int
  | 15 => .int
  | 16 => .int
  | 17 => .int
  | 18 => .int
  | 19 => .array .int
  | 20 => .array .int
  | 21 => .array .int
  | 22 => .array .int
  | 23 => .array .int
  | 24 => .int
  | _ => .array .int
abbrev wsX60 : List Cond := u_ws RX6 TX6 26
theorem nmX6 : ∀ a, a < 26 → ∀ b, b < 26 → a ≠ b → (TX6 a).2.1 ≠ (TX6 b).2.1 := by decide +kernel
theorem tyX6_ok : ∀ k, k < 26 → parseFieldDescriptor (TX6 k).2.2.1 = some (tyX6 k) := by decide +kernel
def RJ6 : String := "java/lang/Integer"
def RJ9 : String := "java/lang/Math"
def RJ0 : String := "java/lang/String"
def RJ1 : String := "java/lang/StringLatin1"
def RJ3 : String := "jdk/internal/util/Preconditions"
def RL : String := "TenPledgesLaw"
abbrev cX0_init : ByteArray := prog_2_method_1_code
def yX0_init : MethodName := ⟨RX0, "<init>", "()V"⟩
abbrev cX0_search : ByteArray := prog_2_method_2_code
def yX0_search : MethodName := ⟨RX0, "search", "(LTenPledges$Town;LTenPledges$Town;)V"⟩
abbrev cX0_addSet : ByteArray := prog_2_method_3_code
def yX0_addSet : MethodName := ⟨RX0, "addSet", "(II)V"⟩
abbrev cX0_isAsSeen : ByteArray := prog_2_method_4_code
def yX0_isAsSeen : MethodName := ⟨RX0, "isAsSeen", "(LTenPledges$Town;LTenPledges$Town;I)Z"⟩
abbrev cX1_init : ByteArray := prog_3_method_1_code
def yX1_init : MethodName := ⟨RX1, "<init>", "()V"⟩
abbrev cX1_search : ByteArray := prog_3_method_2_code
def yX1_search : MethodName := ⟨RX1, "search", "(LTenPledges$Town;)V"⟩
abbrev cX1_seatFrom : ByteArray := prog_3_method_3_code
def yX1_seatFrom : MethodName := ⟨RX1, "seatFrom", "(I)V"⟩
abbrev cX1_takeIt : ByteArray := prog_3_method_4_code
def yX1_takeIt : MethodName := ⟨RX1, "takeIt", "(I)V"⟩
abbrev cX1_isLikeEarlier : ByteArray := prog_3_method_5_code
def yX1_isLikeEarlier : MethodName := ⟨RX1, "isLikeEarlier", "(I)Z"⟩
abbrev cX1_atLeastHarm : ByteArray := prog_3_method_6_code
def yX1_atLeastHarm : MethodName := ⟨RX1, "atLeastHarm", "(I)I"⟩
abbrev cX1_fewestRough : ByteArray := prog_3_method_7_code
def yX1_fewestRough : MethodName := ⟨RX1, "fewestRough", "()I"⟩
abbrev cX2_init : ByteArray := prog_4_method_1_code
def yX2_init : MethodName := ⟨RX2, "<init>", "()V"⟩
abbrev cX2_renew : ByteArray := prog_4_method_2_code
def yX2_renew : MethodName := ⟨RX2, "renew", "(II)V"⟩
abbrev cX2_write : ByteArray := prog_4_method_3_code
def yX2_write : MethodName := ⟨RX2, "write", "(II)V"⟩
abbrev cX2_faultAt : ByteArray := prog_4_method_4_code
def yX2_faultAt : MethodName := ⟨RX2, "faultAt", "(II)I"⟩
abbrev cX2_faultAtTwo : ByteArray := prog_4_method_5_code
def yX2_faultAtTwo : MethodName := ⟨RX2, "faultAtTwo", "(II)I"⟩
abbrev cX3_init : ByteArray := prog_5_method_1_code
def yX3_init : MethodName := ⟨RX3, "<init>", "()V"⟩
abbrev cX3_tell : ByteArray := prog_5_method_2_code
def yX3_tell : MethodName := ⟨RX3, "tell", "([BILTenPledges$Town;)Z"⟩
abbrev cX3_start : ByteArray := prog_5_method_3_code
def yX3_start : MethodName := ⟨RX3, "start", "([BILTenPledges$Town;)V"⟩
abbrev cX3_refuse : ByteArray := prog_5_method_4_code
def yX3_refuse : MethodName := ⟨RX3, "refuse", "(II)Z"⟩
abbrev cX3_agrees : ByteArray := prog_5_method_5_code
def yX3_agrees : MethodName := ⟨RX3, "agrees", "()Z"⟩
abbrev cX3_nextToken : ByteArray := prog_5_method_6_code
def yX3_nextToken : MethodName := ⟨RX3, "nextToken", "()Z"⟩
abbrev cX3_takeFigures : ByteArray := prog_5_method_7_code
def yX3_takeFigures : MethodName := ⟨RX3, "takeFigures", "()Z"⟩
abbrev cX3_pass : ByteArray := prog_5_method_8_code
def yX3_pass : MethodName := ⟨RX3, "pass", "(CC)V"⟩
abbrev cX3_isIn : ByteArray := prog_5_method_9_code
def yX3_isIn : MethodName := ⟨RX3, "isIn", "(ICC)Z"⟩
abbrev cX3_takeLine : ByteArray := prog_5_method_10_code
def yX3_takeLine : MethodName := ⟨RX3, "takeLine", "()Z"⟩
abbrev cX3_takeNumber : ByteArray := prog_5_method_11_code
def yX3_takeNumber : MethodName := ⟨RX3, "takeNumber", "(II)Z"⟩
abbrev cX3_putDown : ByteArray := prog_5_method_12_code
def yX3_putDown : MethodName := ⟨RX3, "putDown", "(I)V"⟩
abbrev cX3_wordHere : ByteArray := prog_5_method_13_code
def yX3_wordHere : MethodName := ⟨RX3, "wordHere", "()I"⟩
abbrev cX3_isHere : ByteArray := prog_5_method_14_code
def yX3_isHere : MethodName := ⟨RX3, "isHere", "(Ljava/lang/String;)Z"⟩
abbrev cX3_wordOf : ByteArray := prog_5_method_15_code
def yX3_wordOf : MethodName := ⟨RX3, "wordOf", "(I)Ljava/lang/String;"⟩
abbrev cX4_init : ByteArray := prog_6_method_1_code
def yX4_init : MethodName := ⟨RX4, "<init>", "()V"⟩
abbrev cX4_clear : ByteArray := prog_6_method_2_code
def yX4_clear : MethodName := ⟨RX4, "clear", "()V"⟩
abbrev cX4_copyFrom : ByteArray := prog_6_method_3_code
def yX4_copyFrom : MethodName := ⟨RX4, "copyFrom", "(LTenPledges$Town;)V"⟩
abbrev cX4_copyStock : ByteArray := prog_6_method_4_code
def yX4_copyStock : MethodName := ⟨RX4, "copyStock", "(LTenPledges$Town;)V"⟩
abbrev cX4_hasMan : ByteArray := prog_6_method_5_code
def yX4_hasMan : MethodName := ⟨RX4, "hasMan", "(I)Z"⟩
abbrev cX4_allMen : ByteArray := prog_6_method_6_code
def yX4_allMen : MethodName := ⟨RX4, "allMen", "()I"⟩
abbrev cX4_menOfKind : ByteArray := prog_6_method_7_code
def yX4_menOfKind : MethodName := ⟨RX4, "menOfKind", "(I)I"⟩
abbrev cX4_menOfTen : ByteArray := prog_6_method_8_code
def yX4_menOfTen : MethodName := ⟨RX4, "menOfTen", "(I)I"⟩
abbrev cX4_sizeOfTen : ByteArray := prog_6_method_9_code
def yX4_sizeOfTen : MethodName := ⟨RX4, "sizeOfTen", "(I)I"⟩
abbrev cX4_tensWithMen : ByteArray := prog_6_method_10_code
def yX4_tensWithMen : MethodName := ⟨RX4, "tensWithMen", "()I"⟩
abbrev cX4_tensOf : ByteArray := prog_6_method_11_code
def yX4_tensOf : MethodName := ⟨RX4, "tensOf", "(I)I"⟩
abbrev cX4_stockOf : ByteArray := prog_6_method_12_code
def yX4_stockOf : MethodName := ⟨RX4, "stockOf", "(I)I"⟩
abbrev cX4_addMan : ByteArray := prog_6_method_13_code
def yX4_addMan : MethodName := ⟨RX4, "addMan", "(IIII)V"⟩
abbrev cX4_setKin : ByteArray := prog_6_method_14_code
def yX4_setKin : MethodName := ⟨RX4, "setKin", "(IIZ)V"⟩
abbrev cX4_whyNoSeat : ByteArray := prog_6_method_15_code
def yX4_whyNoSeat : MethodName := ⟨RX4, "whyNoSeat", "(II)I"⟩
abbrev cX4_seat : ByteArray := prog_6_method_16_code
def yX4_seat : MethodName := ⟨RX4, "seat", "(II)I"⟩
abbrev cX4_giveUp : ByteArray := prog_6_method_17_code
def yX4_giveUp : MethodName := ⟨RX4, "giveUp", "(I)V"⟩
abbrev cX4_maySwap : ByteArray := prog_6_method_18_code
def yX4_maySwap : MethodName := ⟨RX4, "maySwap", "(II)Z"⟩
abbrev cX4_exchange : ByteArray := prog_6_method_19_code
def yX4_exchange : MethodName := ⟨RX4, "exchange", "(II)V"⟩
abbrev cX4_oddsInTen : ByteArray := prog_6_method_20_code
def yX4_oddsInTen : MethodName := ⟨RX4, "oddsInTen", "(I)I"⟩
abbrev cX4_oddsIfWatched : ByteArray := prog_6_method_21_code
def yX4_oddsIfWatched : MethodName := ⟨RX4, "oddsIfWatched", "(IZ)I"⟩
abbrev cX4_oddsAmong : ByteArray := prog_6_method_22_code
def yX4_oddsAmong : MethodName := ⟨RX4, "oddsAmong", "(IIZ)I"⟩
abbrev cX4_wonByWatch : ByteArray := prog_6_method_23_code
def yX4_wonByWatch : MethodName := ⟨RX4, "wonByWatch", "(I)I"⟩
abbrev cX4_harmOfTen : ByteArray := prog_6_method_24_code
def yX4_harmOfTen : MethodName := ⟨RX4, "harmOfTen", "(I)I"⟩
abbrev cX4_harmOfAll : ByteArray := prog_6_method_25_code
def yX4_harmOfAll : MethodName := ⟨RX4, "harmOfAll", "()I"⟩
abbrev cX4_chanceOf : ByteArray := prog_6_method_26_code
def yX4_chanceOf : MethodName := ⟨RX4, "chanceOf", "(II)J"⟩
abbrev cX4_mayDoWrong : ByteArray := prog_6_method_27_code
def yX4_mayDoWrong : MethodName := ⟨RX4, "mayDoWrong", "(I)Z"⟩
abbrev cX4_payAll : ByteArray := prog_6_method_28_code
def yX4_payAll : MethodName := ⟨RX4, "payAll", "(I)I"⟩
abbrev cX4_payFines : ByteArray := prog_6_method_29_code
def yX4_payFines : MethodName := ⟨RX4, "payFines", "(I)I"⟩
abbrev cX4_payFor : ByteArray := prog_6_method_30_code
def yX4_payFor : MethodName := ⟨RX4, "payFor", "(I)I"⟩
abbrev cX4_payCosts : ByteArray := prog_6_method_31_code
def yX4_payCosts : MethodName := ⟨RX4, "payCosts", "()I"⟩
abbrev cX4_takeFrom : ByteArray := prog_6_method_32_code
def yX4_takeFrom : MethodName := ⟨RX4, "takeFrom", "(II)I"⟩
abbrev cX5_init : ByteArray := prog_1_method_1_code
def yX5_init : MethodName := ⟨RX5, "<init>", "()V"⟩
abbrev cX5_feed : ByteArray := prog_1_method_2_code
def yX5_feed : MethodName := ⟨RX5, "feed", "(I)I"⟩
abbrev cX5_end : ByteArray := prog_1_method_3_code
def yX5_end : MethodName := ⟨RX5, "end", "(I)I"⟩
abbrev cX5_text : ByteArray := prog_1_method_4_code
def yX5_text : MethodName := ⟨RX5, "text", "()I"⟩
abbrev cX5_fault : ByteArray := prog_1_method_5_code
def yX5_fault : MethodName := ⟨RX5, "fault", "()I"⟩
abbrev cX5_rule : ByteArray := prog_1_method_6_code
def yX5_rule : MethodName := ⟨RX5, "rule", "(I)I"⟩
abbrev cX5_man : ByteArray := prog_1_method_7_code
def yX5_man : MethodName := ⟨RX5, "man", "(II)I"⟩
abbrev cX5_ten : ByteArray := prog_1_method_8_code
def yX5_ten : MethodName := ⟨RX5, "ten", "(II)I"⟩
abbrev cX5_move : ByteArray := prog_1_method_9_code
def yX5_move : MethodName := ⟨RX5, "move", "(II)I"⟩
abbrev cX5_leave : ByteArray := prog_1_method_10_code
def yX5_leave : MethodName := ⟨RX5, "leave", "(I)I"⟩
abbrev cX5_swap : ByteArray := prog_1_method_11_code
def yX5_swap : MethodName := ⟨RX5, "swap", "(II)I"⟩
abbrev cX5_watch : ByteArray := prog_1_method_12_code
def yX5_watch : MethodName := ⟨RX5, "watch", "(IZ)I"⟩
abbrev cX5_kin : ByteArray := prog_1_method_13_code
def yX5_kin : MethodName := ⟨RX5, "kin", "(IIZ)I"⟩
abbrev cX5_odd : ByteArray := prog_1_method_14_code
def yX5_odd : MethodName := ⟨RX5, "odd", "(II)I"⟩
abbrev cX5_law : ByteArray := prog_1_method_15_code
def yX5_law : MethodName := ⟨RX5, "law", "(II)I"⟩
abbrev cX5_goods : ByteArray := prog_1_method_16_code
def yX5_goods : MethodName := ⟨RX5, "goods", "(II)I"⟩
abbrev cX5_year : ByteArray := prog_1_method_17_code
def yX5_year : MethodName := ⟨RX5, "year", "(I)I"⟩
abbrev cX5_pays : ByteArray := prog_1_method_18_code
def yX5_pays : MethodName := ⟨RX5, "pays", "(II)I"⟩
abbrev cX5_harm : ByteArray := prog_1_method_19_code
def yX5_harm : MethodName := ⟨RX5, "harm", "()I"⟩
abbrev cX5_calm : ByteArray := prog_1_method_20_code
def yX5_calm : MethodName := ⟨RX5, "calm", "(II)J"⟩
abbrev cX5_mean : ByteArray := prog_1_method_21_code
def yX5_mean : MethodName := ⟨RX5, "mean", "(II)J"⟩
abbrev cX5_best : ByteArray := prog_1_method_22_code
def yX5_best : MethodName := ⟨RX5, "best", "(I)I"⟩
abbrev cX5_change : ByteArray := prog_1_method_23_code
def yX5_change : MethodName := ⟨RX5, "change", "(I)I"⟩
abbrev cX5_takes : ByteArray := prog_1_method_24_code
def yX5_takes : MethodName := ⟨RX5, "takes", "(I)I"⟩
abbrev cX5_weight : ByteArray := prog_1_method_25_code
def yX5_weight : MethodName := ⟨RX5, "weight", "(I)I"⟩
abbrev cX5_should : ByteArray := prog_1_method_26_code
def yX5_should : MethodName := ⟨RX5, "should", "(I)I"⟩
abbrev cX5_guard : ByteArray := prog_1_method_27_code
def yX5_guard : MethodName := ⟨RX5, "guard", "(I)I"⟩
abbrev cX5_worth : ByteArray := prog_1_method_28_code
def yX5_worth : MethodName := ⟨RX5, "worth", "(I)I"⟩
abbrev cX5_see : ByteArray := prog_1_method_29_code
def yX5_see : MethodName := ⟨RX5, "see", "(II)I"⟩
abbrev cX5_forget : ByteArray := prog_1_method_30_code
def yX5_forget : MethodName := ⟨RX5, "forget", "(I)I"⟩
abbrev cX5_fits : ByteArray := prog_1_method_31_code
def yX5_fits : MethodName := ⟨RX5, "fits", "(I)I"⟩
abbrev cX5_drift : ByteArray := prog_1_method_32_code
def yX5_drift : MethodName := ⟨RX5, "drift", "(III)I"⟩
abbrev cX5_keep : ByteArray := prog_1_method_33_code
def yX5_keep : MethodName := ⟨RX5, "keep", "(I)I"⟩
abbrev cX5_back : ByteArray := prog_1_method_34_code
def yX5_back : MethodName := ⟨RX5, "back", "(I)I"⟩
abbrev cX5_sheet : ByteArray := prog_1_method_35_code
def yX5_sheet : MethodName := ⟨RX5, "sheet", "(III)I"⟩
abbrev cX5_lay : ByteArray := prog_1_method_36_code
def yX5_lay : MethodName := ⟨RX5, "lay", "(III)I"⟩
abbrev cX5_read : ByteArray := prog_1_method_37_code
def yX5_read : MethodName := ⟨RX5, "read", "(IIII)I"⟩
abbrev cX5_torn : ByteArray := prog_1_method_38_code
def yX5_torn : MethodName := ⟨RX5, "torn", "()I"⟩
abbrev cX5_count : ByteArray := prog_1_method_39_code
def yX5_count : MethodName := ⟨RX5, "count", "(I)I"⟩
abbrev cX5_refusalInTen : ByteArray := prog_1_method_40_code
def yX5_refusalInTen : MethodName := ⟨RX5, "refusalInTen", "(I)I"⟩
abbrev cX5_isPair : ByteArray := prog_1_method_41_code
def yX5_isPair : MethodName := ⟨RX5, "isPair", "(II)Z"⟩
abbrev cX5_finesOnTrial : ByteArray := prog_1_method_42_code
def yX5_finesOnTrial : MethodName := ⟨RX5, "finesOnTrial", "(II)I"⟩
abbrev cX5_harmBySwap : ByteArray := prog_1_method_43_code
def yX5_harmBySwap : MethodName := ⟨RX5, "harmBySwap", "(II)I"⟩
abbrev cX5_isTen : ByteArray := prog_1_method_44_code
def yX5_isTen : MethodName := ⟨RX5, "isTen", "(I)Z"⟩
abbrev cX5_isWithin : ByteArray := prog_1_method_45_code
def yX5_isWithin : MethodName := ⟨RX5, "isWithin", "(II)Z"⟩
abbrev cX5_bitOf : ByteArray := prog_1_method_46_code
def yX5_bitOf : MethodName := ⟨RX5, "bitOf", "(II)I"⟩
abbrev cX5_withBit : ByteArray := prog_1_method_47_code
def yX5_withBit : MethodName := ⟨RX5, "withBit", "(IIZ)I"⟩
abbrev cX5_tenthsOf : ByteArray := prog_1_method_48_code
def yX5_tenthsOf : MethodName := ⟨RX5, "tenthsOf", "(I)J"⟩
abbrev cX5_inLowestTerms : ByteArray := prog_1_method_49_code
def yX5_inLowestTerms : MethodName := ⟨RX5, "inLowestTerms", "(JJI)J"⟩
abbrev cX5_greatestCommon : ByteArray := prog_1_method_50_code
def yX5_greatestCommon : MethodName := ⟨RX5, "greatestCommon", "(JJ)J"⟩
abbrev cX6_init : ByteArray := prog_8_method_1_code
def yX6_init : MethodName := ⟨RX6, "<init>", "()V"⟩
abbrev cX6_in : ByteArray := prog_8_method_3_code
def yX6_in : MethodName := ⟨RX6, "in", "(JJJ)Z"⟩
abbrev cX6_flag : ByteArray := prog_8_method_4_code
def yX6_flag : MethodName := ⟨RX6, "flag", "(Z)I"⟩
abbrev cX6_firstDraft : ByteArray := prog_8_method_5_code
def yX6_firstDraft : MethodName := ⟨RX6, "firstDraft", "()V"⟩
abbrev cX6_keepDraft : ByteArray := prog_8_method_6_code
def yX6_keepDraft : MethodName := ⟨RX6, "keepDraft", "()V"⟩
abbrev cX6_feed : ByteArray := prog_8_method_7_code
def yX6_feed : MethodName := ⟨RX6, "feed", "(I)I"⟩
abbrev cX6_end : ByteArray := prog_8_method_8_code
def yX6_end : MethodName := ⟨RX6, "end", "(I)I"⟩
abbrev cX6_needs : ByteArray := prog_8_method_9_code
def yX6_needs : MethodName := ⟨RX6, "needs", "(ZI)V"⟩
abbrev cX6_byteAt : ByteArray := prog_8_method_10_code
def yX6_byteAt : MethodName := ⟨RX6, "byteAt", "(I)I"⟩
abbrev cX6_is : ByteArray := prog_8_method_11_code
def yX6_is : MethodName := ⟨RX6, "is", "(IIIII)Z"⟩
abbrev cX6_ends : ByteArray := prog_8_method_12_code
def yX6_ends : MethodName := ⟨RX6, "ends", "(III)Z"⟩
abbrev cX6_lineNow : ByteArray := prog_8_method_13_code
def yX6_lineNow : MethodName := ⟨RX6, "lineNow", "()I"⟩
abbrev cX6_next : ByteArray := prog_8_method_14_code
def yX6_next : MethodName := ⟨RX6, "next", "()V"⟩
abbrev cX6_looked : ByteArray := prog_8_method_15_code
def yX6_looked : MethodName := ⟨RX6, "looked", "(II)I"⟩
abbrev cX6_readNumber : ByteArray := prog_8_method_16_code
def yX6_readNumber : MethodName := ⟨RX6, "readNumber", "(II)I"⟩
abbrev cX6_readMan : ByteArray := prog_8_method_17_code
def yX6_readMan : MethodName := ⟨RX6, "readMan", "(I)V"⟩
abbrev cX6_readMost : ByteArray := prog_8_method_18_code
def yX6_readMost : MethodName := ⟨RX6, "readMost", "()V"⟩
abbrev cX6_readKin : ByteArray := prog_8_method_19_code
def yX6_readKin : MethodName := ⟨RX6, "readKin", "()V"⟩
abbrev cX6_readLineOf : ByteArray := prog_8_method_20_code
def yX6_readLineOf : MethodName := ⟨RX6, "readLineOf", "(I)V"⟩
abbrev cX6_readLine : ByteArray := prog_8_method_21_code
def yX6_readLine : MethodName := ⟨RX6, "readLine", "()V"⟩
abbrev cX6_doFit : ByteArray := prog_8_method_22_code
def yX6_doFit : MethodName := ⟨RX6, "doFit", "()Z"⟩
abbrev cX6_text : ByteArray := prog_8_method_23_code
def yX6_text : MethodName := ⟨RX6, "text", "()I"⟩
abbrev cX6_fault : ByteArray := prog_8_method_24_code
def yX6_fault : MethodName := ⟨RX6, "fault", "()I"⟩
abbrev cX6_isMan : ByteArray := prog_8_method_25_code
def yX6_isMan : MethodName := ⟨RX6, "isMan", "(I)Z"⟩
abbrev cX6_isTen : ByteArray := prog_8_method_26_code
def yX6_isTen : MethodName := ⟨RX6, "isTen", "(I)Z"⟩
abbrev cX6_isPart : ByteArray := prog_8_method_27_code
def yX6_isPart : MethodName := ⟨RX6, "isPart", "(I)Z"⟩
abbrev cX6_bitsOf : ByteArray := prog_8_method_28_code
def yX6_bitsOf : MethodName := ⟨RX6, "bitsOf", "(I)I"⟩
abbrev cX6_starts : ByteArray := prog_8_method_29_code
def yX6_starts : MethodName := ⟨RX6, "starts", "()V"⟩
abbrev cX6_settles : ByteArray := prog_8_method_30_code
def yX6_settles : MethodName := ⟨RX6, "settles", "()V"⟩
abbrev cX6_of : ByteArray := prog_8_method_31_code
def yX6_of : MethodName := ⟨RX6, "of", "(II)I"⟩
abbrev cX6_becomesOf : ByteArray := prog_8_method_32_code
def yX6_becomesOf : MethodName := ⟨RX6, "becomesOf", "(III)V"⟩
abbrev cX6_menOf : ByteArray := prog_8_method_33_code
def yX6_menOf : MethodName := ⟨RX6, "menOf", "(I)I"⟩
abbrev cX6_isWatched : ByteArray := prog_8_method_34_code
def yX6_isWatched : MethodName := ⟨RX6, "isWatched", "(I)Z"⟩
abbrev cX6_oddsOf : ByteArray := prog_8_method_35_code
def yX6_oddsOf : MethodName := ⟨RX6, "oddsOf", "(I)I"⟩
abbrev cX6_harmOf : ByteArray := prog_8_method_36_code
def yX6_harmOf : MethodName := ⟨RX6, "harmOf", "(I)I"⟩
abbrev cX6_harmAll : ByteArray := prog_8_method_37_code
def yX6_harmAll : MethodName := ⟨RX6, "harmAll", "()I"⟩
abbrev cX6_allGoods : ByteArray := prog_8_method_38_code
def yX6_allGoods : MethodName := ⟨RX6, "allGoods", "(I)I"⟩
abbrev cX6_rule : ByteArray := prog_8_method_39_code
def yX6_rule : MethodName := ⟨RX6, "rule", "(I)I"⟩
abbrev cX6_man : ByteArray := prog_8_method_40_code
def yX6_man : MethodName := ⟨RX6, "man", "(II)I"⟩
abbrev cX6_ten : ByteArray := prog_8_method_41_code
def yX6_ten : MethodName := ⟨RX6, "ten", "(II)I"⟩
abbrev cX6_becomes : ByteArray := prog_8_method_42_code
def yX6_becomes : MethodName := ⟨RX6, "becomes", "(II)I"⟩
abbrev cX6_isWanderer : ByteArray := prog_8_method_43_code
def yX6_isWanderer : MethodName := ⟨RX6, "isWanderer", "(I)Z"⟩
abbrev cX6_isFull : ByteArray := prog_8_method_44_code
def yX6_isFull : MethodName := ⟨RX6, "isFull", "(I)Z"⟩
abbrev cX6_move : ByteArray := prog_8_method_45_code
def yX6_move : MethodName := ⟨RX6, "move", "(II)I"⟩
abbrev cX6_leave : ByteArray := prog_8_method_46_code
def yX6_leave : MethodName := ⟨RX6, "leave", "(I)I"⟩
abbrev cX6_swap : ByteArray := prog_8_method_47_code
def yX6_swap : MethodName := ⟨RX6, "swap", "(II)I"⟩
abbrev cX6_becomesBit : ByteArray := prog_8_method_48_code
def yX6_becomesBit : MethodName := ⟨RX6, "becomesBit", "(IIZ)I"⟩
abbrev cX6_watch : ByteArray := prog_8_method_49_code
def yX6_watch : MethodName := ⟨RX6, "watch", "(IZ)I"⟩
abbrev cX6_kin : ByteArray := prog_8_method_50_code
def yX6_kin : MethodName := ⟨RX6, "kin", "(IIZ)I"⟩
abbrev cX6_odd : ByteArray := prog_8_method_51_code
def yX6_odd : MethodName := ⟨RX6, "odd", "(II)I"⟩
abbrev cX6_law : ByteArray := prog_8_method_52_code
def yX6_law : MethodName := ⟨RX6, "law", "(II)I"⟩
abbrev cX6_goods : ByteArray := prog_8_method_53_code
def yX6_goods : MethodName := ⟨RX6, "goods", "(II)I"⟩
abbrev cX6_pay : ByteArray := prog_8_method_54_code
def yX6_pay : MethodName := ⟨RX6, "pay", "(II)I"⟩
abbrev cX6_runs : ByteArray := prog_8_method_55_code
def yX6_runs : MethodName := ⟨RX6, "runs", "(I)I"⟩
abbrev cX6_watches : ByteArray := prog_8_method_56_code
def yX6_watches : MethodName := ⟨RX6, "watches", "(I)I"⟩
abbrev cX6_yearGoes : ByteArray := prog_8_method_57_code
def yX6_yearGoes : MethodName := ⟨RX6, "yearGoes", "(I)I"⟩
abbrev cX6_saints : ByteArray := prog_8_method_58_code
def yX6_saints : MethodName := ⟨RX6, "saints", "()I"⟩
abbrev cX6_isWrong : ByteArray := prog_8_method_59_code
def yX6_isWrong : MethodName := ⟨RX6, "isWrong", "(I)Z"⟩
abbrev cX6_year : ByteArray := prog_8_method_60_code
def yX6_year : MethodName := ⟨RX6, "year", "(I)I"⟩
abbrev cX6_pays : ByteArray := prog_8_method_61_code
def yX6_pays : MethodName := ⟨RX6, "pays", "(II)I"⟩
abbrev cX6_harm : ByteArray := prog_8_method_62_code
def yX6_harm : MethodName := ⟨RX6, "harm", "()I"⟩
abbrev cX6_common : ByteArray := prog_8_method_63_code
def yX6_common : MethodName := ⟨RX6, "common", "(JJ)J"⟩
abbrev cX6_told : ByteArray := prog_8_method_64_code
def yX6_told : MethodName := ⟨RX6, "told", "(JJI)J"⟩
abbrev cX6_calm : ByteArray := prog_8_method_65_code
def yX6_calm : MethodName := ⟨RX6, "calm", "(II)J"⟩
abbrev cX6_findOdds : ByteArray := prog_8_method_66_code
def yX6_findOdds : MethodName := ⟨RX6, "findOdds", "()V"⟩
abbrev cX6_mean : ByteArray := prog_8_method_67_code
def yX6_mean : MethodName := ⟨RX6, "mean", "(II)J"⟩
abbrev cX6_puttings : ByteArray := prog_8_method_68_code
def yX6_puttings : MethodName := ⟨RX6, "puttings", "()I"⟩
abbrev cX6_putsBy : ByteArray := prog_8_method_69_code
def yX6_putsBy : MethodName := ⟨RX6, "putsBy", "(I)Z"⟩
abbrev cX6_best : ByteArray := prog_8_method_70_code
def yX6_best : MethodName := ⟨RX6, "best", "(I)I"⟩
abbrev cX6_change : ByteArray := prog_8_method_71_code
def yX6_change : MethodName := ⟨RX6, "change", "(I)I"⟩
abbrev cX6_takes : ByteArray := prog_8_method_72_code
def yX6_takes : MethodName := ⟨RX6, "takes", "(I)I"⟩
abbrev cX6_goesAway : ByteArray := prog_8_method_73_code
def yX6_goesAway : MethodName := ⟨RX6, "goesAway", "(I)V"⟩
abbrev cX6_weight : ByteArray := prog_8_method_74_code
def yX6_weight : MethodName := ⟨RX6, "weight", "(I)I"⟩
abbrev cX6_should : ByteArray := prog_8_method_75_code
def yX6_should : MethodName := ⟨RX6, "should", "(I)I"⟩
abbrev cX6_guard : ByteArray := prog_8_method_76_code
def yX6_guard : MethodName := ⟨RX6, "guard", "(I)I"⟩
abbrev cX6_worth : ByteArray := prog_8_method_77_code
def yX6_worth : MethodName := ⟨RX6, "worth", "(I)I"⟩
abbrev cX6_see : ByteArray := prog_8_method_78_code
def yX6_see : MethodName := ⟨RX6, "see", "(II)I"⟩
abbrev cX6_forget : ByteArray := prog_8_method_79_code
def yX6_forget : MethodName := ⟨RX6, "forget", "(I)I"⟩
abbrev cX6_isSo : ByteArray := prog_8_method_80_code
def yX6_isSo : MethodName := ⟨RX6, "isSo", "(I)Z"⟩
abbrev cX6_tensOf : ByteArray := prog_8_method_81_code
def yX6_tensOf : MethodName := ⟨RX6, "tensOf", "(I)I"⟩
abbrev cX6_fits : ByteArray := prog_8_method_82_code
def yX6_fits : MethodName := ⟨RX6, "fits", "(I)I"⟩
abbrev cX6_drift : ByteArray := prog_8_method_83_code
def yX6_drift : MethodName := ⟨RX6, "drift", "(III)I"⟩
abbrev cX6_copies : ByteArray := prog_8_method_84_code
def yX6_copies : MethodName := ⟨RX6, "copies", "(II)V"⟩
abbrev cX6_keep : ByteArray := prog_8_method_85_code
def yX6_keep : MethodName := ⟨RX6, "keep", "(I)I"⟩
abbrev cX6_back : ByteArray := prog_8_method_86_code
def yX6_back : MethodName := ⟨RX6, "back", "(I)I"⟩
abbrev cX6_isSheet : ByteArray := prog_8_method_87_code
def yX6_isSheet : MethodName := ⟨RX6, "isSheet", "(II)Z"⟩
abbrev cX6_sheet : ByteArray := prog_8_method_88_code
def yX6_sheet : MethodName := ⟨RX6, "sheet", "(III)I"⟩
abbrev cX6_lay : ByteArray := prog_8_method_89_code
def yX6_lay : MethodName := ⟨RX6, "lay", "(III)I"⟩
abbrev cX6_read : ByteArray := prog_8_method_90_code
def yX6_read : MethodName := ⟨RX6, "read", "(IIII)I"⟩
abbrev cX6_torn : ByteArray := prog_8_method_91_code
def yX6_torn : MethodName := ⟨RX6, "torn", "()I"⟩
abbrev cX6_count : ByteArray := prog_8_method_92_code
def yX6_count : MethodName := ⟨RX6, "count", "(I)I"⟩
abbrev cJ6_bitCount_0f7a4 : ByteArray := prog_9_method_49_code
def yJ6_bitCount_0f7a4 : MethodName := ⟨RJ6, "bitCount", "(I)I"⟩
abbrev cJ9_min_7cf53 : ByteArray := prog_10_method_69_code
def yJ9_min_7cf53 : MethodName := ⟨RJ9, "min", "(II)I"⟩
abbrev cJ0_length_8abf5 : ByteArray := prog_11_method_54_code
def yJ0_length_8abf5 : MethodName := ⟨RJ0, "length", "()I"⟩
abbrev cJ0_charAt_5068e : ByteArray := prog_11_method_56_code
def yJ0_charAt_5068e : MethodName := ⟨RJ0, "charAt", "(I)C"⟩
abbrev cJ0_coder_7d493 : ByteArray := prog_11_method_152_code
def yJ0_coder_7d493 : MethodName := ⟨RJ0, "coder", "()B"⟩
abbrev cJ0_isLatin1_aae02 : ByteArray := prog_11_method_154_code
def yJ0_isLatin1_aae02 : MethodName := ⟨RJ0, "isLatin1", "()Z"⟩
abbrev cJ0_checkIndex_df160 : ByteArray := prog_11_method_155_code
def yJ0_checkIndex_df160 : MethodName := ⟨RJ0, "checkIndex", "(II)V"⟩
abbrev cJ1_charAt_3b067 : ByteArray := prog_12_method_2_code
def yJ1_charAt_3b067 : MethodName := ⟨RJ1, "charAt", "([BI)C"⟩
abbrev cJ3_checkIndex_8e157 : ByteArray := prog_14_method_11_code
def yJ3_checkIndex_8e157 : MethodName := ⟨RJ3, "checkIndex", "(IILjava/util/function/BiFunction;)I"⟩
abbrev cL_law : ByteArray := code
def yL_law : MethodName := ⟨RL, "law", "([I)Z"⟩
end
section
abbrev ev_I : Type := Instr ⊕ Value
def cd_X0_init : List ev_I := [.inl (.aload 0), .inl .monitorexit, .inl .return_]
def pb_X0_init : List Nat := [0, 1, 4]
def cd_X0_search : List ev_I := [.inl (.aload 0), .inr (.int 0), .inl (.putfield 0), .inl (.aload 0), .inr (.int 0), .inl (.putfield 1), .inl (.aload 0), .inl (.aload 1), .inl (.invokevirtual 36), .inl (.putfield 2), .inl (.aload 0), .inr (.int 0), .inl (.putfield 3), .inl (.aload 0), .inr (.int 15), .inl (.putfield 4), .inl (.aload 2), .inl (.aload 1), .inl (.invokevirtual 33), .inl (.aload 1), .inr (.int 2), .inl (.invokevirtual 37), .inl (.istore 3), .inl (.aload 1), .inl (.invokevirtual 36), .inl (.istore 4), .inr (.int 0), .inl (.istore 5), .inl .nop, .inl (.iload 5), .inl (.iload 4), .inl (.if_icmp .gt (.ofNat 49)), .inl (.iload 5), .inl (.iload 3), .inl .iand, .inl (.ifCond .ne (.ofNat 47)), .inl (.aload 1), .inl (.aload 2), .inl (.iload 5), .inl (.invokestatic 3), .inl (.ifCond .eq (.ofNat 47)), .inl (.aload 0), .inl (.iload 5), .inl (.aload 1), .inl (.iload 5), .inl (.invokevirtual 41), .inl (.invokevirtual 2), .inl (.iinc 5 1), .inl (.goto (.ofNat 28)), .inl .return_]
def pb_X0_search : List Nat := [0, 1, 2, 5, 6, 7, 10, 11, 12, 15, 18, 19, 20, 23, 24, 26, 29, 30, 31, 34, 35, 36, 39, 40, 41, 44, 46, 47, 49, 49, 51, 53, 56, 58, 59, 60, 63, 64, 65, 67, 70, 73, 74, 76, 77, 79, 82, 85, 88, 91]
def cd_X0_addSet : List ev_I := [.inl (.aload 0), .inl (.getfield 0), .inl (.ifCond .ne (.ofNat 6)), .inl (.aload 0), .inl (.iload 1), .inl (.putfield 1), .inl (.aload 0), .inl .dup, .inl (.getfield 0), .inr (.int 1), .inl .iadd, .inl (.putfield 0), .inl (.aload 0), .inl .dup, .inl (.getfield 2), .inl (.iload 1), .inl .iand, .inl (.putfield 2), .inl (.aload 0), .inl .dup, .inl (.getfield 3), .inl (.iload 1), .inl .ior, .inl (.putfield 3), .inl (.aload 0), .inl .dup, .inl (.getfield 4), .inl (.iload 2), .inl .iand, .inl (.putfield 4), .inl .return_]
def pb_X0_addSet : List Nat := [0, 1, 4, 7, 8, 9, 12, 13, 14, 17, 18, 19, 22, 23, 24, 27, 28, 29, 32, 33, 34, 37, 38, 39, 42, 43, 44, 47, 48, 49, 52]
def cd_X0_isAsSeen : List ev_I := [.inl (.aload 1), .inl (.aload 0), .inl (.invokevirtual 34), .inl (.aload 1), .inl (.iload 2), .inl (.invokevirtual 58), .inl .pop, .inr (.int 0), .inl (.istore 3), .inl .nop, .inl (.iload 3), .inl (.aload 0), .inl (.getfield 133), .inl (.if_icmp .ge (.ofNat 37)), .inl (.aload 0), .inl (.getfield 140), .inl (.iload 3), .inl .iaload, .inl (.istore 4), .inl (.aload 0), .inl (.getfield 136), .inl (.iload 4), .inl .iaload, .inl (.aload 1), .inl (.getfield 136), .inl (.iload 4), .inl .iaload, .inl .isub, .inl (.aload 0), .inl (.getfield 141), .inl (.iload 3), .inl .iaload, .inl (.if_icmp .eq (.ofNat 35)), .inr (.int 0), .inl (.ret 0), .inl (.iinc 3 1), .inl (.goto (.ofNat 9)), .inr (.int 1), .inl (.ret 0)]
def pb_X0_isAsSeen : List Nat := [0, 1, 2, 5, 6, 7, 10, 11, 12, 13, 13, 14, 15, 18, 21, 22, 25, 26, 27, 29, 30, 33, 35, 36, 37, 40, 42, 43, 44, 45, 48, 49, 50, 53, 54, 55, 58, 61, 62]
def cd_X1_init : List ev_I := [.inl (.aload 0), .inl .monitorexit, .inl (.aload 0), .inr (.int 8), .inl (.newarray .int), .inl (.putstatic 32), .inl (.aload 0), .inr (.int 8), .inl (.newarray .int), .inl (.putstatic 35), .inl (.aload 0), .inr (.int 4), .inl (.newarray .int), .inl (.putstatic 36), .inl (.aload 0), .inr (.int 4), .inl (.newarray .int), .inl (.putstatic 37), .inl .return_]
def pb_X1_init : List Nat := [0, 1, 4, 5, 7, 9, 12, 13, 15, 17, 20, 21, 22, 24, 27, 28, 29, 31, 34]
def cd_X1_search : List ev_I := [.inl (.aload 0), .inl (.aload 1), .inl (.putstatic 34), .inl (.aload 0), .inr (.int 1000000), .inl (.putfield 33), .inr (.int 0), .inl (.istore 2), .inl .nop, .inl (.iload 2), .inr (.int 4), .inl (.if_icmp .ge (.ofNat 24)), .inl (.aload 0), .inl (.getfield 36), .inl (.iload 2), .inr (.int 0), .inl .iastore, .inl (.aload 0), .inl (.getfield 37), .inl (.iload 2), .inr (.int 0), .inl .iastore, .inl (.iinc 2 1), .inl (.goto (.ofNat 8)), .inl (.aload 0), .inr (.int 0), .inl (.invokevirtual 6), .inl .return_]
def pb_X1_search : List Nat := [0, 1, 2, 5, 6, 8, 11, 12, 13, 13, 14, 15, 18, 19, 22, 23, 24, 25, 26, 29, 30, 31, 32, 35, 38, 39, 40, 43]
def cd_X1_seatFrom : List ev_I := [.inl (.iload 1), .inl (.aload 0), .inl (.getfield 34), .inl (.getfield 128), .inl (.if_icmp .ge (.ofNat 8)), .inl (.iload 1), .inr (.int 8), .inl (.if_icmp .lt (.ofNat 14)), .inl (.aload 0), .inl (.aload 0), .inl (.iload 1), .inl (.invokevirtual 9), .inl (.invokevirtual 7), .inl .return_, .inl (.aload 0), .inl (.getfield 34), .inl (.getfield 134), .inl (.iload 1), .inl .iaload, .inr (.int 3), .inl (.if_icmp .ne (.ofNat 32)), .inl (.aload 0), .inl (.getfield 35), .inl (.iload 1), .inr (.int (-4)), .inl .iastore, .inl (.aload 0), .inl (.iload 1), .inr (.int 1), .inl .iadd, .inl (.invokevirtual 6), .inl .return_, .inl (.aload 0), .inl (.getfield 34), .inl (.getfield 134), .inl (.iload 1), .inl .iaload, .inr (.int 1), .inl (.if_icmp .ne (.ofNat 41)), .inr (.int 1), .inl (.goto (.ofNat 42)), .inr (.int 0), .inl (.istore 2), .inr (.int 0), .inl (.istore 3), .inl .nop, .inl (.iload 3), .inr (.int 4), .inl (.if_icmp .ge (.ofNat 115)), .inl (.aload 0), .inl (.getfield 36), .inl (.iload 3), .inl .iaload, .inl (.aload 0), .inl (.getfield 34), .inl (.getfield 139), .inl (.iload 3), .inl .iaload, .inl (.if_icmp .ge (.ofNat 113)), .inl (.aload 0), .inl (.iload 3), .inl (.invokevirtual 8), .inl (.ifCond .ne (.ofNat 113)), .inl (.aload 0), .inl (.getfield 35), .inl (.iload 1), .inl (.iload 3), .inl .iastore, .inl (.aload 0), .inl (.getfield 36), .inl (.iload 3), .inl .dup2, .inl .iaload, .inr (.int 1), .inl .iadd, .inl .iastore, .inl (.aload 0), .inl (.getfield 37), .inl (.iload 3), .inl .dup2, .inl .iaload, .inl (.iload 2), .inl .iadd, .inl .iastore, .inl (.aload 0), .inl (.iload 1), .inr (.int 1), .inl .iadd, .inl (.invokevirtual 9), .inl (.aload 0), .inl (.getfield 33), .inl (.if_icmp .ge (.ofNat 97)), .inl (.aload 0), .inl (.iload 1), .inr (.int 1), .inl .iadd, .inl (.invokevirtual 6), .inl (.aload 0), .inl (.getfield 36), .inl (.iload 3), .inl .dup2, .inl .iaload, .inr (.int 1), .inl .isub, .inl .iastore, .inl (.aload 0), .inl (.getfield 37), .inl (.iload 3), .inl .dup2, .inl .iaload, .inl (.iload 2), .inl .isub, .inl .iastore, .inl (.iinc 3 1), .inl (.goto (.ofNat 45)), .inl .return_]
def pb_X1_seatFrom : List Nat := [0, 1, 2, 5, 8, 11, 12, 14, 17, 18, 19, 20, 23, 26, 27, 28, 31, 34, 35, 36, 37, 40, 41, 44, 45, 47, 48, 49, 50, 51, 52, 55, 56, 57, 60, 63, 64, 65, 66, 69, 70, 73, 74, 75, 76, 77, 77, 78, 79, 82, 83, 86, 87, 88, 89, 92, 95, 96, 97, 100, 101, 102, 105, 108, 109, 112, 113, 114, 115, 116, 119, 120, 121, 122, 123, 124, 125, 126, 129, 130, 131, 132, 133, 134, 135, 136, 137, 138, 139, 142, 143, 146, 149, 150, 151, 152, 153, 156, 157, 160, 161, 162, 163, 164, 165, 166, 167, 170, 171, 172, 173, 174, 175, 176, 179, 182]
def cd_X1_takeIt : List ev_I := [.inl (.aload 0), .inl (.iload 1), .inl (.putfield 33), .inr (.int 0), .inl (.istore 2), .inl .nop, .inl (.iload 2), .inl (.aload 0), .inl (.getfield 34), .inl (.getfield 128), .inl (.if_icmp .ge (.ofNat 21)), .inl (.aload 0), .inl (.getfield 32), .inl (.iload 2), .inl (.aload 0), .inl (.getfield 35), .inl (.iload 2), .inl .iaload, .inl .iastore, .inl (.iinc 2 1), .inl (.goto (.ofNat 5)), .inl .return_]
def pb_X1_takeIt : List Nat := [0, 1, 2, 5, 6, 7, 7, 8, 9, 12, 15, 18, 19, 22, 23, 24, 27, 28, 29, 30, 33, 36]
def cd_X1_isLikeEarlier : List ev_I := [.inr (.int 0), .inl (.istore 2), .inl .nop, .inl (.iload 2), .inl (.iload 1), .inl (.if_icmp .ge (.ofNat 31)), .inl (.aload 0), .inl (.getfield 36), .inl (.iload 1), .inl .iaload, .inl (.ifCond .ne (.ofNat 31)), .inl (.aload 0), .inl (.getfield 36), .inl (.iload 2), .inl .iaload, .inl (.ifCond .ne (.ofNat 29)), .inl (.aload 0), .inl (.getfield 34), .inl (.getfield 139), .inl (.iload 2), .inl .iaload, .inl (.aload 0), .inl (.getfield 34), .inl (.getfield 139), .inl (.iload 1), .inl .iaload, .inl (.if_icmp .ne (.ofNat 29)), .inr (.int 1), .inl (.ret 0), .inl (.iinc 2 1), .inl (.goto (.ofNat 2)), .inr (.int 0), .inl (.ret 0)]
def pb_X1_isLikeEarlier : List Nat := [0, 1, 2, 2, 3, 4, 7, 8, 11, 12, 13, 16, 17, 20, 21, 22, 25, 26, 29, 32, 33, 34, 35, 38, 41, 42, 43, 46, 47, 48, 51, 54, 55]
def cd_X1_atLeastHarm : List ev_I := [.inl (.aload 0), .inl (.invokevirtual 10), .inl (.istore 2), .inr (.int 0), .inl (.istore 3), .inr (.int 0), .inl (.istore 4), .inl .nop, .inl (.iload 4), .inl (.aload 0), .inl (.getfield 34), .inl (.getfield 128), .inl (.if_icmp .ge (.ofNat 54)), .inl (.iload 2), .inl (.istore 5), .inl (.iload 4), .inl (.iload 1), .inl (.if_icmp .ge (.ofNat 35)), .inl (.aload 0), .inl (.getfield 35), .inl (.iload 4), .inl .iaload, .inl (.ifCond .ge (.ofNat 25)), .inr (.int 0), .inl (.goto (.ofNat 34)), .inl (.aload 0), .inl (.getfield 37), .inl (.aload 0), .inl (.getfield 35), .inl (.iload 4), .inl .iaload, .inl .iaload, .inr (.int 1), .inl .isub, .inl (.istore 5), .inl (.iload 3), .inl (.aload 0), .inl (.getfield 34), .inl (.iload 4), .inl (.iload 5), .inl (.aload 0), .inl (.getfield 34), .inl (.getfield 132), .inl (.iload 4), .inl (.invokestatic 108), .inl (.ifCond .eq (.ofNat 48)), .inr (.int 1), .inl (.goto (.ofNat 49)), .inr (.int 0), .inl (.invokevirtual 52), .inl .iadd, .inl (.istore 3), .inl (.iinc 4 1), .inl (.goto (.ofNat 7)), .inl (.iload 3), .inl (.aload 0), .inl (.getfield 34), .inl (.getfield 129), .inl .imul, .inr (.int 10), .inl (.aload 0), .inl (.getfield 34), .inl (.getfield 130), .inl .imul, .inl (.aload 0), .inl (.getfield 34), .inl (.getfield 132), .inl (.invokestatic 204), .inl .imul, .inl .iadd, .inl .ireturn]
def pb_X1_atLeastHarm : List Nat := [0, 1, 4, 5, 6, 7, 8, 10, 10, 12, 13, 16, 19, 22, 23, 25, 27, 28, 31, 32, 35, 37, 38, 41, 42, 45, 46, 49, 50, 53, 55, 56, 57, 58, 59, 61, 62, 63, 66, 68, 70, 71, 74, 77, 79, 82, 85, 86, 89, 90, 93, 94, 95, 98, 101, 102, 103, 106, 109, 110, 112, 113, 116, 119, 120, 121, 124, 127, 130, 131, 132]
def cd_X1_fewestRough : List ev_I := [.inr (.int 8), .inl (.istore 1), .inr (.int 0), .inl (.istore 2), .inl .nop, .inl (.iload 2), .inr (.int 4), .inl (.if_icmp .ge (.ofNat 27)), .inl (.aload 0), .inl (.getfield 36), .inl (.iload 2), .inl .iaload, .inl (.aload 0), .inl (.getfield 34), .inl (.getfield 139), .inl (.iload 2), .inl .iaload, .inl (.if_icmp .ge (.ofNat 25)), .inl (.iload 1), .inl (.aload 0), .inl (.getfield 37), .inl (.iload 2), .inl .iaload, .inl (.invokestatic 205), .inl (.istore 1), .inl (.iinc 2 1), .inl (.goto (.ofNat 4)), .inl (.iload 1), .inl .ireturn]
def pb_X1_fewestRough : List Nat := [0, 2, 3, 4, 5, 5, 6, 7, 10, 11, 14, 15, 16, 17, 20, 23, 24, 25, 28, 29, 30, 33, 34, 35, 38, 39, 42, 45, 46]
def cd_X2_init : List ev_I := [.inl (.aload 0), .inl .monitorexit, .inl (.aload 0), .inr (.int (-4)), .inl (.putfield 65), .inl (.aload 0), .inr (.int 40), .inl (.newarray .int), .inl (.putstatic 66), .inl .return_]
def pb_X2_init : List Nat := [0, 1, 4, 5, 7, 10, 11, 13, 15, 18]
def cd_X2_renew : List ev_I := [.inl (.aload 0), .inl (.iload 1), .inl (.putfield 64), .inl (.aload 0), .inl (.iload 2), .inl (.putfield 65), .inr (.int 0), .inl (.istore 3), .inl .nop, .inl (.iload 3), .inr (.int 40), .inl (.if_icmp .ge (.ofNat 19)), .inl (.aload 0), .inl (.getfield 66), .inl (.iload 3), .inr (.int 0), .inl .iastore, .inl (.iinc 3 1), .inl (.goto (.ofNat 8)), .inl .return_]
def pb_X2_renew : List Nat := [0, 1, 2, 5, 6, 7, 10, 11, 12, 12, 13, 15, 18, 19, 22, 23, 24, 25, 28, 31]
def cd_X2_write : List ev_I := [.inl (.aload 0), .inl (.getfield 64), .inl (.lookupswitch (.ofNat 17) #[(0, .ofNat 3), (1, .ofNat 10)]), .inl (.aload 0), .inl (.getfield 66), .inl (.iload 1), .inl (.iload 2), .inl .i2b, .inl .iastore, .inl (.goto (.ofNat 22)), .inl (.aload 0), .inl (.getfield 66), .inl (.iload 1), .inl (.iload 2), .inl .i2s, .inl .iastore, .inl (.goto (.ofNat 22)), .inl (.aload 0), .inl (.getfield 66), .inl (.iload 1), .inl (.iload 2), .inl .iastore, .inl .return_]
def pb_X2_write : List Nat := [0, 1, 4, 32, 33, 36, 37, 38, 39, 40, 43, 44, 47, 48, 49, 50, 51, 54, 55, 58, 59, 60, 61]
def cd_X2_faultAt : List ev_I := [.inl (.aload 0), .inl (.getfield 65), .inl (.ifCond .ge (.ofNat 5)), .inr (.int 1), .inl .ireturn, .inl (.iload 1), .inl (.aload 0), .inl (.getfield 64), .inl (.if_icmp .eq (.ofNat 11)), .inr (.int 3), .inl .ireturn, .inl (.iload 2), .inl (.ifCond .lt (.ofNat 17)), .inl (.iload 2), .inl (.aload 0), .inl (.getfield 65), .inl (.if_icmp .lt (.ofNat 19)), .inr (.int 2), .inl (.goto (.ofNat 20)), .inr (.int 0), .inl .ireturn]
def pb_X2_faultAt : List Nat := [0, 1, 4, 7, 8, 9, 10, 11, 14, 17, 18, 19, 20, 23, 24, 25, 28, 31, 32, 35, 36]
def cd_X2_faultAtTwo : List ev_I := [.inl (.aload 0), .inl (.iload 1), .inl (.iload 2), .inl (.invokevirtual 14), .inl (.istore 3), .inl (.iload 3), .inl (.ifCond .eq (.ofNat 9)), .inl (.iload 3), .inl (.goto (.ofNat 15)), .inl (.aload 0), .inl (.iload 1), .inl (.iload 2), .inr (.int 1), .inl .iadd, .inl (.invokevirtual 14), .inl .ireturn]
def pb_X2_faultAtTwo : List Nat := [0, 1, 2, 3, 6, 7, 8, 11, 12, 15, 16, 17, 18, 19, 20, 23]
def cd_X3_init : List ev_I := [.inl (.aload 0), .inl .monitorexit, .inl (.aload 0), .inr (.int 3), .inl (.newarray .int), .inl (.putstatic 106), .inl .return_]
def pb_X3_init : List Nat := [0, 1, 4, 5, 6, 8, 11]
def cd_X3_tell : List ev_I := [.inl (.aload 0), .inl (.aload 1), .inl (.iload 2), .inl (.aload 3), .inl (.invokevirtual 18), .inr (.int 0), .inl (.istore 4), .inl .nop, .inl (.iload 4), .inr (.int 160), .inl (.if_icmp .gt (.ofNat 35)), .inl (.aload 0), .inl (.invokevirtual 21), .inl (.ifCond .ne (.ofNat 16)), .inr (.int 0), .inl (.ret 0), .inl (.aload 0), .inl (.getfield 103), .inl (.ifCond .ne (.ofNat 22)), .inl (.aload 0), .inl (.invokevirtual 20), .inl (.ret 0), .inl (.aload 0), .inl (.invokevirtual 25), .inl (.ifCond .ne (.ofNat 27)), .inr (.int 0), .inl (.ret 0), .inl (.aload 0), .inl .dup, .inl (.getfield 96), .inr (.int 1), .inl .iadd, .inl (.putfield 96), .inl (.iinc 4 1), .inl (.goto (.ofNat 7)), .inr (.int 0), .inl (.ret 0)]
def pb_X3_tell : List Nat := [0, 1, 2, 3, 4, 7, 8, 10, 10, 12, 15, 18, 19, 22, 25, 26, 27, 28, 31, 34, 35, 38, 39, 40, 43, 46, 47, 48, 49, 50, 53, 54, 55, 58, 61, 64, 65]
def cd_X3_start : List ev_I := [.inl (.aload 0), .inl (.aload 1), .inl (.putstatic 100), .inl (.aload 0), .inl (.iload 2), .inl (.putfield 101), .inl (.aload 0), .inl (.aload 3), .inl (.putstatic 99), .inl (.aload 0), .inl (.getfield 99), .inl (.invokevirtual 32), .inl (.aload 0), .inr (.int 0), .inl (.putfield 96), .inl (.aload 0), .inr (.int 0), .inl (.putfield 97), .inl (.aload 0), .inr (.int 0), .inl (.putfield 98), .inl (.aload 0), .inr (.int 0), .inl (.putfield 102), .inl (.aload 0), .inr (.int 0), .inl (.multianewarray 107 1), .inl (.aload 0), .inr (.int 0), .inl (.multianewarray 108 1), .inl (.aload 0), .inr (.int 0), .inl (.putfield 109), .inl (.aload 0), .inr (.int 0), .inl (.putfield 110), .inl .return_]
def pb_X3_start : List Nat := [0, 1, 2, 5, 6, 7, 10, 11, 12, 15, 16, 19, 22, 23, 24, 27, 28, 29, 32, 33, 34, 37, 38, 39, 42, 43, 44, 47, 48, 49, 52, 53, 54, 57, 58, 59, 62]
def cd_X3_refuse : List ev_I := [.inl (.aload 0), .inl (.iload 1), .inl (.putfield 97), .inl (.aload 0), .inl (.iload 2), .inl (.putfield 98), .inr (.int 0), .inl (.ret 0)]
def pb_X3_refuse : List Nat := [0, 1, 2, 5, 6, 7, 10, 11]
def cd_X3_agrees : List ev_I := [.inl (.aload 0), .inl (.getfield 110), .inl (.aload 0), .inl (.getfield 99), .inl (.invokevirtual 36), .inr (.int (-1)), .inl .ixor, .inl .iand, .inl (.ifCond .eq (.ofNat 15)), .inl (.aload 0), .inr (.int 6), .inl (.aload 0), .inl (.getfield 101), .inl (.invokevirtual 19), .inl (.ret 0), .inr (.int 0), .inl (.istore 1), .inl .nop, .inl (.iload 1), .inr (.int 4), .inl (.if_icmp .ge (.ofNat 39)), .inl (.aload 0), .inl (.getfield 99), .inl (.iload 1), .inl (.invokevirtual 39), .inl (.aload 0), .inl (.getfield 99), .inl (.getfield 139), .inl (.iload 1), .inl .iaload, .inl (.if_icmp .le (.ofNat 37)), .inl (.aload 0), .inr (.int 7), .inl (.aload 0), .inl (.getfield 101), .inl (.invokevirtual 19), .inl (.ret 0), .inl (.iinc 1 1), .inl (.goto (.ofNat 17)), .inr (.int 1), .inl (.ret 0)]
def pb_X3_agrees : List Nat := [0, 1, 4, 5, 8, 11, 12, 13, 14, 17, 18, 20, 21, 24, 27, 28, 29, 30, 30, 31, 32, 35, 36, 39, 40, 43, 44, 47, 50, 51, 52, 55, 56, 58, 59, 62, 65, 66, 69, 72, 73]
def cd_X3_nextToken : List ev_I := [.inl .nop, .inl (.aload 0), .inl (.getfield 102), .inl (.aload 0), .inl (.getfield 101), .inl (.if_icmp .ge (.ofNat 20)), .inl (.aload 0), .inl (.getfield 100), .inl (.aload 0), .inl (.getfield 102), .inl .baload, .inr (.int 32), .inl (.if_icmp .ne (.ofNat 20)), .inl (.aload 0), .inl .dup, .inl (.getfield 102), .inr (.int 1), .inl .iadd, .inl (.putfield 102), .inl (.goto (.ofNat 0)), .inl (.aload 0), .inl (.aload 0), .inl (.getfield 102), .inl (.putfield 104), .inl (.aload 0), .inl (.getfield 102), .inl (.aload 0), .inl (.getfield 101), .inl (.if_icmp .lt (.ofNat 34)), .inl (.aload 0), .inr (.int 0), .inl (.putfield 103), .inr (.int 1), .inl (.ret 0), .inl (.aload 0), .inl (.getfield 100), .inl (.aload 0), .inl (.getfield 102), .inl .baload, .inl (.istore 1), .inl (.iload 1), .inr (.int 59), .inl (.if_icmp .ne (.ofNat 54)), .inl (.aload 0), .inr (.int 3), .inl (.putfield 103), .inl (.aload 0), .inl .dup, .inl (.getfield 102), .inr (.int 1), .inl .iadd, .inl (.putfield 102), .inr (.int 1), .inl (.ret 0), .inl (.iload 1), .inr (.int 97), .inr (.int 122), .inl (.invokestatic 24), .inl (.ifCond .eq (.ofNat 68)), .inl (.aload 0), .inr (.int 1), .inl (.putfield 103), .inl (.aload 0), .inr (.int 97), .inr (.int 122), .inl (.invokevirtual 23), .inr (.int 1), .inl (.ret 0), .inl (.iload 1), .inr (.int 48), .inr (.int 57), .inl (.invokestatic 24), .inl (.ifCond .eq (.ofNat 76)), .inl (.aload 0), .inl (.invokevirtual 22), .inl (.goto (.ofNat 81)), .inl (.aload 0), .inr (.int 1), .inl (.aload 0), .inl (.getfield 104), .inl (.invokevirtual 19), .inl (.ret 0)]
def pb_X3_nextToken : List Nat := [0, 0, 1, 4, 5, 8, 11, 12, 15, 16, 19, 20, 22, 25, 26, 27, 30, 31, 32, 35, 38, 39, 40, 43, 46, 47, 50, 51, 54, 57, 58, 59, 62, 63, 64, 65, 68, 69, 72, 73, 74, 75, 77, 80, 81, 82, 85, 86, 87, 90, 91, 92, 95, 96, 97, 98, 100, 102, 105, 108, 109, 110, 113, 114, 116, 118, 121, 122, 123, 124, 126, 128, 131, 134, 135, 138, 141, 142, 143, 144, 147, 150]
def cd_X3_takeFigures : List ev_I := [.inl (.aload 0), .inr (.int 2), .inl (.putfield 103), .inl (.aload 0), .inr (.int 48), .inr (.int 57), .inl (.invokevirtual 23), .inl (.aload 0), .inl (.getfield 102), .inl (.aload 0), .inl (.getfield 104), .inl .isub, .inr (.int 2), .inl (.if_icmp .le (.ofNat 20)), .inl (.aload 0), .inr (.int 1), .inl (.aload 0), .inl (.getfield 104), .inl (.invokevirtual 19), .inl (.ret 0), .inl (.aload 0), .inr (.int 0), .inl (.putfield 105), .inl (.aload 0), .inl (.getfield 104), .inl (.istore 1), .inl .nop, .inl (.iload 1), .inl (.aload 0), .inl (.getfield 102), .inl (.if_icmp .ge (.ofNat 46)), .inl (.aload 0), .inr (.int 10), .inl (.aload 0), .inl (.getfield 105), .inl .imul, .inl (.aload 0), .inl (.getfield 100), .inl (.iload 1), .inl .baload, .inl .iadd, .inr (.int 48), .inl .isub, .inl (.putfield 105), .inl (.iinc 1 1), .inl (.goto (.ofNat 26)), .inr (.int 1), .inl (.ret 0)]
def pb_X3_takeFigures : List Nat := [0, 1, 2, 5, 6, 8, 10, 13, 14, 17, 18, 21, 22, 23, 26, 27, 28, 29, 32, 35, 36, 37, 38, 41, 42, 45, 46, 46, 47, 48, 51, 54, 55, 57, 58, 61, 62, 63, 66, 67, 68, 69, 71, 72, 75, 78, 81, 82]
def cd_X3_pass : List ev_I := [.inl .nop, .inl (.aload 0), .inl (.getfield 102), .inl (.aload 0), .inl (.getfield 101), .inl (.if_icmp .ge (.ofNat 27)), .inl (.aload 0), .inl (.getfield 100), .inl (.aload 0), .inl (.getfield 102), .inl .baload, .inl (.iload 1), .inl (.if_icmp .lt (.ofNat 27)), .inl (.aload 0), .inl (.getfield 100), .inl (.aload 0), .inl (.getfield 102), .inl .baload, .inl (.iload 2), .inl (.if_icmp .gt (.ofNat 27)), .inl (.aload 0), .inl .dup, .inl (.getfield 102), .inr (.int 1), .inl .iadd, .inl (.putfield 102), .inl (.goto (.ofNat 0)), .inl .return_]
def pb_X3_pass : List Nat := [0, 0, 1, 4, 5, 8, 11, 12, 15, 16, 19, 20, 21, 24, 25, 28, 29, 32, 33, 34, 37, 38, 39, 42, 43, 44, 47, 50]
def cd_X3_isIn : List ev_I := [.inl (.iload 0), .inl (.iload 1), .inl (.if_icmp .lt (.ofNat 8)), .inl (.iload 0), .inl (.iload 2), .inl (.if_icmp .gt (.ofNat 8)), .inr (.int 1), .inl (.goto (.ofNat 9)), .inr (.int 0), .inl (.ret 0)]
def pb_X3_isIn : List Nat := [0, 1, 2, 5, 6, 7, 10, 11, 14, 15]
def cd_X3_takeLine : List ev_I := [.inl (.aload 0), .inl (.getfield 103), .inr (.int 1), .inl (.if_icmp .ne (.ofNat 7)), .inl (.aload 0), .inl (.invokevirtual 28), .inl (.goto (.ofNat 8)), .inr (.int (-1)), .inl (.istore 1), .inl (.iload 1), .inr (.int (-1)), .inl (.if_icmp .ne (.ofNat 18)), .inl (.aload 0), .inr (.int 2), .inl (.aload 0), .inl (.getfield 104), .inl (.invokevirtual 19), .inl (.ret 0), .inl (.iload 1), .inr (.int 4), .inl (.if_icmp .ne (.ofNat 24)), .inl (.aload 0), .inl (.getfield 107), .inl (.ifCond .ne (.ofNat 30)), .inl (.iload 1), .inr (.int 5), .inl (.if_icmp .ne (.ofNat 36)), .inl (.aload 0), .inl (.getfield 108), .inl (.ifCond .eq (.ofNat 36)), .inl (.aload 0), .inr (.int 4), .inl (.aload 0), .inl (.getfield 104), .inl (.invokevirtual 19), .inl (.ret 0), .inl (.iload 1), .inr (.int 3), .inl (.if_icmp .gt (.ofNat 50)), .inl (.aload 0), .inl (.getfield 99), .inl (.getfield 128), .inr (.int 8), .inl (.if_icmp .lt (.ofNat 50)), .inl (.aload 0), .inr (.int 5), .inl (.aload 0), .inl (.getfield 104), .inl (.invokevirtual 19), .inl (.ret 0), .inr (.int 0), .inl (.istore 2), .inl .nop, .inl (.iload 2), .inr (.retAddr 1), .inl (.iload 1), .inl .faload, .inl (.if_icmp .ge (.ofNat 67)), .inl (.aload 0), .inl (.iload 1), .inl (.iload 2), .inl (.invokevirtual 26), .inl (.ifCond .ne (.ofNat 65)), .inr (.int 0), .inl (.ret 0), .inl (.iinc 2 1), .inl (.goto (.ofNat 52)), .inl (.aload 0), .inl (.invokevirtual 21), .inl (.ifCond .ne (.ofNat 72)), .inr (.int 0), .inl (.ret 0), .inl (.aload 0), .inl (.getfield 103), .inr (.int 3), .inl (.if_icmp .eq (.ofNat 82)), .inl (.aload 0), .inr (.int 2), .inl (.aload 0), .inl (.getfield 104), .inl (.invokevirtual 19), .inl (.ret 0), .inl (.aload 0), .inl (.iload 1), .inl (.invokevirtual 27), .inr (.int 1), .inl (.ret 0)]
def pb_X3_takeLine : List Nat := [0, 1, 4, 5, 8, 9, 12, 15, 16, 17, 18, 19, 22, 23, 24, 25, 28, 31, 32, 33, 34, 37, 38, 41, 44, 45, 46, 49, 50, 53, 56, 57, 58, 59, 62, 65, 66, 67, 68, 71, 72, 75, 78, 80, 83, 84, 85, 86, 89, 92, 93, 94, 95, 95, 96, 99, 100, 101, 104, 105, 106, 107, 110, 113, 114, 115, 118, 121, 122, 125, 128, 129, 130, 131, 134, 135, 138, 139, 140, 141, 144, 147, 148, 149, 150, 153, 154]
def cd_X3_takeNumber : List ev_I := [.inl (.aload 0), .inl (.invokevirtual 21), .inl (.ifCond .ne (.ofNat 5)), .inr (.int 0), .inl (.ret 0), .inl (.aload 0), .inl (.getfield 103), .inr (.int 2), .inl (.if_icmp .eq (.ofNat 15)), .inl (.aload 0), .inr (.int 2), .inl (.aload 0), .inl (.getfield 104), .inl (.invokevirtual 19), .inl (.ret 0), .inr (.int 3), .inl (.iload 1), .inl .imul, .inl (.iload 2), .inl .iadd, .inl (.istore 3), .inl (.aload 0), .inl (.getfield 105), .inr (.retAddr 2), .inl (.iload 3), .inl .faload, .inl (.if_icmp .lt (.ofNat 33)), .inl (.aload 0), .inl (.getfield 105), .inr (.retAddr 3), .inl (.iload 3), .inl .faload, .inl (.if_icmp .le (.ofNat 39)), .inl (.aload 0), .inr (.int 3), .inl (.aload 0), .inl (.getfield 104), .inl (.invokevirtual 19), .inl (.ret 0), .inl (.iload 1), .inr (.int 7), .inl (.if_icmp .ne (.ofNat 58)), .inl (.iload 2), .inr (.int 1), .inl (.if_icmp .ne (.ofNat 58)), .inl (.aload 0), .inl (.getfield 105), .inl (.aload 0), .inl (.getfield 106), .inr (.int 0), .inl .iaload, .inl (.if_icmp .ne (.ofNat 58)), .inl (.aload 0), .inr (.int 3), .inl (.aload 0), .inl (.getfield 104), .inl (.invokevirtual 19), .inl (.ret 0), .inl (.iload 1), .inr (.int 6), .inl (.if_icmp .ne (.ofNat 75)), .inl (.iload 2), .inl (.ifCond .ne (.ofNat 75)), .inl (.aload 0), .inl (.getfield 109), .inl (.aload 0), .inl (.getfield 105), .inl (.invokestatic 108), .inl (.ifCond .eq (.ofNat 75)), .inl (.aload 0), .inr (.int 4), .inl (.aload 0), .inl (.getfield 104), .inl (.invokevirtual 19), .inl (.ret 0), .inl (.aload 0), .inl (.getfield 106), .inl (.iload 2), .inl (.aload 0), .inl (.getfield 105), .inl .iastore, .inr (.int 1), .inl (.ret 0)]
def pb_X3_takeNumber : List Nat := [0, 1, 4, 7, 8, 9, 10, 13, 14, 17, 18, 19, 20, 23, 26, 27, 28, 29, 30, 31, 32, 33, 34, 37, 40, 41, 42, 45, 46, 49, 52, 53, 54, 57, 58, 59, 60, 63, 66, 67, 68, 70, 73, 74, 75, 78, 79, 82, 83, 86, 87, 88, 91, 92, 93, 94, 97, 100, 101, 102, 104, 107, 108, 111, 112, 115, 116, 119, 122, 125, 126, 127, 128, 131, 134, 135, 136, 139, 140, 141, 144, 145, 146]
def cd_X3_putDown : List ev_I := [.inl (.aload 0), .inl (.getfield 106), .inr (.int 0), .inl .iaload, .inl (.istore 2), .inl (.aload 0), .inl (.getfield 106), .inr (.int 1), .inl .iaload, .inl (.istore 3), .inl (.iload 1), .inl (.tableswitch (.ofNat 89) 1 7 #[.ofNat 78, .ofNat 62, .ofNat 70, .ofNat 12, .ofNat 20, .ofNat 28, .ofNat 43]), .inl (.aload 0), .inl (.getfield 99), .inl (.iload 2), .inl (.putfield 129), .inl (.aload 0), .inr (.int 1), .inl (.multianewarray 107 1), .inl (.goto (.ofNat 99)), .inl (.aload 0), .inl (.getfield 99), .inl (.iload 2), .inl (.putfield 130), .inl (.aload 0), .inr (.int 1), .inl (.multianewarray 108 1), .inl (.goto (.ofNat 99)), .inl (.aload 0), .inl (.getfield 99), .inl (.getfield 139), .inl (.iload 2), .inl (.iload 3), .inl .iastore, .inl (.aload 0), .inl .dup, .inl (.getfield 109), .inr (.int 1), .inl (.iload 2), .inl .ishl, .inl .ior, .inl (.putfield 109), .inl (.goto (.ofNat 99)), .inl (.aload 0), .inl (.getfield 99), .inl (.iload 2), .inl (.iload 3), .inr (.int 1), .inl (.invokevirtual 44), .inl (.aload 0), .inl .dup, .inl (.getfield 110), .inr (.int 1), .inl (.iload 2), .inl .ishl, .inr (.int 1), .inl (.iload 3), .inl .ishl, .inl .ior, .inl .ior, .inl (.putfield 110), .inl (.goto (.ofNat 99)), .inl (.aload 0), .inl (.getfield 99), .inr (.int 2), .inr (.int 0), .inl (.iload 2), .inl (.iload 3), .inl (.invokevirtual 43), .inl (.goto (.ofNat 99)), .inl (.aload 0), .inl (.getfield 99), .inr (.int 3), .inl (.iload 2), .inl (.iload 3), .inr (.int (-4)), .inl (.invokevirtual 43), .inl (.goto (.ofNat 99)), .inl (.aload 0), .inl (.getfield 99), .inr (.int 1), .inl (.iload 2), .inl (.iload 3), .inl (.aload 0), .inl (.getfield 106), .inr (.int 2), .inl .iaload, .inl (.invokevirtual 43), .inl (.goto (.ofNat 99)), .inl (.aload 0), .inl (.getfield 99), .inr (.int 0), .inl (.iload 2), .inl (.iload 3), .inl (.aload 0), .inl (.getfield 106), .inr (.int 2), .inl .iaload, .inl (.invokevirtual 43), .inl .return_]
def pb_X3_putDown : List Nat := [0, 1, 4, 5, 6, 7, 8, 11, 12, 13, 14, 15, 56, 57, 60, 61, 64, 65, 66, 69, 72, 73, 76, 77, 80, 81, 82, 85, 88, 89, 92, 95, 96, 97, 98, 99, 100, 103, 104, 105, 106, 107, 110, 113, 114, 117, 118, 119, 120, 123, 124, 125, 128, 129, 130, 131, 132, 133, 134, 135, 136, 139, 142, 143, 146, 147, 148, 149, 150, 153, 156, 157, 160, 161, 162, 163, 165, 168, 171, 172, 175, 176, 177, 178, 179, 182, 183, 184, 187, 190, 191, 194, 195, 196, 197, 198, 201, 202, 203, 206]
def cd_X3_wordHere : List ev_I := [.inr (.int 0), .inl (.istore 1), .inl .nop, .inl (.iload 1), .inr (.int 8), .inl (.if_icmp .ge (.ofNat 15)), .inl (.aload 0), .inl (.iload 1), .inl (.invokestatic 30), .inl (.invokevirtual 29), .inl (.ifCond .eq (.ofNat 13)), .inl (.iload 1), .inl .ireturn, .inl (.iinc 1 1), .inl (.goto (.ofNat 2)), .inr (.int (-1)), .inl .ireturn]
def pb_X3_wordHere : List Nat := [0, 1, 2, 2, 3, 5, 8, 9, 10, 13, 16, 19, 20, 21, 24, 27, 28]
def cd_X3_isHere : List ev_I := [.inl (.aload 1), .inl (.invokevirtual 206), .inl (.aload 0), .inl (.getfield 102), .inl (.aload 0), .inl (.getfield 104), .inl .isub, .inl (.if_icmp .eq (.ofNat 10)), .inr (.int 0), .inl (.ret 0), .inr (.int 0), .inl (.istore 2), .inl .nop, .inl (.iload 2), .inl (.aload 1), .inl (.invokevirtual 206), .inl (.if_icmp .ge (.ofNat 32)), .inl (.aload 0), .inl (.getfield 100), .inl (.aload 0), .inl (.getfield 104), .inl (.iload 2), .inl .iadd, .inl .baload, .inl (.aload 1), .inl (.iload 2), .inl (.invokevirtual 207), .inl (.if_icmp .eq (.ofNat 30)), .inr (.int 0), .inl (.ret 0), .inl (.iinc 2 1), .inl (.goto (.ofNat 12)), .inr (.int 1), .inl (.ret 0)]
def pb_X3_isHere : List Nat := [0, 1, 4, 5, 8, 9, 12, 13, 16, 17, 18, 19, 20, 20, 21, 22, 25, 28, 29, 32, 33, 36, 37, 38, 39, 40, 41, 44, 47, 48, 49, 52, 55, 56]
def cd_X3_wordOf : List ev_I := [.inl (.iload 0), .inl (.tableswitch (.ofNat 16) 0 6 #[.ofNat 2, .ofNat 4, .ofNat 6, .ofNat 8, .ofNat 10, .ofNat 12, .ofNat 14]), .inr (.retAddr 10), .inl .areturn, .inr (.retAddr 11), .inl .areturn, .inr (.retAddr 12), .inl .areturn, .inr (.retAddr 13), .inl .areturn, .inr (.retAddr 14), .inl .areturn, .inr (.retAddr 15), .inl .areturn, .inr (.retAddr 16), .inl .areturn, .inr (.retAddr 17), .inl .areturn]
def pb_X3_wordOf : List Nat := [0, 1, 44, 46, 47, 49, 50, 52, 53, 55, 56, 58, 59, 61, 62, 64, 65, 67]
def cd_X4_init : List ev_I := [.inl (.aload 0), .inl .monitorexit, .inl (.aload 0), .inr (.int 12), .inl (.putfield 129), .inl (.aload 0), .inr (.int 2), .inl (.putfield 130), .inl (.aload 0), .inr (.int 8), .inl (.newarray .int), .inl (.putstatic 134), .inl (.aload 0), .inr (.int 8), .inl (.newarray .int), .inl (.putstatic 135), .inl (.aload 0), .inr (.int 8), .inl (.newarray .int), .inl (.putstatic 136), .inl (.aload 0), .inr (.int 8), .inl (.newarray .int), .inl (.putstatic 137), .inl (.aload 0), .inr (.int 8), .inl (.newarray .int), .inl (.putstatic 138), .inl (.aload 0), .inr (.int 4), .inl (.newarray .int), .inl .dup, .inr (.int 0), .inr (.int 3), .inl .iastore, .inl .dup, .inr (.int 1), .inr (.int 3), .inl .iastore, .inl .dup, .inr (.int 2), .inr (.int 3), .inl .iastore, .inl .dup, .inr (.int 3), .inr (.int 3), .inl .iastore, .inl (.putstatic 139), .inl (.aload 0), .inr (.int 6), .inl (.newarray .int), .inl (.putstatic 140), .inl (.aload 0), .inr (.int 6), .inl (.newarray .int), .inl (.putstatic 141), .inl .return_]
def pb_X4_init : List Nat := [0, 1, 4, 5, 7, 10, 11, 12, 15, 16, 18, 20, 23, 24, 26, 28, 31, 32, 34, 36, 39, 40, 42, 44, 47, 48, 50, 52, 55, 56, 57, 59, 60, 61, 62, 63, 64, 65, 66, 67, 68, 69, 70, 71, 72, 73, 74, 75, 78, 79, 81, 83, 86, 87, 89, 91, 94]
def cd_X4_clear : List ev_I := [.inl (.aload 0), .inr (.int 0), .inl (.putfield 128), .inl (.aload 0), .inr (.int 12), .inl (.putfield 129), .inl (.aload 0), .inr (.int 2), .inl (.putfield 130), .inl (.aload 0), .inr (.int 0), .inl (.putfield 131), .inl (.aload 0), .inr (.int 0), .inl (.putfield 132), .inl (.aload 0), .inr (.int 0), .inl (.putfield 133), .inr (.int 0), .inl (.istore 1), .inl .nop, .inl (.iload 1), .inr (.int 8), .inl (.if_icmp .ge (.ofNat 31)), .inl (.aload 0), .inl (.getfield 138), .inl (.iload 1), .inr (.int 0), .inl .iastore, .inl (.iinc 1 1), .inl (.goto (.ofNat 20)), .inr (.int 0), .inl (.istore 1), .inl .nop, .inl (.iload 1), .inr (.int 4), .inl (.if_icmp .ge (.ofNat 44)), .inl (.aload 0), .inl (.getfield 139), .inl (.iload 1), .inr (.int 3), .inl .iastore, .inl (.iinc 1 1), .inl (.goto (.ofNat 33)), .inl .return_]
def pb_X4_clear : List Nat := [0, 1, 2, 5, 6, 8, 11, 12, 13, 16, 17, 18, 21, 22, 23, 26, 27, 28, 31, 32, 33, 33, 34, 36, 39, 40, 43, 44, 45, 46, 49, 52, 53, 54, 54, 55, 56, 59, 60, 63, 64, 65, 66, 69, 72]
def cd_X4_copyFrom : List ev_I := [.inl (.aload 0), .inl (.aload 1), .inl (.getfield 128), .inl (.putfield 128), .inl (.aload 0), .inl (.aload 1), .inl (.getfield 129), .inl (.putfield 129), .inl (.aload 0), .inl (.aload 1), .inl (.getfield 130), .inl (.putfield 130), .inl (.aload 0), .inl (.aload 1), .inl (.getfield 131), .inl (.putfield 131), .inl (.aload 0), .inl (.aload 1), .inl (.getfield 132), .inl (.putfield 132), .inl (.aload 0), .inl (.aload 1), .inl (.getfield 133), .inl (.putfield 133), .inr (.int 0), .inl (.istore 2), .inl .nop, .inl (.iload 2), .inr (.int 8), .inl (.if_icmp .ge (.ofNat 64)), .inl (.aload 0), .inl (.getfield 134), .inl (.iload 2), .inl (.aload 1), .inl (.getfield 134), .inl (.iload 2), .inl .iaload, .inl .iastore, .inl (.aload 0), .inl (.getfield 135), .inl (.iload 2), .inl (.aload 1), .inl (.getfield 135), .inl (.iload 2), .inl .iaload, .inl .iastore, .inl (.aload 0), .inl (.getfield 137), .inl (.iload 2), .inl (.aload 1), .inl (.getfield 137), .inl (.iload 2), .inl .iaload, .inl .iastore, .inl (.aload 0), .inl (.getfield 138), .inl (.iload 2), .inl (.aload 1), .inl (.getfield 138), .inl (.iload 2), .inl .iaload, .inl .iastore, .inl (.iinc 2 1), .inl (.goto (.ofNat 26)), .inl (.aload 0), .inl (.aload 1), .inl (.invokevirtual 34), .inr (.int 0), .inl (.istore 2), .inl .nop, .inl (.iload 2), .inr (.int 4), .inl (.if_icmp .ge (.ofNat 83)), .inl (.aload 0), .inl (.getfield 139), .inl (.iload 2), .inl (.aload 1), .inl (.getfield 139), .inl (.iload 2), .inl .iaload, .inl .iastore, .inl (.iinc 2 1), .inl (.goto (.ofNat 69)), .inr (.int 0), .inl (.istore 2), .inl .nop, .inl (.iload 2), .inr (.int 6), .inl (.if_icmp .ge (.ofNat 107)), .inl (.aload 0), .inl (.getfield 140), .inl (.iload 2), .inl (.aload 1), .inl (.getfield 140), .inl (.iload 2), .inl .iaload, .inl .iastore, .inl (.aload 0), .inl (.getfield 141), .inl (.iload 2), .inl (.aload 1), .inl (.getfield 141), .inl (.iload 2), .inl .iaload, .inl .iastore, .inl (.iinc 2 1), .inl (.goto (.ofNat 85)), .inl .return_]
def pb_X4_copyFrom : List Nat := [0, 1, 2, 5, 8, 9, 10, 13, 16, 17, 18, 21, 24, 25, 26, 29, 32, 33, 34, 37, 40, 41, 42, 45, 48, 49, 50, 50, 51, 53, 56, 57, 60, 61, 62, 65, 66, 67, 68, 69, 72, 73, 74, 77, 78, 79, 80, 81, 84, 85, 86, 89, 90, 91, 92, 93, 96, 97, 98, 101, 102, 103, 104, 107, 110, 111, 112, 115, 116, 117, 117, 118, 119, 122, 123, 126, 127, 128, 131, 132, 133, 134, 137, 140, 141, 142, 142, 143, 145, 148, 149, 152, 153, 154, 157, 158, 159, 160, 161, 164, 165, 166, 169, 170, 171, 172, 175, 178]
def cd_X4_copyStock : List ev_I := [.inr (.int 0), .inl (.istore 2), .inl .nop, .inl (.iload 2), .inr (.int 8), .inl (.if_icmp .ge (.ofNat 16)), .inl (.aload 0), .inl (.getfield 136), .inl (.iload 2), .inl (.aload 1), .inl (.getfield 136), .inl (.iload 2), .inl .iaload, .inl .iastore, .inl (.iinc 2 1), .inl (.goto (.ofNat 2)), .inl .return_]
def pb_X4_copyStock : List Nat := [0, 1, 2, 2, 3, 5, 8, 9, 12, 13, 14, 17, 18, 19, 20, 23, 26]
def cd_X4_hasMan : List ev_I := [.inl (.iload 1), .inl (.ifCond .lt (.ofNat 8)), .inl (.iload 1), .inl (.aload 0), .inl (.getfield 128), .inl (.if_icmp .ge (.ofNat 8)), .inr (.int 1), .inl (.goto (.ofNat 9)), .inr (.int 0), .inl (.ret 0)]
def pb_X4_hasMan : List Nat := [0, 1, 4, 5, 6, 9, 12, 13, 16, 17]
def cd_X4_allMen : List ev_I := [.inr (.int 1), .inl (.aload 0), .inl (.getfield 128), .inl .ishl, .inr (.int 1), .inl .isub, .inl .ireturn]
def pb_X4_allMen : List Nat := [0, 1, 2, 5, 6, 7, 8]
def cd_X4_menOfKind : List ev_I := [.inr (.int 0), .inl (.istore 2), .inr (.int 0), .inl (.istore 3), .inl .nop, .inl (.iload 3), .inl (.aload 0), .inl (.getfield 128), .inl (.if_icmp .ge (.ofNat 23)), .inl (.aload 0), .inl (.getfield 134), .inl (.iload 3), .inl .iaload, .inl (.iload 1), .inl (.if_icmp .ne (.ofNat 21)), .inl (.iload 2), .inr (.int 1), .inl (.iload 3), .inl .ishl, .inl .ior, .inl (.istore 2), .inl (.iinc 3 1), .inl (.goto (.ofNat 4)), .inl (.iload 2), .inl .ireturn]
def pb_X4_menOfKind : List Nat := [0, 1, 2, 3, 4, 4, 5, 6, 9, 12, 13, 16, 17, 18, 19, 22, 23, 24, 25, 26, 27, 28, 31, 34, 35]
def cd_X4_menOfTen : List ev_I := [.inr (.int 0), .inl (.istore 2), .inr (.int 0), .inl (.istore 3), .inl .nop, .inl (.iload 3), .inl (.aload 0), .inl (.getfield 128), .inl (.if_icmp .ge (.ofNat 23)), .inl (.aload 0), .inl (.getfield 137), .inl (.iload 3), .inl .iaload, .inl (.iload 1), .inl (.if_icmp .ne (.ofNat 21)), .inl (.iload 2), .inr (.int 1), .inl (.iload 3), .inl .ishl, .inl .ior, .inl (.istore 2), .inl (.iinc 3 1), .inl (.goto (.ofNat 4)), .inl (.iload 2), .inl .ireturn]
def pb_X4_menOfTen : List Nat := [0, 1, 2, 3, 4, 4, 5, 6, 9, 12, 13, 16, 17, 18, 19, 22, 23, 24, 25, 26, 27, 28, 31, 34, 35]
def cd_X4_sizeOfTen : List ev_I := [.inl (.aload 0), .inl (.iload 1), .inl (.invokevirtual 38), .inl (.invokestatic 204), .inl .ireturn]
def pb_X4_sizeOfTen : List Nat := [0, 1, 2, 5, 8]
def cd_X4_tensWithMen : List ev_I := [.inr (.int 0), .inl (.istore 1), .inr (.int 0), .inl (.istore 2), .inl .nop, .inl (.iload 2), .inr (.int 4), .inl (.if_icmp .ge (.ofNat 15)), .inl (.aload 0), .inl (.iload 2), .inl (.invokevirtual 38), .inl (.ifCond .eq (.ofNat 13)), .inl (.iinc 1 1), .inl (.iinc 2 1), .inl (.goto (.ofNat 4)), .inl (.iload 1), .inl .ireturn]
def pb_X4_tensWithMen : List Nat := [0, 1, 2, 3, 4, 4, 5, 6, 9, 10, 11, 14, 17, 20, 23, 26, 27]
def cd_X4_tensOf : List ev_I := [.inr (.int 0), .inl (.istore 2), .inr (.int 0), .inl (.istore 3), .inl .nop, .inl (.iload 3), .inl (.aload 0), .inl (.getfield 128), .inl (.if_icmp .ge (.ofNat 29)), .inl (.iload 1), .inl (.iload 3), .inl (.invokestatic 108), .inl (.ifCond .eq (.ofNat 27)), .inl (.aload 0), .inl (.getfield 137), .inl (.iload 3), .inl .iaload, .inl (.ifCond .lt (.ofNat 27)), .inl (.iload 2), .inr (.int 1), .inl (.aload 0), .inl (.getfield 137), .inl (.iload 3), .inl .iaload, .inl .ishl, .inl .ior, .inl (.istore 2), .inl (.iinc 3 1), .inl (.goto (.ofNat 4)), .inl (.iload 2), .inl .ireturn]
def pb_X4_tensOf : List Nat := [0, 1, 2, 3, 4, 4, 5, 6, 9, 12, 13, 14, 17, 20, 21, 24, 25, 26, 29, 30, 31, 32, 35, 36, 37, 38, 39, 40, 43, 46, 47]
def cd_X4_stockOf : List ev_I := [.inr (.int 0), .inl (.istore 2), .inr (.int 0), .inl (.istore 3), .inl .nop, .inl (.iload 3), .inl (.aload 0), .inl (.getfield 128), .inl (.if_icmp .ge (.ofNat 22)), .inl (.iload 1), .inl (.iload 3), .inl (.invokestatic 108), .inl (.ifCond .eq (.ofNat 20)), .inl (.iload 2), .inl (.aload 0), .inl (.getfield 136), .inl (.iload 3), .inl .iaload, .inl .iadd, .inl (.istore 2), .inl (.iinc 3 1), .inl (.goto (.ofNat 4)), .inl (.iload 2), .inl .ireturn]
def pb_X4_stockOf : List Nat := [0, 1, 2, 3, 4, 4, 5, 6, 9, 12, 13, 14, 17, 20, 21, 22, 25, 26, 27, 28, 29, 32, 35, 36]
def cd_X4_addMan : List ev_I := [.inl (.aload 0), .inl (.getfield 134), .inl (.aload 0), .inl (.getfield 128), .inl (.iload 1), .inl .iastore, .inl (.aload 0), .inl (.getfield 135), .inl (.aload 0), .inl (.getfield 128), .inl (.iload 2), .inl .iastore, .inl (.aload 0), .inl (.getfield 136), .inl (.aload 0), .inl (.getfield 128), .inl (.iload 3), .inl .iastore, .inl (.aload 0), .inl (.getfield 137), .inl (.aload 0), .inl (.getfield 128), .inl (.iload 4), .inl .iastore, .inl (.aload 0), .inl .dup, .inl (.getfield 128), .inr (.int 1), .inl .iadd, .inl (.putfield 128), .inl .return_]
def pb_X4_addMan : List Nat := [0, 1, 4, 5, 8, 9, 10, 11, 14, 15, 18, 19, 20, 21, 24, 25, 28, 29, 30, 31, 34, 35, 38, 40, 41, 42, 43, 46, 47, 48, 51]
def cd_X4_setKin : List ev_I := [.inl (.aload 0), .inl (.getfield 138), .inl (.iload 1), .inl (.aload 0), .inl (.getfield 138), .inl (.iload 1), .inl .iaload, .inl (.iload 2), .inl (.iload 3), .inl (.invokestatic 109), .inl .iastore, .inl (.aload 0), .inl (.getfield 138), .inl (.iload 2), .inl (.aload 0), .inl (.getfield 138), .inl (.iload 2), .inl .iaload, .inl (.iload 1), .inl (.iload 3), .inl (.invokestatic 109), .inl .iastore, .inl .return_]
def pb_X4_setKin : List Nat := [0, 1, 4, 5, 6, 9, 10, 11, 12, 13, 16, 17, 18, 21, 22, 23, 26, 27, 28, 29, 30, 33, 34]
def cd_X4_whyNoSeat : List ev_I := [.inl (.aload 0), .inl (.iload 1), .inl (.invokevirtual 35), .inl (.ifCond .eq (.ofNat 7)), .inl (.iload 2), .inl (.invokestatic 106), .inl (.ifCond .ne (.ofNat 9)), .inr (.int (-1)), .inl .ireturn, .inl (.aload 0), .inl (.getfield 137), .inl (.iload 1), .inl .iaload, .inl (.iload 2), .inl (.if_icmp .eq (.ofNat 25)), .inl (.aload 0), .inl (.iload 2), .inl (.invokevirtual 39), .inl (.aload 0), .inl (.getfield 139), .inl (.iload 2), .inl .iaload, .inl (.if_icmp .lt (.ofNat 25)), .inr (.int (-3)), .inl (.goto (.ofNat 26)), .inr (.int 0), .inl .ireturn]
def pb_X4_whyNoSeat : List Nat := [0, 1, 2, 5, 8, 9, 12, 15, 16, 17, 18, 21, 22, 23, 24, 27, 28, 29, 32, 33, 36, 37, 38, 41, 43, 46, 47]
def cd_X4_seat : List ev_I := [.inl (.aload 0), .inl (.getfield 137), .inl (.iload 1), .inl .iaload, .inl (.istore 3), .inl (.aload 0), .inl (.getfield 137), .inl (.iload 1), .inl (.iload 2), .inl .iastore, .inl (.aload 0), .inl (.getfield 134), .inl (.iload 1), .inl .iaload, .inr (.int 3), .inl (.if_icmp .ne (.ofNat 21)), .inl (.aload 0), .inl (.getfield 134), .inl (.iload 1), .inr (.int 0), .inl .iastore, .inl (.iload 3), .inl .ireturn]
def pb_X4_seat : List Nat := [0, 1, 4, 5, 6, 7, 8, 11, 12, 13, 14, 15, 18, 19, 20, 21, 24, 25, 28, 29, 30, 31, 32]
def cd_X4_giveUp : List ev_I := [.inl (.aload 0), .inl (.getfield 137), .inl (.iload 1), .inr (.int (-4)), .inl .iastore, .inl (.aload 0), .inl (.getfield 134), .inl (.iload 1), .inr (.int 3), .inl .iastore, .inl (.aload 0), .inl (.aload 0), .inl (.getfield 132), .inl (.iload 1), .inr (.int 0), .inl (.invokestatic 109), .inl (.putfield 132), .inl .return_]
def pb_X4_giveUp : List Nat := [0, 1, 4, 5, 7, 8, 9, 12, 13, 14, 15, 16, 17, 20, 21, 22, 25, 28]
def cd_X4_maySwap : List ev_I := [.inl (.aload 0), .inl (.getfield 137), .inl (.iload 1), .inl .iaload, .inl (.ifCond .lt (.ofNat 21)), .inl (.aload 0), .inl (.getfield 137), .inl (.iload 2), .inl .iaload, .inl (.ifCond .lt (.ofNat 21)), .inl (.aload 0), .inl (.getfield 137), .inl (.iload 1), .inl .iaload, .inl (.aload 0), .inl (.getfield 137), .inl (.iload 2), .inl .iaload, .inl (.if_icmp .eq (.ofNat 21)), .inr (.int 1), .inl (.goto (.ofNat 22)), .inr (.int 0), .inl (.ret 0)]
def pb_X4_maySwap : List Nat := [0, 1, 4, 5, 6, 9, 10, 13, 14, 15, 18, 19, 22, 23, 24, 25, 28, 29, 30, 33, 34, 37, 38]
def cd_X4_exchange : List ev_I := [.inl (.aload 0), .inl (.getfield 137), .inl (.iload 1), .inl .iaload, .inl (.istore 3), .inl (.aload 0), .inl (.getfield 137), .inl (.iload 1), .inl (.aload 0), .inl (.getfield 137), .inl (.iload 2), .inl .iaload, .inl .iastore, .inl (.aload 0), .inl (.getfield 137), .inl (.iload 2), .inl (.iload 3), .inl .iastore, .inl .return_]
def pb_X4_exchange : List Nat := [0, 1, 4, 5, 6, 7, 8, 11, 12, 13, 16, 17, 18, 19, 20, 23, 24, 25, 26]
def cd_X4_oddsInTen : List ev_I := [.inl (.aload 0), .inl (.iload 1), .inl (.aload 0), .inl (.getfield 132), .inl (.iload 1), .inl (.invokestatic 108), .inl (.ifCond .eq (.ofNat 9)), .inr (.int 1), .inl (.goto (.ofNat 10)), .inr (.int 0), .inl (.invokevirtual 51), .inl .ireturn]
def pb_X4_oddsInTen : List Nat := [0, 1, 2, 3, 6, 7, 10, 13, 14, 17, 18, 21]
def cd_X4_oddsIfWatched : List ev_I := [.inl (.aload 0), .inl (.getfield 134), .inl (.iload 1), .inl .iaload, .inr (.int 1), .inl (.if_icmp .eq (.ofNat 12)), .inl (.aload 0), .inl (.iload 1), .inr (.int 0), .inl (.iload 2), .inl (.invokevirtual 52), .inl .ireturn, .inl (.aload 0), .inl (.aload 0), .inl (.getfield 137), .inl (.iload 1), .inl .iaload, .inl (.invokevirtual 38), .inl (.aload 0), .inr (.int 1), .inl (.invokevirtual 37), .inl .iand, .inl (.istore 3), .inl (.aload 0), .inl (.iload 1), .inl (.iload 3), .inl (.invokestatic 204), .inr (.int 1), .inl .isub, .inl (.iload 2), .inl (.invokevirtual 52), .inl .ireturn]
def pb_X4_oddsIfWatched : List Nat := [0, 1, 4, 5, 6, 7, 10, 11, 12, 13, 14, 17, 18, 19, 20, 23, 24, 25, 28, 29, 30, 33, 34, 35, 36, 37, 38, 41, 42, 43, 44, 47]
def cd_X4_oddsAmong : List ev_I := [.inl (.aload 0), .inl (.getfield 134), .inl (.iload 1), .inl .iaload, .inr (.int 2), .inl (.if_icmp .ne (.ofNat 8)), .inr (.int 0), .inl .ireturn, .inl (.aload 0), .inl (.getfield 134), .inl (.iload 1), .inl .iaload, .inr (.int 1), .inl (.if_icmp .ne (.ofNat 21)), .inl (.aload 0), .inl (.getfield 135), .inl (.iload 1), .inl .iaload, .inl (.iload 2), .inl .iadd, .inl (.goto (.ofNat 25)), .inl (.aload 0), .inl (.getfield 135), .inl (.iload 1), .inl .iaload, .inl (.istore 4), .inl (.iload 3), .inl (.ifCond .eq (.ofNat 32)), .inl (.iload 4), .inr (.int 2), .inl .idiv, .inl (.goto (.ofNat 33)), .inl (.iload 4), .inr (.int 9), .inl (.invokestatic 205), .inl .ireturn]
def pb_X4_oddsAmong : List Nat := [0, 1, 4, 5, 6, 7, 10, 11, 12, 13, 16, 17, 18, 19, 22, 23, 26, 27, 28, 29, 30, 33, 34, 37, 38, 39, 41, 42, 45, 47, 48, 49, 52, 54, 56, 59]
def cd_X4_wonByWatch : List ev_I := [.inl (.aload 0), .inl (.getfield 137), .inl (.iload 1), .inl .iaload, .inl (.ifCond .ge (.ofNat 7)), .inr (.int 0), .inl .ireturn, .inl (.aload 0), .inl (.getfield 129), .inl (.aload 0), .inl (.iload 1), .inr (.int 0), .inl (.invokevirtual 51), .inl (.aload 0), .inl (.iload 1), .inr (.int 1), .inl (.invokevirtual 51), .inl .isub, .inl .imul, .inl .ireturn]
def pb_X4_wonByWatch : List Nat := [0, 1, 4, 5, 6, 9, 10, 11, 12, 15, 16, 17, 18, 21, 22, 23, 24, 27, 28, 29]
def cd_X4_harmOfTen : List ev_I := [.inl (.aload 0), .inl (.iload 1), .inl (.invokevirtual 38), .inl (.istore 2), .inr (.int 0), .inl (.istore 3), .inr (.int 0), .inl (.istore 4), .inl .nop, .inl (.iload 4), .inl (.aload 0), .inl (.getfield 128), .inl (.if_icmp .ge (.ofNat 25)), .inl (.iload 2), .inl (.iload 4), .inl (.invokestatic 108), .inl (.ifCond .eq (.ofNat 23)), .inl (.iload 3), .inl (.aload 0), .inl (.iload 4), .inl (.invokevirtual 50), .inl .iadd, .inl (.istore 3), .inl (.iinc 4 1), .inl (.goto (.ofNat 8)), .inl (.iload 3), .inl (.aload 0), .inl (.getfield 129), .inl .imul, .inr (.int 10), .inl (.aload 0), .inl (.getfield 130), .inl .imul, .inl (.iload 2), .inl (.aload 0), .inl (.getfield 132), .inl .iand, .inl (.invokestatic 204), .inl .imul, .inl .iadd, .inl .ireturn]
def pb_X4_harmOfTen : List Nat := [0, 1, 2, 5, 6, 7, 8, 9, 11, 11, 13, 14, 17, 20, 21, 23, 26, 29, 30, 31, 33, 36, 37, 38, 41, 44, 45, 46, 49, 50, 52, 53, 56, 57, 58, 59, 62, 63, 66, 67, 68]
def cd_X4_harmOfAll : List ev_I := [.inr (.int 0), .inl (.istore 1), .inr (.int 0), .inl (.istore 2), .inl .nop, .inl (.iload 2), .inr (.int 4), .inl (.if_icmp .ge (.ofNat 16)), .inl (.iload 1), .inl (.aload 0), .inl (.iload 2), .inl (.invokevirtual 54), .inl .iadd, .inl (.istore 1), .inl (.iinc 2 1), .inl (.goto (.ofNat 4)), .inr (.int 0), .inl (.istore 2), .inl .nop, .inl (.iload 2), .inl (.aload 0), .inl (.getfield 128), .inl (.if_icmp .ge (.ofNat 41)), .inl (.aload 0), .inl (.getfield 134), .inl (.iload 2), .inl .iaload, .inr (.int 3), .inl (.if_icmp .ne (.ofNat 39)), .inl (.iload 1), .inl (.aload 0), .inl (.getfield 135), .inl (.iload 2), .inl .iaload, .inl (.aload 0), .inl (.getfield 129), .inl .imul, .inl .iadd, .inl (.istore 1), .inl (.iinc 2 1), .inl (.goto (.ofNat 18)), .inl (.iload 1), .inl .ireturn]
def pb_X4_harmOfAll : List Nat := [0, 1, 2, 3, 4, 4, 5, 6, 9, 10, 11, 12, 15, 16, 17, 20, 23, 24, 25, 25, 26, 27, 30, 33, 34, 37, 38, 39, 40, 43, 44, 45, 48, 49, 50, 51, 54, 55, 56, 57, 60, 63, 64]
def cd_X4_chanceOf : List ev_I := [.inr (.long 1), .inl (.lstore 3), .inr (.int 0), .inl (.istore 5), .inl .nop, .inl (.iload 5), .inl (.aload 0), .inl (.getfield 128), .inl (.if_icmp .ge (.ofNat 33)), .inl (.iload 1), .inl (.iload 5), .inl (.invokestatic 108), .inl (.ifCond .eq (.ofNat 31)), .inl (.aload 0), .inl (.iload 5), .inl (.invokevirtual 50), .inl (.istore 6), .inl (.lload 3), .inl (.iload 2), .inl (.iload 5), .inl (.invokestatic 108), .inl (.ifCond .eq (.ofNat 25)), .inl (.iload 6), .inl .i2l, .inl (.goto (.ofNat 29)), .inr (.int 10), .inl (.iload 6), .inl .isub, .inl .i2l, .inl .lmul, .inl (.lstore 3), .inl (.iinc 5 1), .inl (.goto (.ofNat 4)), .inl (.lload 3), .inl .lreturn]
def pb_X4_chanceOf : List Nat := [0, 1, 2, 3, 5, 5, 7, 8, 11, 14, 15, 17, 20, 23, 24, 26, 29, 31, 32, 33, 35, 38, 41, 43, 44, 47, 49, 51, 52, 53, 54, 55, 58, 61, 62]
def cd_X4_mayDoWrong : List ev_I := [.inl (.iload 1), .inl (.aload 0), .inl (.invokevirtual 36), .inl (.aload 0), .inr (.int 2), .inl (.invokevirtual 37), .inr (.int (-1)), .inl .ixor, .inl .iand, .inr (.int (-1)), .inl .ixor, .inl .iand, .inl (.ifCond .ne (.ofNat 15)), .inr (.int 1), .inl (.goto (.ofNat 16)), .inr (.int 0), .inl (.ret 0)]
def pb_X4_mayDoWrong : List Nat := [0, 1, 2, 5, 6, 7, 10, 11, 12, 13, 14, 15, 16, 19, 20, 23, 24]
def cd_X4_payAll : List ev_I := [.inl (.aload 0), .inl (.iload 1), .inl (.invokevirtual 59), .inl (.istore 2), .inl (.iload 2), .inl (.aload 0), .inl (.invokevirtual 61), .inl .iadd, .inl .ireturn]
def pb_X4_payAll : List Nat := [0, 1, 2, 5, 6, 7, 8, 11, 12]
def cd_X4_payFines : List ev_I := [.inr (.int 0), .inl (.istore 2), .inr (.int 0), .inl (.istore 3), .inl .nop, .inl (.iload 3), .inl (.aload 0), .inl (.getfield 128), .inl (.if_icmp .ge (.ofNat 26)), .inl (.iload 1), .inl (.iload 3), .inl (.invokestatic 108), .inl (.ifCond .eq (.ofNat 24)), .inl (.aload 0), .inl (.getfield 137), .inl (.iload 3), .inl .iaload, .inl (.ifCond .lt (.ofNat 24)), .inl (.iload 2), .inl (.aload 0), .inl (.iload 3), .inl (.invokevirtual 60), .inl .iadd, .inl (.istore 2), .inl (.iinc 3 1), .inl (.goto (.ofNat 4)), .inl (.iload 2), .inl .ireturn]
def pb_X4_payFines : List Nat := [0, 1, 2, 3, 4, 4, 5, 6, 9, 12, 13, 14, 17, 20, 21, 24, 25, 26, 29, 30, 31, 32, 35, 36, 37, 40, 43, 44]
def cd_X4_payFor : List ev_I := [.inl (.aload 0), .inl (.aload 0), .inl (.getfield 137), .inl (.iload 1), .inl .iaload, .inl (.invokevirtual 38), .inl (.aload 0), .inl (.getfield 138), .inl (.iload 1), .inl .iaload, .inr (.int (-1)), .inl .ixor, .inl .iand, .inl (.iload 1), .inr (.int 0), .inl (.invokestatic 109), .inl (.istore 2), .inl (.iload 2), .inl (.invokestatic 204), .inl (.istore 3), .inl (.iload 3), .inl (.ifCond .ne (.ofNat 24)), .inr (.int 0), .inl .ireturn, .inl (.aload 0), .inl (.getfield 129), .inl (.iload 3), .inl .irem, .inl (.istore 4), .inr (.int 0), .inl (.istore 5), .inr (.int 0), .inl (.istore 6), .inl .nop, .inl (.iload 6), .inl (.aload 0), .inl (.getfield 128), .inl (.if_icmp .ge (.ofNat 61)), .inl (.iload 2), .inl (.iload 6), .inl (.invokestatic 108), .inl (.ifCond .eq (.ofNat 59)), .inl (.iload 5), .inl (.aload 0), .inl (.iload 6), .inl (.aload 0), .inl (.getfield 129), .inl (.iload 3), .inl .idiv, .inl (.iload 4), .inl (.ifCond .le (.ofNat 53)), .inr (.int 1), .inl (.goto (.ofNat 54)), .inr (.int 0), .inl .iadd, .inl (.invokevirtual 62), .inl .iadd, .inl (.istore 5), .inl (.iinc 4 (-1)), .inl (.iinc 6 1), .inl (.goto (.ofNat 33)), .inl (.iload 5), .inl .ireturn]
def pb_X4_payFor : List Nat := [0, 1, 2, 5, 6, 7, 10, 11, 14, 15, 16, 17, 18, 19, 20, 21, 24, 25, 26, 29, 30, 31, 34, 35, 36, 37, 40, 41, 42, 44, 45, 47, 48, 50, 50, 52, 53, 56, 59, 60, 62, 65, 68, 70, 71, 73, 74, 77, 78, 79, 81, 84, 85, 88, 89, 90, 93, 94, 96, 99, 102, 105, 107]
def cd_X4_payCosts : List ev_I := [.inr (.int 0), .inl (.istore 1), .inr (.int 0), .inl (.istore 2), .inl .nop, .inl (.iload 2), .inr (.int 4), .inl (.if_icmp .ge (.ofNat 51)), .inl (.aload 0), .inl (.iload 2), .inl (.invokevirtual 38), .inl (.istore 3), .inl (.aload 0), .inl (.getfield 130), .inl (.iload 3), .inl (.aload 0), .inl (.getfield 132), .inl .iand, .inl (.invokestatic 204), .inl .imul, .inl (.istore 4), .inr (.int 0), .inl (.istore 5), .inl .nop, .inl (.iload 5), .inl (.aload 0), .inl (.getfield 128), .inl (.if_icmp .ge (.ofNat 49)), .inl (.iload 4), .inl (.ifCond .le (.ofNat 49)), .inl (.iload 3), .inl (.iload 5), .inl (.invokestatic 108), .inl (.ifCond .eq (.ofNat 47)), .inl (.aload 0), .inl (.iload 5), .inl (.iload 4), .inl (.invokevirtual 62), .inl (.istore 6), .inl (.iload 4), .inl (.iload 6), .inl .isub, .inl (.istore 4), .inl (.iload 1), .inl (.iload 6), .inl .iadd, .inl (.istore 1), .inl (.iinc 5 1), .inl (.goto (.ofNat 23)), .inl (.iinc 2 1), .inl (.goto (.ofNat 4)), .inl (.iload 1), .inl .ireturn]
def pb_X4_payCosts : List Nat := [0, 1, 2, 3, 4, 4, 5, 6, 9, 10, 11, 14, 15, 16, 19, 20, 21, 24, 25, 28, 29, 31, 32, 34, 34, 36, 37, 40, 43, 45, 48, 49, 51, 54, 57, 58, 60, 62, 65, 67, 69, 71, 72, 74, 75, 77, 78, 79, 82, 85, 88, 91, 92]
def cd_X4_takeFrom : List ev_I := [.inl (.iload 2), .inl (.aload 0), .inl (.getfield 136), .inl (.iload 1), .inl .iaload, .inl (.invokestatic 205), .inl (.istore 3), .inl (.aload 0), .inl (.getfield 136), .inl (.iload 1), .inl .dup2, .inl .iaload, .inl (.iload 3), .inl .isub, .inl .iastore, .inl (.iload 3), .inl .ireturn]
def pb_X4_takeFrom : List Nat := [0, 1, 2, 5, 6, 7, 10, 11, 12, 15, 16, 17, 18, 19, 20, 21, 22]
def cd_X5_init : List ev_I := [.inl (.aload 0), .inl .monitorexit, .inl (.aload 0), .inl (.new 4), .inl .dup, .inl (.invokespecial 31), .inl (.putstatic 160), .inl (.aload 0), .inl (.new 4), .inl .dup, .inl (.invokespecial 31), .inl (.putstatic 161), .inl (.aload 0), .inr (.int 2), .inl (.anewarray 4), .inl (.putstatic 162), .inl (.aload 0), .inr (.int 2), .inl (.newarray .boolean), .inl (.putstatic 163), .inl (.aload 0), .inr (.int 4), .inl (.anewarray 2), .inl (.putstatic 164), .inl (.aload 0), .inr (.int 160), .inl (.newarray .byte), .inl (.putstatic 165), .inl (.aload 0), .inl (.new 3), .inl .dup, .inl (.invokespecial 16), .inl (.putstatic 166), .inl (.aload 0), .inl (.new 1), .inl .dup, .inl (.invokespecial 4), .inl (.putstatic 167), .inl (.aload 0), .inl (.new 0), .inl .dup, .inl (.invokespecial 0), .inl (.putstatic 168), .inr (.int 0), .inl (.istore 1), .inl .nop, .inl (.iload 1), .inr (.int 2), .inl (.if_icmp .ge (.ofNat 58)), .inl (.aload 0), .inl (.getfield 162), .inl (.iload 1), .inl (.new 4), .inl .dup, .inl (.invokespecial 31), .inl .aastore, .inl (.iinc 1 1), .inl (.goto (.ofNat 45)), .inr (.int 0), .inl (.istore 1), .inl .nop, .inl (.iload 1), .inr (.int 4), .inl (.if_icmp .ge (.ofNat 73)), .inl (.aload 0), .inl (.getfield 164), .inl (.iload 1), .inl (.new 2), .inl .dup, .inl (.invokespecial 11), .inl .aastore, .inl (.iinc 1 1), .inl (.goto (.ofNat 60)), .inl .return_]
def pb_X5_init : List Nat := [0, 1, 4, 5, 8, 9, 12, 15, 16, 19, 20, 23, 26, 27, 28, 31, 34, 35, 36, 38, 41, 42, 43, 46, 49, 50, 53, 55, 58, 59, 62, 63, 66, 69, 70, 73, 74, 77, 80, 81, 84, 85, 88, 91, 92, 93, 93, 94, 95, 98, 99, 102, 103, 106, 107, 110, 111, 114, 117, 118, 119, 119, 120, 121, 124, 125, 128, 129, 132, 133, 136, 137, 140, 143]
def cd_X5_feed : List ev_I := [.inl (.iload 1), .inl (.ifCond .lt (.ofNat 5)), .inl (.iload 1), .inr (.int 127), .inl (.if_icmp .le (.ofNat 7)), .inr (.int (-1)), .inl .ireturn, .inl (.aload 0), .inl (.getfield 169), .inr (.int 160), .inl (.if_icmp .lt (.ofNat 13)), .inr (.int (-3)), .inl .ireturn, .inl (.aload 0), .inl (.getfield 165), .inl (.aload 0), .inl (.getfield 169), .inl (.iload 1), .inl .i2b, .inl .bastore, .inl (.aload 0), .inl .dup, .inl (.getfield 169), .inr (.int 1), .inl .iadd, .inl (.putfield 169), .inl (.aload 0), .inl (.getfield 169), .inl .ireturn]
def pb_X5_feed : List Nat := [0, 1, 4, 5, 7, 10, 11, 12, 13, 16, 19, 22, 24, 25, 26, 29, 30, 33, 34, 35, 36, 37, 38, 41, 42, 43, 46, 47, 50]
def cd_X5_end : List ev_I := [.inl (.iload 1), .inl (.ifCond .lt (.ofNat 6)), .inl (.iload 1), .inl (.aload 0), .inl (.getfield 169), .inl (.if_icmp .le (.ofNat 8)), .inr (.int (-1)), .inl .ireturn, .inl (.aload 0), .inl (.getfield 169), .inl (.istore 2), .inl (.aload 0), .inl (.iload 1), .inl (.putfield 169), .inl (.iload 2), .inl .ireturn]
def pb_X5_end : List Nat := [0, 1, 4, 5, 6, 9, 12, 13, 14, 15, 18, 19, 20, 21, 24, 25]
def cd_X5_text : List ev_I := [.inl (.aload 0), .inl (.getfield 166), .inl (.aload 0), .inl (.getfield 165), .inl (.aload 0), .inl (.getfield 169), .inl (.aload 0), .inl (.getfield 161), .inl (.invokevirtual 17), .inl (.istore 1), .inl (.aload 0), .inr (.int 0), .inl (.putfield 169), .inl (.aload 0), .inl (.aload 0), .inl (.getfield 166), .inl (.getfield 97), .inl (.putfield 170), .inl (.iload 1), .inl (.ifCond .ne (.ofNat 26)), .inr (.int (-10)), .inl (.aload 0), .inl (.getfield 166), .inl (.getfield 98), .inl .isub, .inl .ireturn, .inl (.aload 0), .inl (.getfield 160), .inl (.aload 0), .inl (.getfield 161), .inl (.invokevirtual 33), .inr (.int 0), .inl (.istore 2), .inl .nop, .inl (.iload 2), .inr (.int 2), .inl (.if_icmp .ge (.ofNat 44)), .inl (.aload 0), .inl (.getfield 163), .inl (.iload 2), .inr (.int 0), .inl .bastore, .inl (.iinc 2 1), .inl (.goto (.ofNat 33)), .inl (.aload 0), .inl (.getfield 166), .inl (.getfield 96), .inl .ireturn]
def pb_X5_text : List Nat := [0, 1, 4, 5, 8, 9, 12, 13, 16, 19, 20, 21, 22, 25, 26, 27, 30, 33, 36, 37, 40, 42, 43, 46, 49, 50, 51, 52, 55, 56, 59, 62, 63, 64, 64, 65, 66, 69, 70, 73, 74, 75, 76, 79, 82, 83, 86, 89]
def cd_X5_fault : List ev_I := [.inl (.aload 0), .inl (.getfield 170), .inl .ireturn]
def pb_X5_fault : List Nat := [0, 1, 4]
def cd_X5_rule : List ev_I := [.inl (.iload 1), .inl (.tableswitch (.ofNat 27) 0 5 #[.ofNat 2, .ofNat 6, .ofNat 10, .ofNat 14, .ofNat 18, .ofNat 22]), .inl (.aload 0), .inl (.getfield 160), .inl (.getfield 128), .inl .ireturn, .inl (.aload 0), .inl (.getfield 160), .inl (.getfield 129), .inl .ireturn, .inl (.aload 0), .inl (.getfield 160), .inl (.getfield 130), .inl .ireturn, .inl (.aload 0), .inl (.getfield 160), .inl (.getfield 131), .inl .ireturn, .inl (.aload 0), .inl (.getfield 160), .inl (.getfield 132), .inl .ireturn, .inl (.aload 0), .inl (.getfield 160), .inr (.int 3), .inl (.invokevirtual 37), .inl .ireturn, .inr (.int (-1)), .inl .ireturn]
def pb_X5_rule : List Nat := [0, 1, 40, 41, 44, 47, 48, 49, 52, 55, 56, 57, 60, 63, 64, 65, 68, 71, 72, 73, 76, 79, 80, 81, 84, 85, 88, 89, 90]
def cd_X5_man : List ev_I := [.inl (.aload 0), .inl (.getfield 160), .inl (.iload 1), .inl (.invokevirtual 35), .inl (.ifCond .ne (.ofNat 7)), .inr (.int (-1)), .inl .ireturn, .inl (.iload 2), .inl (.tableswitch (.ofNat 44) 0 5 #[.ofNat 9, .ofNat 15, .ofNat 21, .ofNat 27, .ofNat 33, .ofNat 39]), .inl (.aload 0), .inl (.getfield 160), .inl (.getfield 134), .inl (.iload 1), .inl .iaload, .inl .ireturn, .inl (.aload 0), .inl (.getfield 160), .inl (.getfield 135), .inl (.iload 1), .inl .iaload, .inl .ireturn, .inl (.aload 0), .inl (.getfield 160), .inl (.getfield 136), .inl (.iload 1), .inl .iaload, .inl .ireturn, .inl (.aload 0), .inl (.getfield 160), .inl (.getfield 137), .inl (.iload 1), .inl .iaload, .inl .ireturn, .inl (.aload 0), .inl (.getfield 160), .inl (.getfield 138), .inl (.iload 1), .inl .iaload, .inl .ireturn, .inl (.aload 0), .inl (.getfield 160), .inl (.iload 1), .inl (.invokevirtual 50), .inl .ireturn, .inr (.int (-1)), .inl .ireturn]
def pb_X5_man : List Nat := [0, 1, 4, 5, 8, 11, 12, 13, 14, 52, 53, 56, 59, 60, 61, 62, 63, 66, 69, 70, 71, 72, 73, 76, 79, 80, 81, 82, 83, 86, 89, 90, 91, 92, 93, 96, 99, 100, 101, 102, 103, 106, 107, 110, 111, 112]
def cd_X5_ten : List ev_I := [.inl (.iload 1), .inl (.invokestatic 106), .inl (.ifCond .ne (.ofNat 5)), .inr (.int (-1)), .inl .ireturn, .inl (.iload 2), .inl (.tableswitch (.ofNat 31) 0 3 #[.ofNat 7, .ofNat 12, .ofNat 18, .ofNat 23]), .inl (.aload 0), .inl (.getfield 160), .inl (.iload 1), .inl (.invokevirtual 38), .inl .ireturn, .inl (.aload 0), .inl (.getfield 160), .inl (.getfield 139), .inl (.iload 1), .inl .iaload, .inl .ireturn, .inl (.aload 0), .inl (.getfield 160), .inl (.iload 1), .inl (.invokevirtual 54), .inl .ireturn, .inl (.aload 0), .inl (.getfield 160), .inl (.aload 0), .inl (.getfield 160), .inl (.iload 1), .inl (.invokevirtual 38), .inl (.invokevirtual 42), .inl .ireturn, .inr (.int (-1)), .inl .ireturn]
def pb_X5_ten : List Nat := [0, 1, 4, 7, 8, 9, 10, 40, 41, 44, 45, 48, 49, 50, 53, 56, 57, 58, 59, 60, 63, 64, 67, 68, 69, 72, 73, 76, 77, 80, 83, 84, 85]
def cd_X5_move : List ev_I := [.inl (.aload 0), .inl (.getfield 160), .inl (.iload 1), .inl (.iload 2), .inl (.invokevirtual 45), .inl (.istore 3), .inl (.iload 3), .inl (.ifCond .eq (.ofNat 10)), .inl (.iload 3), .inl (.goto (.ofNat 15)), .inl (.aload 0), .inl (.getfield 160), .inl (.iload 1), .inl (.iload 2), .inl (.invokevirtual 46), .inl .ireturn]
def pb_X5_move : List Nat := [0, 1, 4, 5, 6, 9, 10, 11, 14, 15, 18, 19, 22, 23, 24, 27]
def cd_X5_leave : List ev_I := [.inl (.aload 0), .inl (.iload 1), .inl (.invokevirtual 102), .inl (.istore 2), .inl (.iload 2), .inl (.ifCond .eq (.ofNat 8)), .inl (.iload 2), .inl .ireturn, .inl (.aload 0), .inl (.getfield 160), .inl (.getfield 137), .inl (.iload 1), .inl .iaload, .inl (.istore 3), .inl (.aload 0), .inl (.getfield 160), .inl (.iload 1), .inl (.invokevirtual 47), .inl (.iload 3), .inl .ireturn]
def pb_X5_leave : List Nat := [0, 1, 2, 5, 6, 7, 10, 11, 12, 13, 16, 19, 20, 21, 22, 23, 26, 27, 30, 31]
def cd_X5_swap : List ev_I := [.inl (.aload 0), .inl (.iload 1), .inl (.iload 2), .inl (.invokevirtual 103), .inl (.ifCond .ne (.ofNat 7)), .inr (.int (-1)), .inl .ireturn, .inl (.aload 0), .inl (.getfield 160), .inl (.iload 1), .inl (.iload 2), .inl (.invokevirtual 48), .inl (.ifCond .ne (.ofNat 15)), .inr (.int (-2)), .inl .ireturn, .inl (.aload 0), .inl (.getfield 160), .inl (.iload 1), .inl (.iload 2), .inl (.invokevirtual 49), .inl (.aload 0), .inl (.getfield 160), .inl (.getfield 137), .inl (.iload 1), .inl .iaload, .inl .ireturn]
def pb_X5_swap : List Nat := [0, 1, 2, 3, 6, 9, 10, 11, 12, 15, 16, 17, 20, 23, 25, 26, 27, 30, 31, 32, 35, 36, 39, 42, 43, 44]
def cd_X5_watch : List ev_I := [.inl (.aload 0), .inl (.iload 1), .inl (.invokevirtual 102), .inl (.istore 3), .inl (.iload 3), .inl (.ifCond .eq (.ofNat 8)), .inl (.iload 3), .inl .ireturn, .inl (.aload 0), .inl (.getfield 160), .inl (.getfield 132), .inl (.iload 1), .inl (.invokestatic 108), .inl (.istore 4), .inl (.aload 0), .inl (.getfield 160), .inl (.aload 0), .inl (.getfield 160), .inl (.getfield 132), .inl (.iload 1), .inl (.iload 2), .inl (.invokestatic 109), .inl (.putfield 132), .inl (.iload 4), .inl .ireturn]
def pb_X5_watch : List Nat := [0, 1, 2, 5, 6, 7, 10, 11, 12, 13, 16, 19, 20, 23, 25, 26, 29, 30, 33, 36, 37, 38, 41, 44, 46]
def cd_X5_kin : List ev_I := [.inl (.aload 0), .inl (.iload 1), .inl (.iload 2), .inl (.invokevirtual 103), .inl (.ifCond .ne (.ofNat 7)), .inr (.int (-1)), .inl .ireturn, .inl (.aload 0), .inl (.getfield 160), .inl (.getfield 138), .inl (.iload 1), .inl .iaload, .inl (.iload 2), .inl (.invokestatic 108), .inl (.istore 4), .inl (.aload 0), .inl (.getfield 160), .inl (.iload 1), .inl (.iload 2), .inl (.iload 3), .inl (.invokevirtual 44), .inl (.iload 4), .inl .ireturn]
def pb_X5_kin : List Nat := [0, 1, 2, 3, 6, 9, 10, 11, 12, 15, 18, 19, 20, 21, 24, 26, 27, 30, 31, 32, 33, 36, 38]
def cd_X5_odd : List ev_I := [.inl (.aload 0), .inl (.getfield 160), .inl (.iload 1), .inl (.invokevirtual 35), .inl (.ifCond .eq (.ofNat 9)), .inl (.iload 2), .inr (.int 9), .inl (.invokestatic 107), .inl (.ifCond .ne (.ofNat 11)), .inr (.int (-1)), .inl .ireturn, .inl (.aload 0), .inl (.getfield 160), .inl (.getfield 134), .inl (.iload 1), .inl .iaload, .inr (.int 2), .inl (.if_icmp .ne (.ofNat 20)), .inr (.int (-2)), .inl .ireturn, .inl (.aload 0), .inl (.getfield 160), .inl (.getfield 135), .inl (.iload 1), .inl .iaload, .inl (.istore 3), .inl (.aload 0), .inl (.getfield 160), .inl (.getfield 135), .inl (.iload 1), .inl (.iload 2), .inl .iastore, .inl (.iload 3), .inl .ireturn]
def pb_X5_odd : List Nat := [0, 1, 4, 5, 8, 11, 12, 14, 17, 20, 21, 22, 23, 26, 29, 30, 31, 32, 35, 37, 38, 39, 42, 45, 46, 47, 48, 49, 52, 55, 56, 57, 58, 59]
def cd_X5_law : List ev_I := [.inl (.iload 1), .inl (.ifCond .ne (.ofNat 16)), .inl (.iload 2), .inr (.int 99), .inl (.invokestatic 107), .inl (.ifCond .eq (.ofNat 16)), .inl (.aload 0), .inl (.getfield 160), .inl (.getfield 129), .inl (.istore 3), .inl (.aload 0), .inl (.getfield 160), .inl (.iload 2), .inl (.putfield 129), .inl (.iload 3), .inl .ireturn, .inl (.iload 1), .inr (.int 1), .inl (.if_icmp .ne (.ofNat 33)), .inl (.iload 2), .inr (.int 9), .inl (.invokestatic 107), .inl (.ifCond .eq (.ofNat 33)), .inl (.aload 0), .inl (.getfield 160), .inl (.getfield 130), .inl (.istore 3), .inl (.aload 0), .inl (.getfield 160), .inl (.iload 2), .inl (.putfield 130), .inl (.iload 3), .inl .ireturn, .inr (.int (-1)), .inl .ireturn]
def pb_X5_law : List Nat := [0, 1, 4, 5, 7, 10, 13, 14, 17, 20, 21, 22, 25, 26, 29, 30, 31, 32, 33, 36, 37, 39, 42, 45, 46, 49, 52, 53, 54, 57, 58, 61, 62, 63, 64]
def cd_X5_goods : List ev_I := [.inl (.aload 0), .inl (.getfield 160), .inl (.iload 1), .inl (.invokevirtual 35), .inl (.ifCond .eq (.ofNat 9)), .inl (.iload 2), .inr (.int 99), .inl (.invokestatic 107), .inl (.ifCond .ne (.ofNat 11)), .inr (.int (-1)), .inl .ireturn, .inl (.aload 0), .inl (.getfield 160), .inl (.getfield 136), .inl (.iload 1), .inl .iaload, .inl (.istore 3), .inl (.aload 0), .inl (.getfield 160), .inl (.getfield 136), .inl (.iload 1), .inl (.iload 2), .inl .iastore, .inl (.iload 3), .inl .ireturn]
def pb_X5_goods : List Nat := [0, 1, 4, 5, 8, 11, 12, 14, 17, 20, 21, 22, 23, 26, 29, 30, 31, 32, 33, 36, 39, 40, 41, 42, 43]
def cd_X5_year : List ev_I := [.inl (.aload 0), .inl (.getfield 160), .inl (.iload 1), .inl (.invokevirtual 57), .inl (.ifCond .ne (.ofNat 7)), .inr (.int (-1)), .inl .ireturn, .inl (.aload 0), .inl (.getfield 160), .inl (.getfield 131), .inr (.int 99), .inl (.if_icmp .lt (.ofNat 14)), .inr (.int (-3)), .inl .ireturn, .inl (.aload 0), .inl (.getfield 160), .inl .dup, .inl (.getfield 131), .inr (.int 1), .inl .iadd, .inl (.putfield 131), .inl (.aload 0), .inl (.getfield 160), .inl (.iload 1), .inl (.invokevirtual 58), .inl .ireturn]
def pb_X5_year : List Nat := [0, 1, 4, 5, 8, 11, 12, 13, 14, 17, 20, 22, 25, 27, 28, 29, 32, 33, 36, 37, 38, 41, 42, 45, 46, 49]
def cd_X5_pays : List ev_I := [.inl (.aload 0), .inl (.getfield 160), .inl (.iload 1), .inl (.invokevirtual 35), .inl (.ifCond .eq (.ofNat 10)), .inl (.aload 0), .inl (.getfield 160), .inl (.iload 2), .inl (.invokevirtual 57), .inl (.ifCond .ne (.ofNat 12)), .inr (.int (-1)), .inl .ireturn, .inl (.aload 0), .inl (.getfield 161), .inl (.aload 0), .inl (.getfield 160), .inl (.invokevirtual 33), .inl (.aload 0), .inl (.iload 1), .inl (.iload 2), .inl (.invokevirtual 104), .inl .ireturn]
def pb_X5_pays : List Nat := [0, 1, 4, 5, 8, 11, 12, 15, 16, 19, 22, 23, 24, 25, 28, 29, 32, 35, 36, 37, 38, 41]
def cd_X5_harm : List ev_I := [.inl (.aload 0), .inl (.getfield 160), .inl (.invokevirtual 55), .inl .ireturn]
def pb_X5_harm : List Nat := [0, 1, 4, 7]
def cd_X5_calm : List ev_I := [.inl (.iload 1), .inl (.invokestatic 106), .inl (.ifCond .eq (.ofNat 7)), .inl (.iload 2), .inr (.int 1), .inl (.invokestatic 107), .inl (.ifCond .ne (.ofNat 9)), .inr (.long (-1)), .inl .lreturn, .inl (.aload 0), .inl (.getfield 160), .inl (.iload 1), .inl (.invokevirtual 38), .inl (.istore 3), .inl (.aload 0), .inl (.getfield 160), .inl (.iload 3), .inr (.int 0), .inl (.invokevirtual 56), .inl (.iload 3), .inl (.invokestatic 110), .inl (.iload 2), .inl (.invokestatic 111), .inl .lreturn]
def pb_X5_calm : List Nat := [0, 1, 4, 7, 8, 9, 12, 15, 18, 19, 20, 23, 24, 27, 28, 29, 32, 33, 34, 37, 38, 41, 42, 45]
def cd_X5_mean : List ev_I := [.inl (.aload 0), .inl (.getfield 160), .inl (.iload 1), .inl (.invokevirtual 35), .inl (.ifCond .eq (.ofNat 9)), .inl (.iload 2), .inr (.int 1), .inl (.invokestatic 107), .inl (.ifCond .ne (.ofNat 11)), .inr (.long (-1)), .inl .lreturn, .inl (.aload 0), .inl (.getfield 160), .inl (.getfield 137), .inl (.iload 1), .inl .iaload, .inl (.ifCond .ge (.ofNat 19)), .inr (.int 0), .inl (.goto (.ofNat 27)), .inl (.aload 0), .inl (.getfield 160), .inl (.aload 0), .inl (.getfield 160), .inl (.getfield 137), .inl (.iload 1), .inl .iaload, .inl (.invokevirtual 38), .inl (.istore 3), .inl (.aload 0), .inl (.getfield 161), .inl (.aload 0), .inl (.getfield 160), .inl (.invokevirtual 33), .inr (.long 0), .inl (.lstore 4), .inr (.int 0), .inl (.istore 6), .inl .nop, .inl (.iload 6), .inr (.int 256), .inl (.if_icmp .ge (.ofNat 71)), .inl (.iload 6), .inl (.iload 3), .inr (.int (-1)), .inl .ixor, .inl .iand, .inl (.ifCond .ne (.ofNat 53)), .inl (.aload 0), .inl (.getfield 160), .inl (.iload 3), .inl (.iload 6), .inl (.invokevirtual 56), .inl (.goto (.ofNat 54)), .inr (.long 0), .inl (.lstore 7), .inl (.lload 7), .inr (.long 0), .inl .lcmp, .inl (.ifCond .eq (.ofNat 69)), .inl (.lload 4), .inl (.lload 7), .inl (.aload 0), .inl (.iload 1), .inl (.iload 6), .inl (.invokevirtual 104), .inl .i2l, .inl .lmul, .inl .ladd, .inl (.lstore 4), .inl (.iinc 6 1), .inl (.goto (.ofNat 37)), .inl (.lload 4), .inl (.iload 3), .inl (.invokestatic 110), .inl (.iload 2), .inl (.invokestatic 111), .inl .lreturn]
def pb_X5_mean : List Nat := [0, 1, 4, 5, 8, 11, 12, 13, 16, 19, 22, 23, 24, 27, 30, 31, 32, 35, 36, 39, 40, 43, 44, 47, 50, 51, 52, 55, 56, 57, 60, 61, 64, 67, 68, 70, 71, 73, 73, 75, 78, 81, 83, 84, 85, 86, 87, 90, 91, 94, 95, 97, 100, 103, 104, 106, 108, 109, 110, 113, 115, 117, 118, 119, 121, 124, 125, 126, 127, 129, 132, 135, 137, 138, 141, 142, 145]
def cd_X5_best : List ev_I := [.inl (.iload 1), .inl (.ifCond .ne (.ofNat 4)), .inr (.int 0), .inl (.goto (.ofNat 7)), .inl (.iload 1), .inr (.int 10), .inl .isub, .inl (.istore 2), .inl (.iload 1), .inl (.ifCond .lt (.ofNat 17)), .inl (.iload 1), .inl (.ifCond .eq (.ofNat 19)), .inl (.aload 0), .inl (.getfield 160), .inl (.iload 2), .inl (.invokevirtual 35), .inl (.ifCond .ne (.ofNat 19)), .inr (.int (-1)), .inl .ireturn, .inl (.iload 1), .inl (.ifCond .eq (.ofNat 29)), .inl (.aload 0), .inl (.getfield 160), .inl (.getfield 137), .inl (.iload 2), .inl .iaload, .inl (.ifCond .ge (.ofNat 29)), .inr (.int (-4)), .inl .ireturn, .inl (.aload 0), .inl (.getfield 167), .inl (.aload 0), .inl (.getfield 160), .inl (.invokevirtual 5), .inl (.iload 1), .inl (.ifCond .ne (.ofNat 40)), .inl (.aload 0), .inl (.getfield 167), .inl (.getfield 33), .inl (.goto (.ofNat 45)), .inl (.aload 0), .inl (.getfield 167), .inl (.getfield 32), .inl (.iload 2), .inl .iaload, .inl .ireturn]
def pb_X5_best : List Nat := [0, 1, 4, 5, 8, 9, 11, 12, 13, 14, 17, 18, 21, 22, 25, 26, 29, 32, 33, 34, 35, 38, 39, 42, 45, 46, 47, 50, 52, 53, 54, 57, 58, 61, 64, 65, 68, 69, 72, 75, 78, 79, 82, 85, 86, 87]
def cd_X5_change : List ev_I := [.inl (.iload 1), .inr (.int 1), .inl (.invokestatic 107), .inl (.ifCond .ne (.ofNat 6)), .inr (.int (-1)), .inl .ireturn, .inl (.aload 0), .inl (.getfield 161), .inl (.aload 0), .inl (.getfield 160), .inl (.invokevirtual 33), .inl (.aload 0), .inl (.getfield 160), .inl (.invokevirtual 55), .inl (.istore 2), .inr (.int (-4)), .inl (.istore 3), .inr (.int 0), .inl (.istore 4), .inl .nop, .inl (.iload 4), .inl (.aload 0), .inl (.getfield 160), .inl (.getfield 128), .inl (.if_icmp .ge (.ofNat 55)), .inl (.iload 4), .inr (.int 1), .inl .iadd, .inl (.istore 5), .inl .nop, .inl (.iload 5), .inl (.aload 0), .inl (.getfield 160), .inl (.getfield 128), .inl (.if_icmp .ge (.ofNat 53)), .inl (.aload 0), .inl (.iload 4), .inl (.iload 5), .inl (.invokevirtual 105), .inl (.istore 6), .inl (.iload 6), .inl (.iload 2), .inl (.if_icmp .ge (.ofNat 51)), .inl (.iload 6), .inl (.istore 2), .inr (.int 10), .inl (.iload 4), .inl .imul, .inl (.iload 5), .inl .iadd, .inl (.istore 3), .inl (.iinc 5 1), .inl (.goto (.ofNat 29)), .inl (.iinc 4 1), .inl (.goto (.ofNat 19)), .inl (.iload 3), .inr (.int (-4)), .inl (.if_icmp .eq (.ofNat 60)), .inl (.iload 1), .inl (.ifCond .ne (.ofNat 62)), .inl (.iload 3), .inl (.goto (.ofNat 63)), .inl (.iload 2), .inl .ireturn]
def pb_X5_change : List Nat := [0, 1, 2, 5, 8, 9, 10, 11, 14, 15, 18, 21, 22, 25, 28, 29, 31, 32, 33, 35, 35, 37, 38, 41, 44, 47, 49, 50, 51, 53, 53, 55, 56, 59, 62, 65, 66, 68, 70, 73, 75, 77, 78, 81, 83, 84, 86, 88, 89, 91, 92, 93, 96, 99, 102, 105, 106, 108, 111, 112, 115, 116, 119, 120]
def cd_X5_takes : List ev_I := [.inl (.aload 0), .inl (.getfield 160), .inl (.iload 1), .inl (.invokevirtual 35), .inl (.ifCond .ne (.ofNat 7)), .inr (.int (-1)), .inl .ireturn, .inr (.int 10), .inl (.aload 0), .inl (.getfield 160), .inl (.getfield 129), .inl .imul, .inl (.istore 2), .inr (.int (-4)), .inl (.istore 3), .inr (.int 0), .inl (.istore 4), .inl .nop, .inl (.iload 4), .inr (.int 4), .inl (.if_icmp .ge (.ofNat 59)), .inl (.iload 4), .inl (.aload 0), .inl (.getfield 160), .inl (.getfield 137), .inl (.iload 1), .inl .iaload, .inl (.if_icmp .eq (.ofNat 57)), .inl (.aload 0), .inl (.getfield 160), .inl (.iload 1), .inl (.iload 4), .inl (.invokevirtual 45), .inl (.ifCond .ne (.ofNat 57)), .inl (.aload 0), .inl (.getfield 161), .inl (.aload 0), .inl (.getfield 160), .inl (.invokevirtual 33), .inl (.aload 0), .inl (.getfield 161), .inl (.iload 1), .inl (.iload 4), .inl (.invokevirtual 46), .inl .pop, .inl (.aload 0), .inl (.getfield 161), .inl (.iload 4), .inl (.invokevirtual 54), .inl (.istore 5), .inl (.iload 5), .inl (.iload 2), .inl (.if_icmp .ge (.ofNat 57)), .inl (.iload 5), .inl (.istore 2), .inl (.iload 4), .inl (.istore 3), .inl (.iinc 4 1), .inl (.goto (.ofNat 17)), .inl (.iload 3), .inl .ireturn]
def pb_X5_takes : List Nat := [0, 1, 4, 5, 8, 11, 12, 13, 15, 16, 19, 22, 23, 24, 26, 27, 28, 30, 30, 32, 33, 36, 38, 39, 42, 45, 46, 47, 50, 51, 54, 55, 57, 60, 63, 64, 67, 68, 71, 74, 75, 78, 79, 81, 84, 85, 86, 89, 91, 94, 96, 98, 99, 102, 104, 105, 107, 108, 111, 114, 115]
def cd_X5_weight : List ev_I := [.inl (.aload 0), .inl (.iload 1), .inl (.invokevirtual 102), .inl (.istore 2), .inl (.iload 2), .inl (.ifCond .eq (.ofNat 8)), .inl (.iload 2), .inl .ireturn, .inl (.aload 0), .inl (.getfield 160), .inl (.getfield 137), .inl (.iload 1), .inl .iaload, .inl (.istore 3), .inl (.aload 0), .inl (.getfield 161), .inl (.aload 0), .inl (.getfield 160), .inl (.invokevirtual 33), .inl (.aload 0), .inl (.getfield 161), .inl (.iload 1), .inl (.invokevirtual 47), .inr (.int 1000), .inl (.aload 0), .inl (.getfield 160), .inl (.iload 3), .inl (.invokevirtual 54), .inl .iadd, .inl (.aload 0), .inl (.getfield 161), .inl (.iload 3), .inl (.invokevirtual 54), .inl .isub, .inl .ireturn]
def pb_X5_weight : List Nat := [0, 1, 2, 5, 6, 7, 10, 11, 12, 13, 16, 19, 20, 21, 22, 23, 26, 27, 30, 33, 34, 37, 38, 41, 44, 45, 48, 49, 52, 53, 54, 57, 58, 61, 62]
def cd_X5_should : List ev_I := [.inl (.aload 0), .inl (.iload 1), .inl (.invokevirtual 102), .inl (.istore 2), .inl (.iload 2), .inl (.ifCond .eq (.ofNat 8)), .inl (.iload 2), .inl .ireturn, .inl (.aload 0), .inl (.getfield 160), .inl (.invokevirtual 55), .inl (.istore 3), .inl (.aload 0), .inl (.getfield 161), .inl (.aload 0), .inl (.getfield 160), .inl (.invokevirtual 33), .inl (.aload 0), .inl (.getfield 161), .inl .dup, .inl (.getfield 132), .inr (.int 1), .inl (.iload 1), .inl .ishl, .inl .ixor, .inl (.putfield 132), .inl (.aload 0), .inl (.getfield 161), .inl (.invokevirtual 55), .inl (.istore 4), .inl (.aload 0), .inl (.getfield 161), .inl (.iload 1), .inl (.invokevirtual 47), .inl (.aload 0), .inl (.getfield 161), .inl (.invokevirtual 55), .inl (.istore 5), .inl (.iload 3), .inl (.iload 4), .inl (.if_icmp .gt (.ofNat 46)), .inl (.iload 3), .inl (.iload 5), .inl (.if_icmp .gt (.ofNat 46)), .inr (.int 0), .inl .ireturn, .inl (.iload 4), .inl (.iload 5), .inl (.if_icmp .gt (.ofNat 51)), .inr (.int 1), .inl (.goto (.ofNat 52)), .inr (.int 2), .inl .ireturn]
def pb_X5_should : List Nat := [0, 1, 2, 5, 6, 7, 10, 11, 12, 13, 16, 19, 20, 21, 24, 25, 28, 31, 32, 35, 36, 39, 40, 41, 42, 43, 46, 47, 50, 53, 55, 56, 59, 60, 63, 64, 67, 70, 72, 73, 75, 78, 79, 81, 84, 85, 86, 88, 90, 93, 94, 97, 98]
def cd_X5_guard : List ev_I := [.inl (.iload 1), .inr (.int 1), .inl (.invokestatic 107), .inl (.ifCond .ne (.ofNat 6)), .inr (.int (-1)), .inl .ireturn, .inr (.int 0), .inl (.istore 2), .inr (.int 0), .inl (.istore 3), .inl .nop, .inl (.iload 3), .inl (.aload 0), .inl (.getfield 160), .inl (.getfield 128), .inl (.if_icmp .ge (.ofNat 35)), .inl (.iload 2), .inl (.iload 3), .inl (.aload 0), .inl (.getfield 160), .inl (.iload 3), .inl (.invokevirtual 53), .inr (.int 10), .inl (.aload 0), .inl (.getfield 160), .inl (.getfield 130), .inl .imul, .inl (.if_icmp .le (.ofNat 30)), .inr (.int 1), .inl (.goto (.ofNat 31)), .inr (.int 0), .inl (.invokestatic 109), .inl (.istore 2), .inl (.iinc 3 1), .inl (.goto (.ofNat 10)), .inl (.iload 1), .inl (.ifCond .ne (.ofNat 39)), .inl (.iload 2), .inl .ireturn, .inl (.aload 0), .inl (.getfield 161), .inl (.aload 0), .inl (.getfield 160), .inl (.invokevirtual 33), .inl (.aload 0), .inl (.getfield 161), .inl (.iload 2), .inl (.putfield 132), .inl (.aload 0), .inl (.getfield 161), .inl (.invokevirtual 55), .inl .ireturn]
def pb_X5_guard : List Nat := [0, 1, 2, 5, 8, 9, 10, 11, 12, 13, 14, 14, 15, 16, 19, 22, 25, 26, 27, 28, 31, 32, 35, 37, 38, 41, 44, 45, 48, 49, 52, 53, 56, 57, 60, 63, 64, 67, 68, 69, 70, 73, 74, 77, 80, 81, 84, 85, 88, 89, 92, 95]
def cd_X5_worth : List ev_I := [.inl (.aload 0), .inl (.iload 1), .inl (.invokevirtual 102), .inl (.istore 2), .inl (.iload 2), .inl (.ifCond .eq (.ofNat 8)), .inl (.iload 2), .inl .ireturn, .inl (.aload 0), .inl (.getfield 160), .inl (.iload 1), .inl (.invokevirtual 53), .inl (.istore 3), .inr (.int 9), .inl (.istore 4), .inl .nop, .inl (.iload 4), .inl (.ifCond .lt (.ofNat 27)), .inl (.iload 3), .inr (.int 10), .inl (.iload 4), .inl .imul, .inl (.if_icmp .le (.ofNat 25)), .inl (.iload 4), .inl .ireturn, .inl (.iinc 4 (-1)), .inl (.goto (.ofNat 15)), .inr (.int (-4)), .inl .ireturn]
def pb_X5_worth : List Nat := [0, 1, 2, 5, 6, 7, 10, 11, 12, 13, 16, 17, 20, 21, 23, 25, 25, 27, 30, 31, 33, 35, 36, 39, 41, 42, 45, 48, 50]
def cd_X5_see : List ev_I := [.inl (.aload 0), .inl (.getfield 160), .inl (.iload 1), .inl (.invokevirtual 35), .inl (.ifCond .eq (.ofNat 9)), .inl (.iload 2), .inr (.int 99), .inl (.invokestatic 107), .inl (.ifCond .ne (.ofNat 11)), .inr (.int (-1)), .inl .ireturn, .inl (.aload 0), .inl (.getfield 160), .inl (.getfield 133), .inr (.int 6), .inl (.if_icmp .lt (.ofNat 18)), .inr (.int (-3)), .inl .ireturn, .inl (.aload 0), .inl (.getfield 160), .inl (.getfield 140), .inl (.aload 0), .inl (.getfield 160), .inl (.getfield 133), .inl (.iload 1), .inl .iastore, .inl (.aload 0), .inl (.getfield 160), .inl (.getfield 141), .inl (.aload 0), .inl (.getfield 160), .inl (.getfield 133), .inl (.iload 2), .inl .iastore, .inl (.aload 0), .inl (.getfield 160), .inl .dup, .inl (.getfield 133), .inr (.int 1), .inl .iadd, .inl (.putfield 133), .inl (.aload 0), .inl (.getfield 160), .inl (.getfield 133), .inl .ireturn]
def pb_X5_see : List Nat := [0, 1, 4, 5, 8, 11, 12, 14, 17, 20, 21, 22, 23, 26, 29, 31, 34, 36, 37, 38, 41, 44, 45, 48, 51, 52, 53, 54, 57, 60, 61, 64, 67, 68, 69, 70, 73, 74, 77, 78, 79, 82, 83, 86, 89]
def cd_X5_forget : List ev_I := [.inl (.iload 1), .inl (.ifCond .lt (.ofNat 7)), .inl (.iload 1), .inl (.aload 0), .inl (.getfield 160), .inl (.getfield 133), .inl (.if_icmp .le (.ofNat 9)), .inr (.int (-1)), .inl .ireturn, .inl (.aload 0), .inl (.getfield 160), .inl (.getfield 133), .inl (.istore 2), .inl (.aload 0), .inl (.getfield 160), .inl (.iload 1), .inl (.putfield 133), .inl (.iload 2), .inl .ireturn]
def pb_X5_forget : List Nat := [0, 1, 4, 5, 6, 9, 12, 15, 16, 17, 18, 21, 24, 25, 26, 29, 30, 33, 34]
def cd_X5_fits : List ev_I := [.inl (.iload 1), .inr (.int 4), .inl (.invokestatic 107), .inl (.ifCond .ne (.ofNat 6)), .inr (.int (-1)), .inl .ireturn, .inl (.aload 0), .inl (.getfield 168), .inl (.aload 0), .inl (.getfield 160), .inl (.aload 0), .inl (.getfield 161), .inl (.invokevirtual 1), .inl (.iload 1), .inl (.ifCond .ne (.ofNat 19)), .inl (.aload 0), .inl (.getfield 168), .inl (.getfield 0), .inl .ireturn, .inl (.aload 0), .inl (.getfield 168), .inl (.getfield 0), .inl (.ifCond .ne (.ofNat 25)), .inr (.int (-4)), .inl .ireturn, .inl (.iload 1), .inl (.tableswitch (.ofNat 52) 1 3 #[.ofNat 27, .ofNat 31, .ofNat 35]), .inl (.aload 0), .inl (.getfield 168), .inl (.getfield 1), .inl .ireturn, .inl (.aload 0), .inl (.getfield 168), .inl (.getfield 2), .inl .ireturn, .inl (.aload 0), .inl (.getfield 160), .inl (.invokevirtual 36), .inl (.aload 0), .inl (.getfield 160), .inr (.int 2), .inl (.invokevirtual 37), .inr (.int (-1)), .inl .ixor, .inl .iand, .inl (.aload 0), .inl (.getfield 168), .inl (.getfield 3), .inr (.int (-1)), .inl .ixor, .inl .iand, .inl .ireturn, .inl (.aload 0), .inl (.getfield 168), .inl (.getfield 4), .inl .ireturn]
def pb_X5_fits : List Nat := [0, 1, 2, 5, 8, 9, 10, 11, 14, 15, 18, 19, 22, 25, 26, 29, 30, 33, 36, 37, 38, 41, 44, 47, 49, 50, 51, 76, 77, 80, 83, 84, 85, 88, 91, 92, 93, 96, 99, 100, 103, 104, 107, 108, 109, 110, 111, 114, 117, 118, 119, 120, 121, 122, 125, 128]
def cd_X5_drift : List ev_I := [.inl (.iload 2), .inr (.int 1), .inl (.if_icmp .lt (.ofNat 10)), .inl (.iload 2), .inr (.int 60), .inl (.if_icmp .gt (.ofNat 10)), .inl (.iload 3), .inr (.int 1), .inl (.invokestatic 107), .inl (.ifCond .ne (.ofNat 12)), .inr (.int (-1)), .inl .ireturn, .inl (.aload 0), .inl (.getfield 161), .inl (.aload 0), .inl (.getfield 160), .inl (.invokevirtual 33), .inl (.iload 1), .inl (.istore 4), .inr (.int 0), .inl (.istore 5), .inr (.int 0), .inl (.istore 6), .inl .nop, .inl (.iload 6), .inl (.iload 2), .inl (.if_icmp .ge (.ofNat 75)), .inr (.int 0), .inl (.istore 7), .inr (.int 0), .inl (.istore 8), .inl .nop, .inl (.iload 8), .inl (.aload 0), .inl (.getfield 160), .inl (.getfield 128), .inl (.if_icmp .ge (.ofNat 66)), .inl (.iload 4), .inr (.int 1103515245), .inl .imul, .inr (.int 12345), .inl .iadd, .inl (.istore 4), .inl (.iload 4), .inr (.int 16), .inl .iushr, .inr (.int 32767), .inl .iand, .inr (.int 10), .inl .irem, .inl (.istore 9), .inl (.iload 7), .inl (.iload 8), .inl (.iload 9), .inl (.aload 0), .inl (.getfield 160), .inl (.iload 8), .inl (.invokevirtual 50), .inl (.if_icmp .ge (.ofNat 61)), .inr (.int 1), .inl (.goto (.ofNat 62)), .inr (.int 0), .inl (.invokestatic 109), .inl (.istore 7), .inl (.iinc 8 1), .inl (.goto (.ofNat 31)), .inl (.iload 5), .inl (.aload 0), .inl (.getfield 161), .inl (.iload 7), .inl (.invokevirtual 58), .inl .iadd, .inl (.istore 5), .inl (.iinc 6 1), .inl (.goto (.ofNat 23)), .inl (.iload 3), .inl (.ifCond .ne (.ofNat 79)), .inl (.iload 5), .inl (.goto (.ofNat 85)), .inl (.aload 0), .inl (.getfield 161), .inl (.aload 0), .inl (.getfield 161), .inl (.invokevirtual 36), .inl (.invokevirtual 42), .inl .ireturn]
def pb_X5_drift : List Nat := [0, 1, 2, 5, 6, 8, 11, 12, 13, 16, 19, 20, 21, 22, 25, 26, 29, 32, 33, 35, 36, 38, 39, 41, 41, 43, 44, 47, 48, 50, 51, 53, 53, 55, 56, 59, 62, 65, 67, 69, 70, 73, 74, 76, 78, 80, 81, 84, 85, 87, 88, 90, 92, 94, 96, 97, 100, 102, 105, 108, 109, 112, 113, 116, 118, 121, 124, 126, 127, 130, 132, 135, 136, 138, 141, 144, 145, 148, 150, 153, 154, 157, 158, 161, 164, 167]
def cd_X5_keep : List ev_I := [.inl (.iload 1), .inr (.int 1), .inl (.invokestatic 107), .inl (.ifCond .ne (.ofNat 6)), .inr (.int (-1)), .inl .ireturn, .inl (.aload 0), .inl (.getfield 163), .inl (.iload 1), .inl .baload, .inl (.ifCond .eq (.ofNat 13)), .inr (.int 1), .inl (.goto (.ofNat 14)), .inr (.int 0), .inl (.istore 2), .inl (.aload 0), .inl (.getfield 162), .inl (.iload 1), .inl .aaload, .inl (.aload 0), .inl (.getfield 160), .inl (.invokevirtual 33), .inl (.aload 0), .inl (.getfield 163), .inl (.iload 1), .inr (.int 1), .inl .bastore, .inl (.iload 2), .inl .ireturn]
def pb_X5_keep : List Nat := [0, 1, 2, 5, 8, 9, 10, 11, 14, 15, 16, 19, 20, 23, 24, 25, 26, 29, 30, 31, 32, 35, 38, 39, 42, 43, 44, 45, 46]
def cd_X5_back : List ev_I := [.inl (.iload 1), .inr (.int 1), .inl (.invokestatic 107), .inl (.ifCond .ne (.ofNat 6)), .inr (.int (-1)), .inl .ireturn, .inl (.aload 0), .inl (.getfield 163), .inl (.iload 1), .inl .baload, .inl (.ifCond .ne (.ofNat 13)), .inr (.int (-2)), .inl .ireturn, .inl (.aload 0), .inl (.getfield 160), .inl (.aload 0), .inl (.getfield 162), .inl (.iload 1), .inl .aaload, .inl (.invokevirtual 33), .inl (.aload 0), .inl (.getfield 160), .inl (.getfield 131), .inl .ireturn]
def pb_X5_back : List Nat := [0, 1, 2, 5, 8, 9, 10, 11, 14, 15, 16, 19, 21, 22, 23, 26, 27, 30, 31, 32, 35, 36, 39, 42]
def cd_X5_sheet : List ev_I := [.inl (.iload 1), .inr (.int 3), .inl (.invokestatic 107), .inl (.ifCond .eq (.ofNat 11)), .inl (.iload 2), .inr (.int 2), .inl (.invokestatic 107), .inl (.ifCond .eq (.ofNat 11)), .inl (.iload 3), .inr (.int 40), .inl (.if_icmp .le (.ofNat 13)), .inr (.int (-1)), .inl .ireturn, .inl (.iload 3), .inl (.ifCond .ge (.ofNat 17)), .inr (.int (-14)), .inl .ireturn, .inl (.aload 0), .inl (.getfield 164), .inl (.iload 1), .inl .aaload, .inl (.iload 2), .inl (.iload 3), .inl (.invokevirtual 12), .inr (.int 1), .inl .ireturn]
def pb_X5_sheet : List Nat := [0, 1, 2, 5, 8, 9, 10, 13, 16, 17, 19, 22, 23, 24, 25, 28, 30, 31, 32, 35, 36, 37, 38, 39, 42, 43]
def cd_X5_lay : List ev_I := [.inl (.iload 1), .inr (.int 3), .inl (.invokestatic 107), .inl (.ifCond .ne (.ofNat 6)), .inr (.int (-1)), .inl .ireturn, .inl (.aload 0), .inl (.getfield 164), .inl (.iload 1), .inl .aaload, .inl (.astore 4), .inl (.aload 4), .inl (.aload 4), .inl (.getfield 64), .inl (.iload 2), .inl (.invokevirtual 14), .inl (.istore 5), .inl (.iload 5), .inl (.ifCond .eq (.ofNat 23)), .inr (.int (-10)), .inl (.iload 5), .inl .isub, .inl .ireturn, .inl (.aload 4), .inl (.iload 2), .inl (.iload 3), .inl (.invokevirtual 13), .inr (.int 1), .inl .ireturn]
def pb_X5_lay : List Nat := [0, 1, 2, 5, 8, 9, 10, 11, 14, 15, 16, 18, 20, 22, 25, 26, 29, 31, 33, 36, 38, 40, 41, 42, 44, 45, 46, 49, 50]
def cd_X5_read : List ev_I := [.inl (.iload 1), .inr (.int 3), .inl (.invokestatic 107), .inl (.ifCond .eq (.ofNat 12)), .inl (.iload 2), .inr (.int 2), .inl (.invokestatic 107), .inl (.ifCond .eq (.ofNat 12)), .inl (.iload 4), .inr (.int 20), .inl (.invokestatic 107), .inl (.ifCond .ne (.ofNat 14)), .inr (.int (-1)), .inl .ireturn, .inl (.aload 0), .inl (.getfield 161), .inl (.aload 0), .inl (.getfield 160), .inl (.invokevirtual 33), .inl (.aload 0), .inl (.getfield 164), .inl (.iload 1), .inl .aaload, .inl (.astore 5), .inr (.int 0), .inl (.istore 6), .inr (.int 0), .inl (.istore 7), .inr (.int 0), .inl (.istore 8), .inl .nop, .inl (.iload 8), .inl (.iload 4), .inl (.if_icmp .ge (.ofNat 84)), .inl (.iload 6), .inl (.ifCond .ne (.ofNat 84)), .inl (.iload 3), .inr (.int 2), .inl (.iload 8), .inl .imul, .inl .iadd, .inl (.istore 9), .inl (.aload 5), .inl (.iload 2), .inl (.iload 9), .inl (.invokevirtual 15), .inl (.istore 6), .inl (.iload 6), .inl (.ifCond .ne (.ofNat 82)), .inl (.aload 0), .inl (.getfield 161), .inl (.aload 5), .inl (.getfield 66), .inl (.iload 9), .inl .iaload, .inl (.aload 5), .inl (.getfield 66), .inl (.iload 9), .inr (.int 1), .inl .iadd, .inl .iaload, .inl (.invokevirtual 45), .inl (.ifCond .eq (.ofNat 67)), .inr (.int (-20)), .inl (.iload 8), .inl .isub, .inl .ireturn, .inl (.aload 0), .inl (.getfield 161), .inl (.aload 5), .inl (.getfield 66), .inl (.iload 9), .inl .iaload, .inl (.aload 5), .inl (.getfield 66), .inl (.iload 9), .inr (.int 1), .inl .iadd, .inl .iaload, .inl (.invokevirtual 46), .inl .pop, .inl (.iinc 7 1), .inl (.iinc 8 1), .inl (.goto (.ofNat 30)), .inl (.aload 0), .inl (.getfield 160), .inl (.aload 0), .inl (.getfield 161), .inl (.invokevirtual 33), .inl (.aload 0), .inl (.iload 6), .inl (.putfield 171), .inl (.iload 7), .inl .ireturn]
def pb_X5_read : List Nat := [0, 1, 2, 5, 8, 9, 10, 13, 16, 18, 20, 23, 26, 27, 28, 29, 32, 33, 36, 39, 40, 43, 44, 45, 47, 48, 50, 51, 53, 54, 56, 56, 58, 60, 63, 65, 68, 69, 70, 72, 73, 74, 76, 78, 79, 81, 84, 86, 88, 91, 92, 95, 97, 100, 102, 103, 105, 108, 110, 111, 112, 113, 116, 119, 121, 123, 124, 125, 126, 129, 131, 134, 136, 137, 139, 142, 144, 145, 146, 147, 150, 151, 154, 157, 160, 161, 164, 165, 168, 171, 172, 174, 177, 179]
def cd_X5_torn : List ev_I := [.inl (.aload 0), .inl (.getfield 171), .inl .ireturn]
def pb_X5_torn : List Nat := [0, 1, 4]
def cd_X5_count : List ev_I := [.inl (.iload 1), .inl (.tableswitch (.ofNat 54) 0 6 #[.ofNat 2, .ofNat 12, .ofNat 16, .ofNat 23, .ofNat 27, .ofNat 45, .ofNat 48]), .inl (.aload 0), .inl (.getfield 160), .inl (.getfield 128), .inl (.aload 0), .inl (.getfield 160), .inr (.int 3), .inl (.invokevirtual 37), .inl (.invokestatic 204), .inl .isub, .inl .ireturn, .inl (.aload 0), .inl (.getfield 160), .inl (.invokevirtual 40), .inl .ireturn, .inl (.aload 0), .inl (.getfield 160), .inl (.aload 0), .inl (.getfield 160), .inl (.invokevirtual 36), .inl (.invokevirtual 42), .inl .ireturn, .inl (.aload 0), .inl (.getfield 160), .inl (.getfield 133), .inl .ireturn, .inl (.aload 0), .inl (.getfield 163), .inr (.int 0), .inl .baload, .inl (.ifCond .eq (.ofNat 34)), .inr (.int 1), .inl (.goto (.ofNat 35)), .inr (.int 0), .inl (.aload 0), .inl (.getfield 163), .inr (.int 1), .inl .baload, .inl (.ifCond .eq (.ofNat 42)), .inr (.int 1), .inl (.goto (.ofNat 43)), .inr (.int 0), .inl .iadd, .inl .ireturn, .inl (.aload 0), .inl (.getfield 169), .inl .ireturn, .inl (.aload 0), .inl (.getfield 164), .inr (.int 0), .inl .aaload, .inl (.getfield 65), .inl .ireturn, .inr (.int (-1)), .inl .ireturn]
def pb_X5_count : List Nat := [0, 1, 44, 45, 48, 51, 52, 55, 56, 59, 62, 63, 64, 65, 68, 71, 72, 73, 76, 77, 80, 83, 86, 87, 88, 91, 94, 95, 96, 99, 100, 101, 104, 105, 108, 109, 110, 113, 114, 115, 118, 119, 122, 123, 124, 125, 126, 129, 130, 131, 134, 135, 136, 139, 140, 141]
def cd_X5_refusalInTen : List ev_I := [.inl (.aload 0), .inl (.getfield 160), .inl (.iload 1), .inl (.invokevirtual 35), .inl (.ifCond .ne (.ofNat 7)), .inr (.int (-1)), .inl .ireturn, .inl (.aload 0), .inl (.getfield 160), .inl (.getfield 137), .inl (.iload 1), .inl .iaload, .inl (.ifCond .ge (.ofNat 15)), .inr (.int (-2)), .inl (.goto (.ofNat 16)), .inr (.int 0), .inl .ireturn]
def pb_X5_refusalInTen : List Nat := [0, 1, 4, 5, 8, 11, 12, 13, 14, 17, 20, 21, 22, 25, 27, 30, 31]
def cd_X5_isPair : List ev_I := [.inl (.aload 0), .inl (.getfield 160), .inl (.iload 1), .inl (.invokevirtual 35), .inl (.ifCond .eq (.ofNat 15)), .inl (.aload 0), .inl (.getfield 160), .inl (.iload 2), .inl (.invokevirtual 35), .inl (.ifCond .eq (.ofNat 15)), .inl (.iload 1), .inl (.iload 2), .inl (.if_icmp .eq (.ofNat 15)), .inr (.int 1), .inl (.goto (.ofNat 16)), .inr (.int 0), .inl (.ret 0)]
def pb_X5_isPair : List Nat := [0, 1, 4, 5, 8, 11, 12, 15, 16, 19, 22, 23, 24, 27, 28, 31, 32]
def cd_X5_finesOnTrial : List ev_I := [.inl (.aload 0), .inl (.getfield 161), .inl (.aload 0), .inl (.getfield 160), .inl (.invokevirtual 34), .inl (.aload 0), .inl (.getfield 161), .inl (.iload 2), .inl (.invokevirtual 59), .inl .pop, .inl (.aload 0), .inl (.getfield 160), .inl (.getfield 136), .inl (.iload 1), .inl .iaload, .inl (.aload 0), .inl (.getfield 161), .inl (.getfield 136), .inl (.iload 1), .inl .iaload, .inl .isub, .inl .ireturn]
def pb_X5_finesOnTrial : List Nat := [0, 1, 4, 5, 8, 11, 12, 15, 16, 19, 20, 21, 24, 27, 28, 29, 30, 33, 36, 37, 38, 39]
def cd_X5_harmBySwap : List ev_I := [.inl (.aload 0), .inl (.getfield 161), .inl (.iload 1), .inl (.iload 2), .inl (.invokevirtual 48), .inl (.ifCond .ne (.ofNat 8)), .inr (.int 1000000), .inl .ireturn, .inl (.aload 0), .inl (.getfield 161), .inl (.iload 1), .inl (.iload 2), .inl (.invokevirtual 49), .inl (.aload 0), .inl (.getfield 161), .inl (.invokevirtual 55), .inl (.istore 3), .inl (.aload 0), .inl (.getfield 161), .inl (.iload 1), .inl (.iload 2), .inl (.invokevirtual 49), .inl (.iload 3), .inl .ireturn]
def pb_X5_harmBySwap : List Nat := [0, 1, 4, 5, 6, 9, 12, 15, 16, 17, 20, 21, 22, 25, 26, 29, 32, 33, 34, 37, 38, 39, 42, 43]
def cd_X5_isTen : List ev_I := [.inl (.iload 0), .inl (.ifCond .lt (.ofNat 7)), .inl (.iload 0), .inr (.int 4), .inl (.if_icmp .ge (.ofNat 7)), .inr (.int 1), .inl (.goto (.ofNat 8)), .inr (.int 0), .inl (.ret 0)]
def pb_X5_isTen : List Nat := [0, 1, 4, 5, 6, 9, 10, 13, 14]
def cd_X5_isWithin : List ev_I := [.inl (.iload 0), .inl (.ifCond .lt (.ofNat 7)), .inl (.iload 0), .inl (.iload 1), .inl (.if_icmp .gt (.ofNat 7)), .inr (.int 1), .inl (.goto (.ofNat 8)), .inr (.int 0), .inl (.ret 0)]
def pb_X5_isWithin : List Nat := [0, 1, 4, 5, 6, 9, 10, 13, 14]
def cd_X5_bitOf : List ev_I := [.inl (.iload 0), .inl (.iload 1), .inl .ishr, .inr (.int 1), .inl .iand, .inl .ireturn]
def pb_X5_bitOf : List Nat := [0, 1, 2, 3, 4, 5]
def cd_X5_withBit : List ev_I := [.inl (.iload 2), .inl (.ifCond .eq (.ofNat 8)), .inl (.iload 0), .inr (.int 1), .inl (.iload 1), .inl .ishl, .inl .ior, .inl (.goto (.ofNat 15)), .inl (.iload 0), .inr (.int 1), .inl (.iload 1), .inl .ishl, .inr (.int (-1)), .inl .ixor, .inl .iand, .inl .ireturn]
def pb_X5_withBit : List Nat := [0, 1, 4, 5, 6, 7, 8, 9, 12, 13, 14, 15, 16, 17, 18, 19]
def cd_X5_tenthsOf : List ev_I := [.inr (.long 1), .inl (.lstore 1), .inl (.iload 0), .inl (.invokestatic 204), .inl (.istore 3), .inl .nop, .inl (.iload 3), .inl (.ifCond .le (.ofNat 14)), .inl (.lload 1), .inr (.long 10), .inl .lmul, .inl (.lstore 1), .inl (.iinc 3 (-1)), .inl (.goto (.ofNat 5)), .inl (.lload 1), .inl .lreturn]
def pb_X5_tenthsOf : List Nat := [0, 1, 2, 3, 6, 7, 7, 8, 11, 12, 15, 16, 17, 20, 23, 24]
def cd_X5_inLowestTerms : List ev_I := [.inl (.lload 0), .inl (.lload 2), .inl (.invokestatic 112), .inl (.lstore 5), .inl (.lload 5), .inr (.long 0), .inl .lcmp, .inl (.ifCond .gt (.ofNat 10)), .inr (.long (-1)), .inl .lreturn, .inl (.iload 4), .inl (.ifCond .ne (.ofNat 16)), .inl (.lload 0), .inl (.lload 5), .inl .ldiv, .inl (.goto (.ofNat 19)), .inl (.lload 2), .inl (.lload 5), .inl .ldiv, .inl .lreturn]
def pb_X5_inLowestTerms : List Nat := [0, 1, 2, 5, 7, 9, 10, 11, 14, 17, 18, 20, 23, 24, 26, 27, 30, 31, 33, 34]
def cd_X5_greatestCommon : List ev_I := [.inl (.lload 0), .inl (.lstore 4), .inl (.lload 2), .inl (.lstore 6), .inr (.int 0), .inl (.istore 8), .inl .nop, .inl (.iload 8), .inr (.int 200), .inl (.if_icmp .ge (.ofNat 24)), .inl (.lload 6), .inr (.long 0), .inl .lcmp, .inl (.ifCond .eq (.ofNat 24)), .inl (.lload 4), .inl (.lload 6), .inl .lrem, .inl (.lstore 9), .inl (.lload 6), .inl (.lstore 4), .inl (.lload 9), .inl (.lstore 6), .inl (.iinc 8 1), .inl (.goto (.ofNat 6)), .inl (.lload 4), .inl .lreturn]
def pb_X5_greatestCommon : List Nat := [0, 1, 3, 4, 6, 7, 9, 9, 11, 14, 17, 19, 20, 21, 24, 26, 28, 29, 31, 33, 35, 37, 39, 42, 45, 47]
def cd_X6_init : List ev_I := [.inl (.aload 0), .inl .monitorexit, .inl (.aload 0), .inr (.int 171), .inl (.newarray .int), .inl (.putstatic 192), .inl (.aload 0), .inr (.int 57), .inl (.newarray .int), .inl (.putstatic 193), .inl (.aload 0), .inr (.int 2), .inl (.newarray .boolean), .inl (.putstatic 194), .inl (.aload 0), .inr (.int 4), .inl (.newarray .int), .inl (.putstatic 196), .inl (.aload 0), .inr (.int 57), .inl (.newarray .int), .inl (.putstatic 197), .inl (.aload 0), .inr (.int 4), .inl (.newarray .int), .inl (.putstatic 199), .inl (.aload 0), .inr (.int 160), .inl (.newarray .int), .inl (.putstatic 203), .inl (.aload 0), .inr (.int 8), .inl (.newarray .int), .inl (.putstatic 211), .inl (.aload 0), .inr (.int 8), .inl (.newarray .int), .inl (.putstatic 212), .inl (.aload 0), .inr (.int 4), .inl (.newarray .int), .inl (.putstatic 213), .inl (.aload 0), .inr (.int 4), .inl (.newarray .int), .inl (.putstatic 214), .inl (.aload 0), .inr (.int 160), .inl (.newarray .int), .inl (.putstatic 215), .inl (.aload 0), .inr (.int 57), .inl (.newarray .int), .inl (.putstatic 217), .inr (.int 0), .inl (.istore 1), .inl .nop, .inl (.iload 1), .inr (.int 4), .inl (.if_icmp .ge (.ofNat 67)), .inl (.aload 0), .inl (.getfield 213), .inl (.iload 1), .inr (.int (-4)), .inl .iastore, .inl (.iinc 1 1), .inl (.goto (.ofNat 56)), .inl (.aload 0), .inl (.invokevirtual 116), .inl (.aload 0), .inl (.invokevirtual 117), .inl .return_]
def pb_X6_init : List Nat := [0, 1, 4, 5, 8, 10, 13, 14, 16, 18, 21, 22, 23, 25, 28, 29, 30, 32, 35, 36, 38, 40, 43, 44, 45, 47, 50, 51, 54, 56, 59, 60, 62, 64, 67, 68, 70, 72, 75, 76, 77, 79, 82, 83, 84, 86, 89, 90, 93, 95, 98, 99, 101, 103, 106, 107, 108, 108, 109, 110, 113, 114, 117, 118, 120, 121, 124, 127, 128, 131, 132, 135]
def cd_X6_in : List ev_I := [.inl (.lload 0), .inl (.lload 2), .inl .lcmp, .inl (.ifCond .lt (.ofNat 10)), .inl (.lload 0), .inl (.lload 4), .inl .lcmp, .inl (.ifCond .gt (.ofNat 10)), .inr (.int 1), .inl (.goto (.ofNat 11)), .inr (.int 0), .inl (.ret 0)]
def pb_X6_in : List Nat := [0, 1, 2, 3, 6, 7, 9, 10, 13, 14, 17, 18]
def cd_X6_flag : List ev_I := [.inl (.iload 0), .inl (.ifCond .eq (.ofNat 4)), .inr (.int 1), .inl (.goto (.ofNat 5)), .inr (.int 0), .inl .ireturn]
def pb_X6_flag : List Nat := [0, 1, 4, 5, 8, 9]
def cd_X6_firstDraft : List ev_I := [.inr (.int 0), .inl (.istore 1), .inl .nop, .inl (.iload 1), .inr (.int 57), .inl (.if_icmp .ge (.ofNat 13)), .inl (.aload 0), .inl (.getfield 197), .inl (.iload 1), .inr (.int 0), .inl .iastore, .inl (.iinc 1 1), .inl (.goto (.ofNat 2)), .inr (.int 0), .inl (.istore 1), .inl .nop, .inl (.iload 1), .inr (.int 8), .inl (.if_icmp .ge (.ofNat 30)), .inl (.aload 0), .inl (.getfield 197), .inr (.int 5), .inl (.iload 1), .inl .imul, .inr (.int 3), .inl .iadd, .inr (.int (-4)), .inl .iastore, .inl (.iinc 1 1), .inl (.goto (.ofNat 15)), .inl (.aload 0), .inl (.getfield 197), .inr (.int 41), .inr (.int 12), .inl .iastore, .inl (.aload 0), .inl (.getfield 197), .inr (.int 42), .inr (.int 2), .inl .iastore, .inl (.aload 0), .inr (.int 0), .inl (.putfield 198), .inr (.int 0), .inl (.istore 1), .inl .nop, .inl (.iload 1), .inr (.int 4), .inl (.if_icmp .ge (.ofNat 56)), .inl (.aload 0), .inl (.getfield 199), .inl (.iload 1), .inr (.int 3), .inl .iastore, .inl (.iinc 1 1), .inl (.goto (.ofNat 45)), .inl (.aload 0), .inr (.int 0), .inl (.putfield 200), .inl (.aload 0), .inr (.int 0), .inl (.putfield 201), .inl (.aload 0), .inr (.int (-4)), .inl (.putfield 202), .inl .return_]
def pb_X6_firstDraft : List Nat := [0, 1, 2, 2, 3, 5, 8, 9, 12, 13, 14, 15, 18, 21, 22, 23, 23, 24, 26, 29, 30, 33, 34, 35, 36, 37, 38, 40, 41, 44, 47, 48, 51, 53, 55, 56, 57, 60, 62, 63, 64, 65, 66, 69, 70, 71, 71, 72, 73, 76, 77, 80, 81, 82, 83, 86, 89, 90, 91, 94, 95, 96, 99, 100, 102, 105]
def cd_X6_keepDraft : List ev_I := [.inr (.int 0), .inl (.istore 1), .inl .nop, .inl (.iload 1), .inr (.int 57), .inl (.if_icmp .ge (.ofNat 16)), .inl (.aload 0), .inl (.getfield 192), .inl (.iload 1), .inl (.aload 0), .inl (.getfield 197), .inl (.iload 1), .inl .iaload, .inl .iastore, .inl (.iinc 1 1), .inl (.goto (.ofNat 2)), .inl (.aload 0), .inl (.aload 0), .inl (.getfield 198), .inl (.putfield 195), .inr (.int 0), .inl (.istore 1), .inl .nop, .inl (.iload 1), .inr (.int 4), .inl (.if_icmp .ge (.ofNat 36)), .inl (.aload 0), .inl (.getfield 196), .inl (.iload 1), .inl (.aload 0), .inl (.getfield 199), .inl (.iload 1), .inl .iaload, .inl .iastore, .inl (.iinc 1 1), .inl (.goto (.ofNat 22)), .inl (.aload 0), .inl (.getfield 194), .inr (.int 0), .inr (.int 0), .inl .bastore, .inl (.aload 0), .inl (.getfield 194), .inr (.int 1), .inr (.int 0), .inl .bastore, .inl .return_]
def pb_X6_keepDraft : List Nat := [0, 1, 2, 2, 3, 5, 8, 9, 12, 13, 14, 17, 18, 19, 20, 23, 26, 27, 28, 31, 34, 35, 36, 36, 37, 38, 41, 42, 45, 46, 47, 50, 51, 52, 53, 56, 59, 60, 63, 64, 65, 66, 67, 70, 71, 72, 73]
def cd_X6_feed : List ev_I := [.inl (.iload 1), .inl .i2l, .inr (.long 0), .inr (.long 127), .inl (.invokestatic 114), .inl (.ifCond .ne (.ofNat 8)), .inr (.int (-1)), .inl .ireturn, .inl (.aload 0), .inl (.getfield 204), .inr (.int 160), .inl (.if_icmp .ne (.ofNat 14)), .inr (.int (-3)), .inl .ireturn, .inl (.aload 0), .inl (.getfield 203), .inl (.aload 0), .inl (.getfield 204), .inl (.iload 1), .inl .iastore, .inl (.aload 0), .inl .dup, .inl (.getfield 204), .inr (.int 1), .inl .iadd, .inl (.putfield 204), .inl (.aload 0), .inl (.getfield 204), .inl .ireturn]
def pb_X6_feed : List Nat := [0, 1, 2, 3, 6, 9, 12, 13, 14, 15, 18, 21, 24, 26, 27, 28, 31, 32, 35, 36, 37, 38, 39, 42, 43, 44, 47, 48, 51]
def cd_X6_end : List ev_I := [.inl (.iload 1), .inl .i2l, .inr (.long 0), .inl (.aload 0), .inl (.getfield 204), .inl .i2l, .inl (.invokestatic 114), .inl (.ifCond .ne (.ofNat 10)), .inr (.int (-1)), .inl .ireturn, .inl (.aload 0), .inl (.getfield 204), .inl (.istore 2), .inl (.aload 0), .inl (.iload 1), .inl (.putfield 204), .inl (.iload 2), .inl .ireturn]
def pb_X6_end : List Nat := [0, 1, 2, 3, 4, 7, 8, 11, 14, 15, 16, 17, 20, 21, 22, 23, 26, 27]
def cd_X6_needs : List ev_I := [.inl (.iload 1), .inl (.ifCond .ne (.ofNat 12)), .inl (.aload 0), .inl (.getfield 209), .inl (.ifCond .ne (.ofNat 12)), .inl (.aload 0), .inl (.iload 2), .inl (.putfield 209), .inl (.aload 0), .inl (.aload 0), .inl (.getfield 206), .inl (.putfield 210), .inl .return_]
def pb_X6_needs : List Nat := [0, 1, 4, 5, 8, 11, 12, 13, 16, 17, 18, 21, 24]
def cd_X6_byteAt : List ev_I := [.inl (.iload 1), .inl (.aload 0), .inl (.getfield 204), .inl (.if_icmp .ge (.ofNat 9)), .inl (.aload 0), .inl (.getfield 203), .inl (.iload 1), .inl .iaload, .inl (.goto (.ofNat 10)), .inr (.int (-1)), .inl .ireturn]
def pb_X6_byteAt : List Nat := [0, 1, 2, 5, 8, 9, 12, 13, 14, 17, 18]
def cd_X6_is : List ev_I := [.inl (.aload 0), .inl (.getfield 205), .inl (.aload 0), .inl (.getfield 206), .inl .isub, .inl (.iload 1), .inl (.if_icmp .ne (.ofNat 41)), .inl (.aload 0), .inl (.aload 0), .inl (.getfield 206), .inl (.invokevirtual 121), .inl (.iload 2), .inl (.if_icmp .ne (.ofNat 41)), .inl (.aload 0), .inl (.aload 0), .inl (.getfield 206), .inr (.int 1), .inl .iadd, .inl (.invokevirtual 121), .inl (.iload 3), .inl (.if_icmp .ne (.ofNat 41)), .inl (.aload 0), .inl (.aload 0), .inl (.getfield 206), .inr (.int 2), .inl .iadd, .inl (.invokevirtual 121), .inl (.iload 4), .inl (.if_icmp .ne (.ofNat 41)), .inl (.iload 5), .inl (.ifCond .eq (.ofNat 39)), .inl (.aload 0), .inl (.aload 0), .inl (.getfield 206), .inr (.int 3), .inl .iadd, .inl (.invokevirtual 121), .inl (.iload 5), .inl (.if_icmp .ne (.ofNat 41)), .inr (.int 1), .inl (.goto (.ofNat 42)), .inr (.int 0), .inl (.ret 0)]
def pb_X6_is : List Nat := [0, 1, 4, 5, 8, 9, 10, 13, 14, 15, 18, 21, 22, 25, 26, 27, 30, 31, 32, 35, 36, 39, 40, 41, 44, 45, 46, 49, 51, 54, 56, 59, 60, 61, 64, 65, 66, 69, 71, 74, 75, 78, 79]
def cd_X6_ends : List ev_I := [.inl (.aload 0), .inl (.aload 0), .inl (.getfield 206), .inr (.int 4), .inl .iadd, .inl (.invokevirtual 121), .inl (.iload 1), .inl (.if_icmp .ne (.ofNat 30)), .inl (.iload 2), .inl (.ifCond .eq (.ofNat 18)), .inl (.aload 0), .inl (.aload 0), .inl (.getfield 206), .inr (.int 5), .inl .iadd, .inl (.invokevirtual 121), .inl (.iload 2), .inl (.if_icmp .ne (.ofNat 30)), .inl (.iload 3), .inl (.ifCond .eq (.ofNat 28)), .inl (.aload 0), .inl (.aload 0), .inl (.getfield 206), .inr (.int 6), .inl .iadd, .inl (.invokevirtual 121), .inl (.iload 3), .inl (.if_icmp .ne (.ofNat 30)), .inr (.int 1), .inl (.goto (.ofNat 31)), .inr (.int 0), .inl (.ret 0)]
def pb_X6_ends : List Nat := [0, 1, 2, 5, 6, 7, 10, 11, 14, 15, 18, 19, 20, 23, 24, 25, 28, 29, 32, 33, 36, 37, 38, 41, 43, 44, 47, 48, 51, 52, 55, 56]
def cd_X6_lineNow : List ev_I := [.inl (.aload 0), .inr (.int 4), .inr (.int 99), .inr (.int 97), .inr (.int 108), .inr (.int 109), .inl (.invokevirtual 122), .inl (.ifCond .eq (.ofNat 10)), .inr (.int 0), .inl .ireturn, .inl (.aload 0), .inr (.int 7), .inr (.int 113), .inr (.int 117), .inr (.int 97), .inr (.int 114), .inl (.invokevirtual 122), .inl (.ifCond .eq (.ofNat 26)), .inl (.aload 0), .inr (.int 114), .inr (.int 101), .inr (.int 108), .inl (.invokevirtual 123), .inl (.ifCond .eq (.ofNat 26)), .inr (.int 1), .inl .ireturn, .inl (.aload 0), .inr (.int 5), .inr (.int 115), .inr (.int 97), .inr (.int 105), .inr (.int 110), .inl (.invokevirtual 122), .inl (.ifCond .eq (.ofNat 42)), .inl (.aload 0), .inr (.int 116), .inr (.int 0), .inr (.int 0), .inl (.invokevirtual 123), .inl (.ifCond .eq (.ofNat 42)), .inr (.int 2), .inl .ireturn, .inl (.aload 0), .inr (.int 6), .inr (.int 119), .inr (.int 97), .inr (.int 110), .inr (.int 100), .inl (.invokevirtual 122), .inl (.ifCond .eq (.ofNat 58)), .inl (.aload 0), .inr (.int 101), .inr (.int 114), .inr (.int 0), .inl (.invokevirtual 123), .inl (.ifCond .eq (.ofNat 58)), .inr (.int 3), .inl .ireturn, .inl (.aload 0), .inr (.int 4), .inr (.int 102), .inr (.int 105), .inr (.int 110), .inr (.int 101), .inl (.invokevirtual 122), .inl (.ifCond .eq (.ofNat 68)), .inr (.int 4), .inl .ireturn, .inl (.aload 0), .inr (.int 5), .inr (.int 119), .inr (.int 97), .inr (.int 116), .inr (.int 99), .inl (.invokevirtual 122), .inl (.ifCond .eq (.ofNat 84)), .inl (.aload 0), .inr (.int 104), .inr (.int 0), .inr (.int 0), .inl (.invokevirtual 123), .inl (.ifCond .eq (.ofNat 84)), .inr (.int 5), .inl .ireturn, .inl (.aload 0), .inr (.int 4), .inr (.int 109), .inr (.int 111), .inr (.int 115), .inr (.int 116), .inl (.invokevirtual 122), .inl (.ifCond .eq (.ofNat 94)), .inr (.int 6), .inl (.goto (.ofNat 105)), .inl (.aload 0), .inr (.int 3), .inr (.int 107), .inr (.int 105), .inr (.int 110), .inr (.int 0), .inl (.invokevirtual 122), .inl (.ifCond .eq (.ofNat 104)), .inr (.int 7), .inl (.goto (.ofNat 105)), .inr (.int (-4)), .inl .ireturn]
def pb_X6_lineNow : List Nat := [0, 1, 2, 4, 6, 8, 10, 13, 16, 17, 18, 19, 21, 23, 25, 27, 29, 32, 35, 36, 38, 40, 42, 45, 48, 49, 50, 51, 52, 54, 56, 58, 60, 63, 66, 67, 69, 70, 71, 74, 77, 78, 79, 80, 82, 84, 86, 88, 90, 93, 96, 97, 99, 101, 102, 105, 108, 109, 110, 111, 112, 114, 116, 118, 120, 123, 126, 127, 128, 129, 130, 132, 134, 136, 138, 141, 144, 145, 147, 148, 149, 152, 155, 156, 157, 158, 159, 161, 163, 165, 167, 170, 173, 175, 178, 179, 180, 182, 184, 186, 187, 190, 193, 195, 198, 200]
def cd_X6_next : List ev_I := [.inl (.aload 0), .inl (.getfield 209), .inl (.ifCond .le (.ofNat 4)), .inl .return_, .inl .nop, .inl (.aload 0), .inl (.aload 0), .inl (.getfield 205), .inl (.invokevirtual 121), .inr (.int 32), .inl (.if_icmp .ne (.ofNat 18)), .inl (.aload 0), .inl .dup, .inl (.getfield 205), .inr (.int 1), .inl .iadd, .inl (.putfield 205), .inl (.goto (.ofNat 4)), .inl (.aload 0), .inl (.aload 0), .inl (.getfield 205), .inl (.putfield 206), .inl (.aload 0), .inl (.aload 0), .inl (.getfield 205), .inl (.invokevirtual 121), .inl (.istore 1), .inl (.iload 1), .inl (.ifCond .ge (.ofNat 33)), .inl (.aload 0), .inr (.int 0), .inl (.putfield 207), .inl (.goto (.ofNat 143)), .inl (.iload 1), .inl .i2l, .inr (.long 97), .inr (.long 122), .inl (.invokestatic 114), .inl (.ifCond .eq (.ofNat 59)), .inl (.aload 0), .inr (.int 1), .inl (.putfield 207), .inl .nop, .inl (.aload 0), .inl (.aload 0), .inl (.getfield 205), .inl (.invokevirtual 121), .inl .i2l, .inr (.long 97), .inr (.long 122), .inl (.invokestatic 114), .inl (.ifCond .eq (.ofNat 143)), .inl (.aload 0), .inl .dup, .inl (.getfield 205), .inr (.int 1), .inl .iadd, .inl (.putfield 205), .inl (.goto (.ofNat 42)), .inl (.iload 1), .inl .i2l, .inr (.long 48), .inr (.long 57), .inl (.invokestatic 114), .inl (.ifCond .eq (.ofNat 125)), .inl (.aload 0), .inr (.int 2), .inl (.putfield 207), .inl (.aload 0), .inr (.int 0), .inl (.putfield 208), .inl .nop, .inl (.aload 0), .inl (.aload 0), .inl (.getfield 205), .inl (.invokevirtual 121), .inl .i2l, .inr (.long 48), .inr (.long 57), .inl (.invokestatic 114), .inl (.ifCond .eq (.ofNat 111)), .inl (.aload 0), .inl (.aload 0), .inl (.getfield 205), .inl (.aload 0), .inl (.getfield 206), .inl .isub, .inr (.int 2), .inl (.if_icmp .ge (.ofNat 101)), .inr (.int 10), .inl (.aload 0), .inl (.getfield 208), .inl .imul, .inl (.aload 0), .inl (.aload 0), .inl (.getfield 205), .inl (.invokevirtual 121), .inl .iadd, .inr (.int 48), .inl .isub, .inl (.goto (.ofNat 103)), .inl (.aload 0), .inl (.getfield 208), .inl (.putfield 208), .inl (.aload 0), .inl .dup, .inl (.getfield 205), .inr (.int 1), .inl .iadd, .inl (.putfield 205), .inl (.goto (.ofNat 71)), .inl (.aload 0), .inl (.aload 0), .inl (.getfield 205), .inl (.aload 0), .inl (.getfield 206), .inl .isub, .inr (.int 2), .inl (.if_icmp .gt (.ofNat 121)), .inr (.int 1), .inl (.goto (.ofNat 122)), .inr (.int 0), .inr (.int 1), .inl (.invokevirtual 120), .inl (.goto (.ofNat 143)), .inl (.aload 0), .inr (.int 3), .inl (.putfield 207), .inl (.aload 0), .inl (.iload 1), .inr (.int 59), .inl (.if_icmp .ne (.ofNat 134)), .inr (.int 1), .inl (.goto (.ofNat 135)), .inr (.int 0), .inr (.int 1), .inl (.invokevirtual 120), .inl (.aload 0), .inl .dup, .inl (.getfield 205), .inr (.int 1), .inl .iadd, .inl (.putfield 205), .inl .return_]
def pb_X6_next : List Nat := [0, 1, 4, 7, 8, 8, 9, 10, 13, 16, 18, 21, 22, 23, 26, 27, 28, 31, 34, 35, 36, 39, 42, 43, 44, 47, 50, 51, 52, 55, 56, 57, 60, 63, 64, 65, 68, 71, 74, 77, 78, 79, 82, 82, 83, 84, 87, 90, 91, 94, 97, 100, 103, 104, 105, 108, 109, 110, 113, 116, 117, 118, 121, 124, 127, 130, 131, 132, 135, 136, 137, 140, 140, 141, 142, 145, 148, 149, 152, 155, 158, 161, 162, 163, 166, 167, 170, 171, 172, 175, 177, 178, 181, 182, 183, 184, 187, 190, 191, 193, 194, 197, 198, 201, 204, 205, 206, 209, 210, 211, 214, 217, 218, 219, 222, 223, 226, 227, 228, 231, 232, 235, 236, 237, 240, 243, 244, 245, 248, 249, 250, 252, 255, 256, 259, 260, 261, 264, 265, 266, 269, 270, 271, 274]
def cd_X6_looked : List ev_I := [.inl (.aload 0), .inl (.getfield 209), .inl (.ifCond .ne (.ofNat 13)), .inl (.aload 0), .inl (.aload 0), .inl (.getfield 207), .inr (.int 2), .inl (.if_icmp .ne (.ofNat 10)), .inr (.int 1), .inl (.goto (.ofNat 11)), .inr (.int 0), .inr (.int 2), .inl (.invokevirtual 120), .inl (.aload 0), .inl (.getfield 209), .inl (.ifCond .ne (.ofNat 27)), .inl (.aload 0), .inl (.aload 0), .inl (.getfield 208), .inl .i2l, .inl (.iload 1), .inl .i2l, .inl (.iload 2), .inl .i2l, .inl (.invokestatic 114), .inr (.int 3), .inl (.invokevirtual 120), .inl (.aload 0), .inl (.getfield 209), .inl (.ifCond .ne (.ofNat 33)), .inl (.aload 0), .inl (.getfield 208), .inl (.goto (.ofNat 34)), .inr (.int 0), .inl .ireturn]
def pb_X6_looked : List Nat := [0, 1, 4, 7, 8, 9, 12, 13, 16, 17, 20, 21, 22, 25, 26, 29, 32, 33, 34, 37, 38, 39, 40, 41, 42, 45, 46, 49, 50, 53, 56, 57, 60, 63, 64]
def cd_X6_readNumber : List ev_I := [.inl (.aload 0), .inl (.iload 1), .inl (.iload 2), .inl (.invokevirtual 126), .inl (.istore 3), .inl (.aload 0), .inl (.invokevirtual 125), .inl (.iload 3), .inl .ireturn]
def pb_X6_readNumber : List Nat := [0, 1, 2, 3, 6, 7, 8, 11, 12]
def cd_X6_readMan : List ev_I := [.inr (.int 5), .inl (.aload 0), .inl (.getfield 198), .inl .imul, .inl (.istore 2), .inl (.aload 0), .inl (.getfield 197), .inl (.iload 2), .inr (.int 0), .inl .iadd, .inl (.iload 1), .inl .iastore, .inl (.aload 0), .inl (.getfield 197), .inl (.iload 2), .inr (.int 1), .inl .iadd, .inl (.iload 1), .inr (.int 2), .inl (.if_icmp .ne (.ofNat 22)), .inr (.int 0), .inl (.goto (.ofNat 26)), .inl (.aload 0), .inr (.int 0), .inr (.int 9), .inl (.invokevirtual 127), .inl .iastore, .inl (.aload 0), .inl (.getfield 197), .inl (.iload 2), .inr (.int 2), .inl .iadd, .inl (.aload 0), .inr (.int 0), .inr (.int 99), .inl (.invokevirtual 127), .inl .iastore, .inl (.aload 0), .inl (.getfield 197), .inl (.iload 2), .inr (.int 3), .inl .iadd, .inl (.iload 1), .inr (.int 3), .inl (.if_icmp .ne (.ofNat 47)), .inr (.int (-4)), .inl (.goto (.ofNat 51)), .inl (.aload 0), .inr (.int 0), .inr (.int 3), .inl (.invokevirtual 127), .inl .iastore, .inl (.aload 0), .inl .dup, .inl (.getfield 198), .inr (.int 1), .inl .iadd, .inl (.putfield 198), .inl .return_]
def pb_X6_readMan : List Nat := [0, 1, 2, 5, 6, 7, 8, 11, 12, 13, 14, 15, 16, 17, 20, 21, 22, 23, 24, 25, 28, 29, 32, 33, 34, 36, 39, 40, 41, 44, 45, 46, 47, 48, 49, 51, 54, 55, 56, 59, 60, 61, 62, 63, 64, 67, 69, 72, 73, 74, 75, 78, 79, 80, 81, 84, 85, 86, 89]
def cd_X6_readMost : List ev_I := [.inl (.aload 0), .inr (.int 0), .inr (.int 3), .inl (.invokevirtual 126), .inl (.istore 1), .inl (.aload 0), .inl (.getfield 209), .inl (.ifCond .ne (.ofNat 29)), .inl (.aload 0), .inl (.aload 0), .inl (.getfield 201), .inl (.iload 1), .inl .ishr, .inr (.int 1), .inl .iand, .inl (.ifCond .ne (.ofNat 18)), .inr (.int 1), .inl (.goto (.ofNat 19)), .inr (.int 0), .inr (.int 4), .inl (.invokevirtual 120), .inl (.aload 0), .inl .dup, .inl (.getfield 201), .inr (.int 1), .inl (.iload 1), .inl .ishl, .inl .ior, .inl (.putfield 201), .inl (.aload 0), .inl (.invokevirtual 125), .inl (.aload 0), .inr (.int 1), .inr (.int 5), .inl (.invokevirtual 127), .inl (.istore 2), .inl (.aload 0), .inl (.getfield 199), .inl (.iload 1), .inl (.aload 0), .inl (.getfield 209), .inl (.ifCond .ne (.ofNat 44)), .inl (.iload 2), .inl (.goto (.ofNat 48)), .inl (.aload 0), .inl (.getfield 199), .inl (.iload 1), .inl .iaload, .inl .iastore, .inl .return_]
def pb_X6_readMost : List Nat := [0, 1, 2, 3, 6, 7, 8, 11, 14, 15, 16, 19, 20, 21, 22, 23, 26, 27, 30, 31, 32, 35, 36, 37, 40, 41, 42, 43, 44, 47, 48, 51, 52, 53, 54, 57, 58, 59, 62, 63, 64, 67, 70, 71, 74, 75, 78, 79, 80, 81]
def cd_X6_readKin : List ev_I := [.inl (.aload 0), .inr (.int 0), .inr (.int 7), .inl (.invokevirtual 127), .inl (.istore 1), .inl (.aload 0), .inr (.int 0), .inr (.int 7), .inl (.invokevirtual 126), .inl (.istore 2), .inl (.aload 0), .inl (.getfield 209), .inl (.ifCond .ne (.ofNat 22)), .inl (.aload 0), .inl (.iload 2), .inl (.iload 1), .inl (.if_icmp .eq (.ofNat 19)), .inr (.int 1), .inl (.goto (.ofNat 20)), .inr (.int 0), .inr (.int 3), .inl (.invokevirtual 120), .inl (.aload 0), .inl (.getfield 209), .inl (.ifCond .ne (.ofNat 73)), .inl (.aload 0), .inl (.getfield 197), .inr (.int 5), .inl (.iload 1), .inl .imul, .inr (.int 4), .inl .iadd, .inl .dup2, .inl .iaload, .inr (.int 1), .inl (.iload 2), .inl .ishl, .inl .ior, .inl .iastore, .inl (.aload 0), .inl (.getfield 197), .inr (.int 5), .inl (.iload 2), .inl .imul, .inr (.int 4), .inl .iadd, .inl .dup2, .inl .iaload, .inr (.int 1), .inl (.iload 1), .inl .ishl, .inl .ior, .inl .iastore, .inl (.aload 0), .inl (.iload 1), .inl (.aload 0), .inl (.getfield 202), .inl (.if_icmp .le (.ofNat 60)), .inl (.iload 1), .inl (.goto (.ofNat 62)), .inl (.aload 0), .inl (.getfield 202), .inl (.putfield 202), .inl (.aload 0), .inl (.iload 2), .inl (.aload 0), .inl (.getfield 202), .inl (.if_icmp .le (.ofNat 70)), .inl (.iload 2), .inl (.goto (.ofNat 72)), .inl (.aload 0), .inl (.getfield 202), .inl (.putfield 202), .inl (.aload 0), .inl (.invokevirtual 125), .inl .return_]
def pb_X6_readKin : List Nat := [0, 1, 2, 4, 7, 8, 9, 10, 12, 15, 16, 17, 20, 23, 24, 25, 26, 29, 30, 33, 34, 35, 38, 39, 42, 45, 46, 49, 50, 51, 52, 53, 54, 55, 56, 57, 58, 59, 60, 61, 62, 65, 66, 67, 68, 69, 70, 71, 72, 73, 74, 75, 76, 77, 78, 79, 80, 83, 86, 87, 90, 91, 94, 97, 98, 99, 100, 103, 106, 107, 110, 111, 114, 117, 118, 121]
def cd_X6_readLineOf : List ev_I := [.inl (.iload 1), .inl (.tableswitch (.ofNat 26) 4 7 #[.ofNat 2, .ofNat 11, .ofNat 20, .ofNat 23]), .inl (.aload 0), .inl (.getfield 197), .inr (.int 41), .inl (.aload 0), .inr (.int 0), .inr (.int 99), .inl (.invokevirtual 127), .inl .iastore, .inl (.goto (.ofNat 29)), .inl (.aload 0), .inl (.getfield 197), .inr (.int 42), .inl (.aload 0), .inr (.int 0), .inr (.int 9), .inl (.invokevirtual 127), .inl .iastore, .inl (.goto (.ofNat 29)), .inl (.aload 0), .inl (.invokevirtual 129), .inl (.goto (.ofNat 29)), .inl (.aload 0), .inl (.invokevirtual 130), .inl (.goto (.ofNat 29)), .inl (.aload 0), .inl (.iload 1), .inl (.invokevirtual 128), .inl .return_]
def pb_X6_readLineOf : List Nat := [0, 1, 32, 33, 36, 38, 39, 40, 42, 45, 46, 49, 50, 53, 55, 56, 57, 59, 62, 63, 66, 67, 70, 73, 74, 77, 80, 81, 82, 85]
def cd_X6_readLine : List ev_I := [.inl (.aload 0), .inl (.getfield 207), .inr (.int 1), .inl (.if_icmp .ne (.ofNat 7)), .inl (.aload 0), .inl (.invokevirtual 124), .inl (.goto (.ofNat 8)), .inr (.int (-4)), .inl (.istore 1), .inl (.aload 0), .inl (.iload 1), .inr (.int (-4)), .inl (.if_icmp .eq (.ofNat 15)), .inr (.int 1), .inl (.goto (.ofNat 16)), .inr (.int 0), .inr (.int 2), .inl (.invokevirtual 120), .inl (.aload 0), .inl (.iload 1), .inr (.int 3), .inl (.if_icmp .gt (.ofNat 26)), .inl (.aload 0), .inl (.getfield 198), .inr (.int 8), .inl (.if_icmp .ge (.ofNat 28)), .inr (.int 1), .inl (.goto (.ofNat 29)), .inr (.int 0), .inr (.int 5), .inl (.invokevirtual 120), .inl (.aload 0), .inl (.getfield 209), .inl (.ifCond .ne (.ofNat 61)), .inl (.iload 1), .inl .i2l, .inr (.long 4), .inr (.long 5), .inl (.invokestatic 114), .inl (.ifCond .eq (.ofNat 61)), .inl (.aload 0), .inl (.aload 0), .inl (.getfield 200), .inl (.iload 1), .inl .ishr, .inr (.int 1), .inl .iand, .inl (.ifCond .ne (.ofNat 50)), .inr (.int 1), .inl (.goto (.ofNat 51)), .inr (.int 0), .inr (.int 4), .inl (.invokevirtual 120), .inl (.aload 0), .inl .dup, .inl (.getfield 200), .inr (.int 1), .inl (.iload 1), .inl .ishl, .inl .ior, .inl (.putfield 200), .inl (.aload 0), .inl (.invokevirtual 125), .inl (.aload 0), .inl (.getfield 209), .inl (.ifCond .le (.ofNat 67)), .inl .return_, .inl (.aload 0), .inl (.iload 1), .inl (.invokevirtual 131), .inl (.aload 0), .inl (.getfield 209), .inl (.ifCond .ne (.ofNat 83)), .inl (.aload 0), .inl (.aload 0), .inl (.getfield 207), .inr (.int 3), .inl (.if_icmp .ne (.ofNat 80)), .inr (.int 1), .inl (.goto (.ofNat 81)), .inr (.int 0), .inr (.int 2), .inl (.invokevirtual 120), .inl (.aload 0), .inl (.invokevirtual 125), .inl .return_]
def pb_X6_readLine : List Nat := [0, 1, 4, 5, 8, 9, 12, 15, 17, 18, 19, 20, 22, 25, 26, 29, 30, 31, 34, 35, 36, 37, 40, 41, 44, 46, 49, 50, 53, 54, 55, 58, 59, 62, 65, 66, 67, 70, 73, 76, 79, 80, 81, 84, 85, 86, 87, 88, 91, 92, 95, 96, 97, 100, 101, 102, 105, 106, 107, 108, 109, 112, 113, 116, 117, 120, 123, 124, 125, 126, 129, 130, 133, 136, 137, 138, 141, 142, 145, 146, 149, 150, 151, 154, 155, 158]
def cd_X6_doFit : List ev_I := [.inr (.int 1), .inl (.istore 1), .inr (.int 0), .inl (.istore 2), .inl .nop, .inl (.iload 2), .inr (.int 4), .inl (.if_icmp .ge (.ofNat 50)), .inr (.int 0), .inl (.istore 3), .inr (.int 0), .inl (.istore 4), .inl .nop, .inl (.iload 4), .inl (.aload 0), .inl (.getfield 198), .inl (.if_icmp .ge (.ofNat 36)), .inl (.iload 3), .inl (.aload 0), .inl (.getfield 197), .inr (.int 5), .inl (.iload 4), .inl .imul, .inr (.int 3), .inl .iadd, .inl .iaload, .inl (.iload 2), .inl (.if_icmp .ne (.ofNat 30)), .inr (.int 1), .inl (.goto (.ofNat 31)), .inr (.int 0), .inl (.invokestatic 115), .inl .iadd, .inl (.istore 3), .inl (.iinc 4 1), .inl (.goto (.ofNat 12)), .inl (.iload 1), .inl (.ifCond .eq (.ofNat 46)), .inl (.iload 3), .inl (.aload 0), .inl (.getfield 199), .inl (.iload 2), .inl .iaload, .inl (.if_icmp .gt (.ofNat 46)), .inr (.int 1), .inl (.goto (.ofNat 47)), .inr (.int 0), .inl (.istore 1), .inl (.iinc 2 1), .inl (.goto (.ofNat 4)), .inl (.iload 1), .inl (.ret 0)]
def pb_X6_doFit : List Nat := [0, 1, 2, 3, 4, 4, 5, 6, 9, 10, 11, 12, 14, 14, 16, 17, 20, 23, 24, 25, 28, 29, 31, 32, 33, 34, 35, 36, 39, 40, 43, 44, 47, 48, 49, 52, 55, 56, 59, 60, 61, 64, 65, 66, 69, 70, 73, 74, 75, 78, 81, 82]
def cd_X6_text : List ev_I := [.inr (.int 0), .inl (.istore 1), .inl (.aload 0), .inr (.int 0), .inl (.putfield 209), .inl (.aload 0), .inr (.int 0), .inl (.putfield 205), .inl (.aload 0), .inl (.invokevirtual 116), .inl (.aload 0), .inl (.invokevirtual 125), .inl .nop, .inl (.aload 0), .inl (.getfield 209), .inl (.ifCond .ne (.ofNat 23)), .inl (.aload 0), .inl (.getfield 207), .inl (.ifCond .eq (.ofNat 23)), .inl (.aload 0), .inl (.invokevirtual 132), .inl (.iinc 1 1), .inl (.goto (.ofNat 12)), .inl (.aload 0), .inl (.getfield 209), .inl (.ifCond .ne (.ofNat 42)), .inl (.aload 0), .inl (.aload 0), .inl (.getfield 202), .inl (.aload 0), .inl (.getfield 198), .inl (.if_icmp .ge (.ofNat 34)), .inr (.int 1), .inl (.goto (.ofNat 35)), .inr (.int 0), .inr (.int 6), .inl (.invokevirtual 120), .inl (.aload 0), .inl (.aload 0), .inl (.invokevirtual 133), .inr (.int 7), .inl (.invokevirtual 120), .inl (.aload 0), .inr (.int 0), .inl (.putfield 204), .inl (.aload 0), .inl (.getfield 209), .inl (.ifCond .le (.ofNat 53)), .inr (.int (-10)), .inl (.aload 0), .inl (.getfield 210), .inl .isub, .inl .ireturn, .inl (.aload 0), .inl (.invokevirtual 117), .inl (.iload 1), .inl .ireturn]
def pb_X6_text : List Nat := [0, 1, 2, 3, 4, 7, 8, 9, 12, 13, 16, 17, 20, 20, 21, 24, 27, 28, 31, 34, 35, 38, 41, 44, 45, 48, 51, 52, 53, 56, 57, 60, 63, 64, 67, 68, 70, 73, 74, 75, 78, 80, 83, 84, 85, 88, 89, 92, 95, 97, 98, 101, 102, 103, 104, 107, 108]
def cd_X6_fault : List ev_I := [.inl (.aload 0), .inl (.getfield 209), .inl .ireturn]
def pb_X6_fault : List Nat := [0, 1, 4]
def cd_X6_isMan : List ev_I := [.inl (.iload 1), .inl .i2l, .inr (.long 0), .inl (.aload 0), .inl (.getfield 195), .inr (.int 1), .inl .isub, .inl .i2l, .inl (.invokestatic 114), .inl (.ret 0)]
def pb_X6_isMan : List Nat := [0, 1, 2, 3, 4, 7, 8, 9, 10, 13]
def cd_X6_isTen : List ev_I := [.inl (.iload 0), .inl .i2l, .inr (.long 0), .inr (.long 3), .inl (.invokestatic 114), .inl (.ret 0)]
def pb_X6_isTen : List Nat := [0, 1, 2, 3, 6, 9]
def cd_X6_isPart : List ev_I := [.inl (.iload 0), .inl .i2l, .inr (.long 0), .inr (.long 1), .inl (.invokestatic 114), .inl (.ret 0)]
def pb_X6_isPart : List Nat := [0, 1, 2, 3, 4, 7]
def cd_X6_bitsOf : List ev_I := [.inr (.int 0), .inl (.istore 1), .inr (.int 0), .inl (.istore 2), .inl .nop, .inl (.iload 2), .inr (.int 8), .inl (.if_icmp .ge (.ofNat 18)), .inl (.iload 1), .inl (.iload 0), .inl (.iload 2), .inl .ishr, .inr (.int 1), .inl .iand, .inl .iadd, .inl (.istore 1), .inl (.iinc 2 1), .inl (.goto (.ofNat 4)), .inl (.iload 1), .inl .ireturn]
def pb_X6_bitsOf : List Nat := [0, 1, 2, 3, 4, 4, 5, 7, 10, 11, 12, 13, 14, 15, 16, 17, 18, 21, 24, 25]
def cd_X6_starts : List ev_I := [.inr (.int 0), .inl (.istore 1), .inl .nop, .inl (.iload 1), .inr (.int 57), .inl (.if_icmp .ge (.ofNat 16)), .inl (.aload 0), .inl (.getfield 193), .inl (.iload 1), .inl (.aload 0), .inl (.getfield 192), .inl (.iload 1), .inl .iaload, .inl .iastore, .inl (.iinc 1 1), .inl (.goto (.ofNat 2)), .inl .return_]
def pb_X6_starts : List Nat := [0, 1, 2, 2, 3, 5, 8, 9, 12, 13, 14, 17, 18, 19, 20, 23, 26]
def cd_X6_settles : List ev_I := [.inr (.int 0), .inl (.istore 1), .inl .nop, .inl (.iload 1), .inr (.int 57), .inl (.if_icmp .ge (.ofNat 16)), .inl (.aload 0), .inl (.getfield 192), .inl (.iload 1), .inl (.aload 0), .inl (.getfield 193), .inl (.iload 1), .inl .iaload, .inl .iastore, .inl (.iinc 1 1), .inl (.goto (.ofNat 2)), .inl .return_]
def pb_X6_settles : List Nat := [0, 1, 2, 2, 3, 5, 8, 9, 12, 13, 14, 17, 18, 19, 20, 23, 26]
def cd_X6_of : List ev_I := [.inl (.aload 0), .inl (.getfield 193), .inr (.int 5), .inl (.iload 1), .inl .imul, .inl (.iload 2), .inl .iadd, .inl .iaload, .inl .ireturn]
def pb_X6_of : List Nat := [0, 1, 4, 5, 6, 7, 8, 9, 10]
def cd_X6_becomesOf : List ev_I := [.inl (.aload 0), .inl (.getfield 193), .inr (.int 5), .inl (.iload 1), .inl .imul, .inl (.iload 2), .inl .iadd, .inl (.iload 3), .inl .iastore, .inl .return_]
def pb_X6_becomesOf : List Nat := [0, 1, 4, 5, 6, 7, 8, 9, 10, 11]
def cd_X6_menOf : List ev_I := [.inr (.int 0), .inl (.istore 2), .inr (.int 0), .inl (.istore 3), .inl .nop, .inl (.iload 3), .inl (.aload 0), .inl (.getfield 195), .inl (.if_icmp .ge (.ofNat 26)), .inl (.iload 2), .inl (.aload 0), .inl (.iload 3), .inr (.int 3), .inl (.invokevirtual 142), .inl (.iload 1), .inl (.if_icmp .ne (.ofNat 18)), .inr (.int 1), .inl (.goto (.ofNat 19)), .inr (.int 0), .inl (.invokestatic 115), .inl (.iload 3), .inl .ishl, .inl .ior, .inl (.istore 2), .inl (.iinc 3 1), .inl (.goto (.ofNat 4)), .inl (.iload 2), .inl .ireturn]
def pb_X6_menOf : List Nat := [0, 1, 2, 3, 4, 4, 5, 6, 9, 12, 13, 14, 15, 16, 19, 20, 23, 24, 27, 28, 31, 32, 33, 34, 35, 38, 41, 42]
def cd_X6_isWatched : List ev_I := [.inl (.aload 0), .inl (.getfield 193), .inr (.int 40), .inl .iaload, .inl (.iload 1), .inl .ishr, .inr (.int 1), .inl .iand, .inr (.int 1), .inl (.if_icmp .ne (.ofNat 12)), .inr (.int 1), .inl (.goto (.ofNat 13)), .inr (.int 0), .inl (.ret 0)]
def pb_X6_isWatched : List Nat := [0, 1, 4, 6, 7, 8, 9, 10, 11, 12, 15, 16, 19, 20]
def cd_X6_oddsOf : List ev_I := [.inl (.aload 0), .inl (.iload 1), .inr (.int 1), .inl (.invokevirtual 142), .inl (.istore 2), .inl (.aload 0), .inl (.iload 1), .inr (.int 0), .inl (.invokevirtual 142), .inr (.int 2), .inl (.if_icmp .ne (.ofNat 13)), .inr (.int 0), .inl .ireturn, .inl (.aload 0), .inl (.iload 1), .inr (.int 3), .inl (.invokevirtual 142), .inr (.int (-4)), .inl (.if_icmp .ne (.ofNat 21)), .inl (.iload 2), .inl .ireturn, .inr (.int 0), .inl (.istore 3), .inl .nop, .inl (.iload 3), .inl (.aload 0), .inl (.getfield 195), .inl (.if_icmp .ge (.ofNat 67)), .inl (.iload 3), .inl (.iload 1), .inl (.if_icmp .eq (.ofNat 48)), .inl (.aload 0), .inl (.iload 3), .inr (.int 3), .inl (.invokevirtual 142), .inl (.aload 0), .inl (.iload 1), .inr (.int 3), .inl (.invokevirtual 142), .inl (.if_icmp .ne (.ofNat 48)), .inl (.aload 0), .inl (.iload 3), .inr (.int 0), .inl (.invokevirtual 142), .inr (.int 1), .inl (.if_icmp .ne (.ofNat 48)), .inr (.int 1), .inl (.goto (.ofNat 49)), .inr (.int 0), .inl (.istore 4), .inl (.iload 2), .inl (.iload 4), .inl (.ifCond .eq (.ofNat 61)), .inl (.aload 0), .inl (.iload 1), .inr (.int 0), .inl (.invokevirtual 142), .inr (.int 1), .inl (.if_icmp .ne (.ofNat 61)), .inr (.int 1), .inl (.goto (.ofNat 62)), .inr (.int 0), .inl (.invokestatic 115), .inl .iadd, .inl (.istore 2), .inl (.iinc 3 1), .inl (.goto (.ofNat 23)), .inl (.aload 0), .inl (.iload 1), .inl (.invokevirtual 145), .inl (.ifCond .eq (.ofNat 75)), .inl (.iload 2), .inr (.int 2), .inl .idiv, .inl (.goto (.ofNat 76)), .inl (.iload 2), .inl (.istore 2), .inl (.iload 2), .inr (.int 9), .inl (.if_icmp .ge (.ofNat 82)), .inl (.iload 2), .inl (.goto (.ofNat 83)), .inr (.int 9), .inl .ireturn]
def pb_X6_oddsOf : List Nat := [0, 1, 2, 3, 6, 7, 8, 9, 10, 13, 14, 17, 18, 19, 20, 21, 22, 25, 27, 30, 31, 32, 33, 34, 34, 35, 36, 39, 42, 43, 44, 47, 48, 49, 50, 53, 54, 55, 56, 59, 62, 63, 64, 65, 68, 69, 72, 73, 76, 77, 79, 80, 82, 85, 86, 87, 88, 91, 92, 95, 96, 99, 100, 103, 104, 105, 108, 111, 112, 113, 116, 119, 120, 121, 122, 125, 126, 127, 128, 130, 133, 134, 137, 139]
def cd_X6_harmOf : List ev_I := [.inr (.int 0), .inl (.istore 2), .inr (.int 0), .inl (.istore 3), .inl .nop, .inl (.iload 3), .inl (.aload 0), .inl (.getfield 195), .inl (.if_icmp .ge (.ofNat 42)), .inl (.iload 2), .inl (.aload 0), .inl (.iload 3), .inr (.int 3), .inl (.invokevirtual 142), .inl (.iload 1), .inl (.if_icmp .ne (.ofNat 37)), .inl (.aload 0), .inl (.iload 3), .inl (.invokevirtual 146), .inl (.aload 0), .inl (.getfield 193), .inr (.int 41), .inl .iaload, .inl .imul, .inl (.aload 0), .inl (.iload 3), .inl (.invokevirtual 145), .inl (.invokestatic 115), .inr (.int 10), .inl .imul, .inl (.aload 0), .inl (.getfield 193), .inr (.int 42), .inl .iaload, .inl .imul, .inl .iadd, .inl (.goto (.ofNat 38)), .inr (.int 0), .inl .iadd, .inl (.istore 2), .inl (.iinc 3 1), .inl (.goto (.ofNat 4)), .inl (.iload 2), .inl .ireturn]
def pb_X6_harmOf : List Nat := [0, 1, 2, 3, 4, 4, 5, 6, 9, 12, 13, 14, 15, 16, 19, 20, 23, 24, 25, 28, 29, 32, 34, 35, 36, 37, 38, 41, 44, 46, 47, 48, 51, 53, 54, 55, 56, 59, 60, 61, 62, 65, 68, 69]
def cd_X6_harmAll : List ev_I := [.inr (.int 0), .inl (.istore 1), .inr (.int 0), .inl (.istore 2), .inl .nop, .inl (.iload 2), .inr (.int 4), .inl (.if_icmp .ge (.ofNat 16)), .inl (.iload 1), .inl (.aload 0), .inl (.iload 2), .inl (.invokevirtual 147), .inl .iadd, .inl (.istore 1), .inl (.iinc 2 1), .inl (.goto (.ofNat 4)), .inr (.int 0), .inl (.istore 2), .inl .nop, .inl (.iload 2), .inl (.aload 0), .inl (.getfield 195), .inl (.if_icmp .ge (.ofNat 45)), .inl (.iload 1), .inl (.aload 0), .inl (.iload 2), .inr (.int 3), .inl (.invokevirtual 142), .inr (.int (-4)), .inl (.if_icmp .ne (.ofNat 40)), .inl (.aload 0), .inl (.iload 2), .inr (.int 1), .inl (.invokevirtual 142), .inl (.aload 0), .inl (.getfield 193), .inr (.int 41), .inl .iaload, .inl .imul, .inl (.goto (.ofNat 41)), .inr (.int 0), .inl .iadd, .inl (.istore 1), .inl (.iinc 2 1), .inl (.goto (.ofNat 18)), .inl (.iload 1), .inl .ireturn]
def pb_X6_harmAll : List Nat := [0, 1, 2, 3, 4, 4, 5, 6, 9, 10, 11, 12, 15, 16, 17, 20, 23, 24, 25, 25, 26, 27, 30, 33, 34, 35, 36, 37, 40, 42, 45, 46, 47, 48, 51, 52, 55, 57, 58, 59, 62, 63, 64, 65, 68, 71, 72]
def cd_X6_allGoods : List ev_I := [.inr (.int 0), .inl (.istore 2), .inr (.int 0), .inl (.istore 3), .inl .nop, .inl (.iload 3), .inl (.aload 0), .inl (.getfield 195), .inl (.if_icmp .ge (.ofNat 27)), .inl (.iload 2), .inl (.iload 1), .inl (.iload 3), .inl .ishr, .inr (.int 1), .inl .iand, .inr (.int 1), .inl (.if_icmp .ne (.ofNat 22)), .inl (.aload 0), .inl (.iload 3), .inr (.int 2), .inl (.invokevirtual 142), .inl (.goto (.ofNat 23)), .inr (.int 0), .inl .iadd, .inl (.istore 2), .inl (.iinc 3 1), .inl (.goto (.ofNat 4)), .inl (.iload 2), .inl .ireturn]
def pb_X6_allGoods : List Nat := [0, 1, 2, 3, 4, 4, 5, 6, 9, 12, 13, 14, 15, 16, 17, 18, 19, 22, 23, 24, 25, 28, 31, 32, 33, 34, 37, 40, 41]
def cd_X6_rule : List ev_I := [.inr (.int 0), .inl (.istore 2), .inr (.int 0), .inl (.istore 3), .inl .nop, .inl (.iload 3), .inl (.aload 0), .inl (.getfield 195), .inl (.if_icmp .ge (.ofNat 30)), .inl (.iload 2), .inl (.aload 0), .inl (.getfield 192), .inr (.int 5), .inl (.iload 3), .inl .imul, .inr (.int 3), .inl .iadd, .inl .iaload, .inr (.int (-4)), .inl (.if_icmp .ne (.ofNat 22)), .inr (.int 1), .inl (.goto (.ofNat 23)), .inr (.int 0), .inl (.invokestatic 115), .inl (.iload 3), .inl .ishl, .inl .ior, .inl (.istore 2), .inl (.iinc 3 1), .inl (.goto (.ofNat 4)), .inl (.iload 1), .inl (.tableswitch (.ofNat 57) 0 5 #[.ofNat 32, .ofNat 35, .ofNat 40, .ofNat 45, .ofNat 50, .ofNat 55]), .inl (.aload 0), .inl (.getfield 195), .inl .ireturn, .inl (.aload 0), .inl (.getfield 192), .inr (.int 41), .inl .iaload, .inl .ireturn, .inl (.aload 0), .inl (.getfield 192), .inr (.int 42), .inl .iaload, .inl .ireturn, .inl (.aload 0), .inl (.getfield 192), .inr (.int 43), .inl .iaload, .inl .ireturn, .inl (.aload 0), .inl (.getfield 192), .inr (.int 40), .inl .iaload, .inl .ireturn, .inl (.iload 2), .inl .ireturn, .inr (.int (-1)), .inl .ireturn]
def pb_X6_rule : List Nat := [0, 1, 2, 3, 4, 4, 5, 6, 9, 12, 13, 14, 17, 18, 19, 20, 21, 22, 23, 25, 28, 29, 32, 33, 36, 37, 38, 39, 40, 43, 46, 47, 84, 85, 88, 89, 90, 93, 95, 96, 97, 98, 101, 103, 104, 105, 106, 109, 111, 112, 113, 114, 117, 119, 120, 121, 122, 123, 124]
def cd_X6_man : List ev_I := [.inl (.aload 0), .inl (.iload 1), .inl (.invokevirtual 136), .inl (.ifCond .eq (.ofNat 10)), .inl (.iload 2), .inl .i2l, .inr (.long 0), .inr (.long 5), .inl (.invokestatic 114), .inl (.ifCond .ne (.ofNat 12)), .inr (.int (-1)), .inl .ireturn, .inl (.aload 0), .inl (.invokevirtual 140), .inl (.iload 2), .inr (.int 5), .inl (.if_icmp .ge (.ofNat 22)), .inl (.aload 0), .inl (.iload 1), .inl (.iload 2), .inl (.invokevirtual 142), .inl (.goto (.ofNat 25)), .inl (.aload 0), .inl (.iload 1), .inl (.invokevirtual 146), .inl .ireturn]
def pb_X6_man : List Nat := [0, 1, 2, 5, 8, 9, 10, 11, 14, 17, 20, 21, 22, 23, 26, 27, 28, 31, 32, 33, 34, 37, 40, 41, 42, 45]
def cd_X6_ten : List ev_I := [.inl (.iload 1), .inl (.invokestatic 137), .inl (.ifCond .ne (.ofNat 5)), .inr (.int (-1)), .inl .ireturn, .inl (.aload 0), .inl (.invokevirtual 140), .inl (.iload 2), .inl (.tableswitch (.ofNat 28) 0 3 #[.ofNat 9, .ofNat 13, .ofNat 18, .ofNat 22]), .inl (.aload 0), .inl (.iload 1), .inl (.invokevirtual 144), .inl .ireturn, .inl (.aload 0), .inl (.getfield 196), .inl (.iload 1), .inl .iaload, .inl .ireturn, .inl (.aload 0), .inl (.iload 1), .inl (.invokevirtual 147), .inl .ireturn, .inl (.aload 0), .inl (.aload 0), .inl (.iload 1), .inl (.invokevirtual 144), .inl (.invokevirtual 149), .inl .ireturn, .inr (.int (-1)), .inl .ireturn]
def pb_X6_ten : List Nat := [0, 1, 4, 7, 8, 9, 10, 13, 14, 44, 45, 46, 49, 50, 51, 54, 55, 56, 57, 58, 59, 62, 63, 64, 65, 66, 69, 72, 73, 74]
def cd_X6_becomes : List ev_I := [.inl (.aload 0), .inl (.getfield 192), .inl (.iload 1), .inl .iaload, .inl (.istore 3), .inl (.aload 0), .inl (.getfield 192), .inl (.iload 1), .inl (.iload 2), .inl .iastore, .inl (.iload 3), .inl .ireturn]
def pb_X6_becomes : List Nat := [0, 1, 4, 5, 6, 7, 8, 11, 12, 13, 14, 15]
def cd_X6_isWanderer : List ev_I := [.inl (.aload 0), .inl (.getfield 192), .inr (.int 5), .inl (.iload 1), .inl .imul, .inr (.int 3), .inl .iadd, .inl .iaload, .inr (.int (-4)), .inl (.if_icmp .ne (.ofNat 12)), .inr (.int 1), .inl (.goto (.ofNat 13)), .inr (.int 0), .inl (.ret 0)]
def pb_X6_isWanderer : List Nat := [0, 1, 4, 5, 6, 7, 8, 9, 10, 12, 15, 16, 19, 20]
def cd_X6_isFull : List ev_I := [.inl (.aload 0), .inl (.invokevirtual 140), .inl (.aload 0), .inl (.iload 1), .inl (.invokevirtual 144), .inl (.invokestatic 139), .inl (.aload 0), .inl (.getfield 196), .inl (.iload 1), .inl .iaload, .inl (.if_icmp .lt (.ofNat 13)), .inr (.int 1), .inl (.goto (.ofNat 14)), .inr (.int 0), .inl (.ret 0)]
def pb_X6_isFull : List Nat := [0, 1, 4, 5, 6, 9, 12, 13, 16, 17, 18, 21, 22, 25, 26]
def cd_X6_move : List ev_I := [.inl (.aload 0), .inl (.iload 1), .inl (.invokevirtual 136), .inl (.ifCond .eq (.ofNat 7)), .inl (.iload 2), .inl (.invokestatic 137), .inl (.ifCond .ne (.ofNat 9)), .inr (.int (-1)), .inl .ireturn, .inl (.aload 0), .inl (.getfield 192), .inr (.int 5), .inl (.iload 1), .inl .imul, .inr (.int 3), .inl .iadd, .inl .iaload, .inl (.istore 3), .inl (.iload 3), .inl (.iload 2), .inl (.if_icmp .eq (.ofNat 27)), .inl (.aload 0), .inl (.iload 2), .inl (.invokevirtual 155), .inl (.ifCond .eq (.ofNat 27)), .inr (.int (-3)), .inl .ireturn, .inl (.aload 0), .inl (.getfield 192), .inr (.int 5), .inl (.iload 1), .inl .imul, .inr (.int 0), .inl .iadd, .inl (.iload 3), .inr (.int (-4)), .inl (.if_icmp .ne (.ofNat 39)), .inr (.int 0), .inl (.goto (.ofNat 47)), .inl (.aload 0), .inl (.getfield 192), .inr (.int 5), .inl (.iload 1), .inl .imul, .inr (.int 0), .inl .iadd, .inl .iaload, .inl .iastore, .inl (.aload 0), .inr (.int 5), .inl (.iload 1), .inl .imul, .inr (.int 3), .inl .iadd, .inl (.iload 2), .inl (.invokevirtual 153), .inl .ireturn]
def pb_X6_move : List Nat := [0, 1, 2, 5, 8, 9, 12, 15, 16, 17, 18, 21, 22, 23, 24, 25, 26, 27, 28, 29, 30, 33, 34, 35, 38, 41, 43, 44, 45, 48, 49, 50, 51, 52, 53, 54, 56, 59, 60, 63, 64, 67, 68, 69, 70, 71, 72, 73, 74, 75, 76, 77, 78, 79, 80, 81, 84]
def cd_X6_leave : List ev_I := [.inl (.aload 0), .inl (.iload 1), .inl (.invokevirtual 136), .inl (.ifCond .ne (.ofNat 6)), .inr (.int (-1)), .inl .ireturn, .inl (.aload 0), .inl (.iload 1), .inl (.invokevirtual 154), .inl (.ifCond .eq (.ofNat 12)), .inr (.int (-2)), .inl .ireturn, .inl (.aload 0), .inl (.getfield 192), .inr (.int 5), .inl (.iload 1), .inl .imul, .inr (.int 0), .inl .iadd, .inr (.int 3), .inl .iastore, .inl (.aload 0), .inl (.getfield 192), .inr (.int 40), .inl .dup2, .inl .iaload, .inr (.int 1), .inl (.iload 1), .inl .ishl, .inr (.int (-1)), .inl .ixor, .inl .iand, .inl .iastore, .inl (.aload 0), .inr (.int 5), .inl (.iload 1), .inl .imul, .inr (.int 3), .inl .iadd, .inr (.int (-4)), .inl (.invokevirtual 153), .inl .ireturn]
def pb_X6_leave : List Nat := [0, 1, 2, 5, 8, 9, 10, 11, 12, 15, 18, 20, 21, 22, 25, 26, 27, 28, 29, 30, 31, 32, 33, 36, 38, 39, 40, 41, 42, 43, 44, 45, 46, 47, 48, 49, 50, 51, 52, 53, 55, 58]
def cd_X6_swap : List ev_I := [.inl (.aload 0), .inl (.iload 1), .inl (.invokevirtual 136), .inl (.ifCond .eq (.ofNat 11)), .inl (.aload 0), .inl (.iload 2), .inl (.invokevirtual 136), .inl (.ifCond .eq (.ofNat 11)), .inl (.iload 1), .inl (.iload 2), .inl (.if_icmp .ne (.ofNat 13)), .inr (.int (-1)), .inl .ireturn, .inl (.aload 0), .inl (.getfield 192), .inr (.int 5), .inl (.iload 1), .inl .imul, .inr (.int 3), .inl .iadd, .inl .iaload, .inl (.istore 3), .inl (.aload 0), .inl (.getfield 192), .inr (.int 5), .inl (.iload 2), .inl .imul, .inr (.int 3), .inl .iadd, .inl .iaload, .inl (.istore 4), .inl (.iload 3), .inr (.int (-4)), .inl (.if_icmp .eq (.ofNat 40)), .inl (.iload 4), .inr (.int (-4)), .inl (.if_icmp .eq (.ofNat 40)), .inl (.iload 3), .inl (.iload 4), .inl (.if_icmp .ne (.ofNat 42)), .inr (.int (-2)), .inl .ireturn, .inl (.aload 0), .inl (.getfield 192), .inr (.int 5), .inl (.iload 1), .inl .imul, .inr (.int 3), .inl .iadd, .inl (.iload 4), .inl .iastore, .inl (.aload 0), .inl (.getfield 192), .inr (.int 5), .inl (.iload 2), .inl .imul, .inr (.int 3), .inl .iadd, .inl (.iload 3), .inl .iastore, .inl (.iload 4), .inl .ireturn]
def pb_X6_swap : List Nat := [0, 1, 2, 5, 8, 9, 10, 13, 16, 17, 18, 21, 22, 23, 24, 27, 28, 29, 30, 31, 32, 33, 34, 35, 38, 39, 40, 41, 42, 43, 44, 46, 47, 49, 52, 54, 56, 59, 60, 62, 65, 67, 68, 69, 72, 73, 74, 75, 76, 77, 79, 80, 81, 84, 85, 86, 87, 88, 89, 90, 91, 93]
def cd_X6_becomesBit : List ev_I := [.inl (.aload 0), .inl (.getfield 192), .inl (.iload 1), .inl .iaload, .inl (.iload 2), .inl .ishr, .inr (.int 1), .inl .iand, .inl (.istore 4), .inl (.aload 0), .inl (.getfield 192), .inl (.iload 1), .inl (.iload 3), .inl (.ifCond .eq (.ofNat 23)), .inl (.aload 0), .inl (.getfield 192), .inl (.iload 1), .inl .iaload, .inr (.int 1), .inl (.iload 2), .inl .ishl, .inl .ior, .inl (.goto (.ofNat 33)), .inl (.aload 0), .inl (.getfield 192), .inl (.iload 1), .inl .iaload, .inr (.int 1), .inl (.iload 2), .inl .ishl, .inr (.int (-1)), .inl .ixor, .inl .iand, .inl .iastore, .inl (.iload 4), .inl .ireturn]
def pb_X6_becomesBit : List Nat := [0, 1, 4, 5, 6, 7, 8, 9, 10, 12, 13, 16, 17, 18, 21, 22, 25, 26, 27, 28, 29, 30, 31, 34, 35, 38, 39, 40, 41, 42, 43, 44, 45, 46, 47, 49]
def cd_X6_watch : List ev_I := [.inl (.aload 0), .inl (.iload 1), .inl (.invokevirtual 136), .inl (.ifCond .ne (.ofNat 6)), .inr (.int (-1)), .inl .ireturn, .inl (.aload 0), .inl (.iload 1), .inl (.invokevirtual 154), .inl (.ifCond .eq (.ofNat 12)), .inr (.int (-2)), .inl (.goto (.ofNat 17)), .inl (.aload 0), .inr (.int 40), .inl (.iload 1), .inl (.iload 2), .inl (.invokevirtual 159), .inl .ireturn]
def pb_X6_watch : List Nat := [0, 1, 2, 5, 8, 9, 10, 11, 12, 15, 18, 20, 23, 24, 26, 27, 28, 31]
def cd_X6_kin : List ev_I := [.inl (.aload 0), .inl (.iload 1), .inl (.invokevirtual 136), .inl (.ifCond .eq (.ofNat 11)), .inl (.aload 0), .inl (.iload 2), .inl (.invokevirtual 136), .inl (.ifCond .eq (.ofNat 11)), .inl (.iload 1), .inl (.iload 2), .inl (.if_icmp .ne (.ofNat 13)), .inr (.int (-1)), .inl .ireturn, .inl (.aload 0), .inr (.int 5), .inl (.iload 2), .inl .imul, .inr (.int 4), .inl .iadd, .inl (.iload 1), .inl (.iload 3), .inl (.invokevirtual 159), .inl .pop, .inl (.aload 0), .inr (.int 5), .inl (.iload 1), .inl .imul, .inr (.int 4), .inl .iadd, .inl (.iload 2), .inl (.iload 3), .inl (.invokevirtual 159), .inl .ireturn]
def pb_X6_kin : List Nat := [0, 1, 2, 5, 8, 9, 10, 13, 16, 17, 18, 21, 22, 23, 24, 25, 26, 27, 28, 29, 30, 31, 34, 35, 36, 37, 38, 39, 40, 41, 42, 43, 46]
def cd_X6_odd : List ev_I := [.inl (.aload 0), .inl (.iload 1), .inl (.invokevirtual 136), .inl (.ifCond .eq (.ofNat 10)), .inl (.iload 2), .inl .i2l, .inr (.long 0), .inr (.long 9), .inl (.invokestatic 114), .inl (.ifCond .ne (.ofNat 12)), .inr (.int (-1)), .inl .ireturn, .inl (.aload 0), .inl (.getfield 192), .inr (.int 5), .inl (.iload 1), .inl .imul, .inr (.int 0), .inl .iadd, .inl .iaload, .inr (.int 2), .inl (.if_icmp .ne (.ofNat 24)), .inr (.int (-2)), .inl (.goto (.ofNat 32)), .inl (.aload 0), .inr (.int 5), .inl (.iload 1), .inl .imul, .inr (.int 1), .inl .iadd, .inl (.iload 2), .inl (.invokevirtual 153), .inl .ireturn]
def pb_X6_odd : List Nat := [0, 1, 2, 5, 8, 9, 10, 11, 14, 17, 20, 21, 22, 23, 26, 27, 28, 29, 30, 31, 32, 33, 36, 38, 41, 42, 43, 44, 45, 46, 47, 48, 51]
def cd_X6_law : List ev_I := [.inl (.iload 1), .inl (.invokestatic 138), .inl (.ifCond .eq (.ofNat 13)), .inl (.iload 2), .inl .i2l, .inr (.long 0), .inl (.iload 1), .inl (.ifCond .ne (.ofNat 10)), .inr (.long 99), .inl (.goto (.ofNat 11)), .inr (.long 9), .inl (.invokestatic 114), .inl (.ifCond .ne (.ofNat 15)), .inr (.int (-1)), .inl .ireturn, .inl (.aload 0), .inl (.iload 1), .inl (.ifCond .ne (.ofNat 20)), .inr (.int 41), .inl (.goto (.ofNat 21)), .inr (.int 42), .inl (.iload 2), .inl (.invokevirtual 153), .inl .ireturn]
def pb_X6_law : List Nat := [0, 1, 4, 7, 8, 9, 10, 11, 14, 17, 20, 23, 26, 29, 30, 31, 32, 33, 36, 38, 41, 43, 44, 47]
def cd_X6_goods : List ev_I := [.inl (.aload 0), .inl (.iload 1), .inl (.invokevirtual 136), .inl (.ifCond .eq (.ofNat 19)), .inl (.iload 2), .inl .i2l, .inr (.long 0), .inr (.long 99), .inl (.invokestatic 114), .inl (.ifCond .eq (.ofNat 19)), .inl (.aload 0), .inr (.int 5), .inl (.iload 1), .inl .imul, .inr (.int 2), .inl .iadd, .inl (.iload 2), .inl (.invokevirtual 153), .inl (.goto (.ofNat 20)), .inr (.int (-1)), .inl .ireturn]
def pb_X6_goods : List Nat := [0, 1, 2, 5, 8, 9, 10, 11, 14, 17, 20, 21, 22, 23, 24, 25, 26, 27, 30, 33, 34]
def cd_X6_pay : List ev_I := [.inl (.iload 2), .inl (.aload 0), .inl (.iload 1), .inr (.int 2), .inl (.invokevirtual 142), .inl (.if_icmp .ge (.ofNat 8)), .inl (.iload 2), .inl (.goto (.ofNat 12)), .inl (.aload 0), .inl (.iload 1), .inr (.int 2), .inl (.invokevirtual 142), .inl (.istore 3), .inl (.aload 0), .inl (.iload 1), .inr (.int 2), .inl (.aload 0), .inl (.iload 1), .inr (.int 2), .inl (.invokevirtual 142), .inl (.iload 3), .inl .isub, .inl (.invokevirtual 143), .inl (.iload 3), .inl .ireturn]
def pb_X6_pay : List Nat := [0, 1, 2, 3, 4, 7, 10, 11, 14, 15, 16, 17, 20, 21, 22, 23, 24, 25, 26, 27, 30, 31, 32, 35, 36]
def cd_X6_runs : List ev_I := [.inl (.aload 0), .inl (.iload 1), .inr (.int 3), .inl (.invokevirtual 142), .inr (.int (-4)), .inl (.if_icmp .ne (.ofNat 8)), .inr (.int 0), .inl .ireturn, .inl (.aload 0), .inl (.aload 0), .inl (.iload 1), .inr (.int 3), .inl (.invokevirtual 142), .inl (.invokevirtual 144), .inr (.int 1), .inl (.iload 1), .inl .ishl, .inr (.int (-1)), .inl .ixor, .inl .iand, .inl (.aload 0), .inl (.iload 1), .inr (.int 4), .inl (.invokevirtual 142), .inr (.int (-1)), .inl .ixor, .inl .iand, .inl (.istore 2), .inl (.iload 2), .inl (.invokestatic 139), .inl (.istore 3), .inr (.int 0), .inl (.istore 4), .inl (.iload 3), .inl (.ifCond .ne (.ofNat 37)), .inr (.int 0), .inl (.goto (.ofNat 43)), .inl (.aload 0), .inl (.getfield 193), .inr (.int 41), .inl .iaload, .inl (.iload 3), .inl .irem, .inl (.istore 5), .inr (.int 0), .inl (.istore 6), .inl .nop, .inl (.iload 6), .inl (.aload 0), .inl (.getfield 195), .inl (.if_icmp .ge (.ofNat 90)), .inl (.iload 2), .inl (.iload 6), .inl .ishr, .inr (.int 1), .inl .iand, .inr (.int 1), .inl (.if_icmp .ne (.ofNat 88)), .inl (.aload 0), .inl (.iload 6), .inl (.aload 0), .inl (.getfield 193), .inr (.int 41), .inl .iaload, .inl (.iload 3), .inl .idiv, .inl (.iload 5), .inl (.ifCond .le (.ofNat 70)), .inr (.int 1), .inl (.goto (.ofNat 71)), .inr (.int 0), .inl (.invokestatic 115), .inl .iadd, .inl (.invokevirtual 165), .inl (.istore 7), .inl (.iinc 5 (-1)), .inl (.aload 0), .inl (.getfield 211), .inl (.iload 6), .inl .dup2, .inl .iaload, .inl (.iload 7), .inl .iadd, .inl .iastore, .inl (.iload 4), .inl (.iload 7), .inl .iadd, .inl (.istore 4), .inl (.iinc 6 1), .inl (.goto (.ofNat 46)), .inl (.iload 4), .inl .ireturn]
def pb_X6_runs : List Nat := [0, 1, 2, 3, 6, 8, 11, 12, 13, 14, 15, 16, 17, 20, 23, 24, 25, 26, 27, 28, 29, 30, 31, 32, 35, 36, 37, 38, 39, 40, 43, 44, 45, 47, 48, 51, 52, 55, 56, 59, 61, 62, 63, 64, 66, 67, 69, 69, 71, 72, 75, 78, 79, 81, 82, 83, 84, 85, 88, 89, 91, 92, 95, 97, 98, 99, 100, 102, 105, 106, 109, 110, 113, 114, 117, 119, 122, 123, 126, 128, 129, 130, 132, 133, 134, 136, 138, 139, 141, 144, 147, 149]
def cd_X6_watches : List ev_I := [.inl (.aload 0), .inl (.iload 1), .inl (.invokevirtual 144), .inl (.istore 2), .inl (.aload 0), .inl (.getfield 193), .inr (.int 42), .inl .iaload, .inl (.iload 2), .inl (.aload 0), .inl (.getfield 193), .inr (.int 40), .inl .iaload, .inl .iand, .inl (.invokestatic 139), .inl .imul, .inl (.istore 3), .inr (.int 0), .inl (.istore 4), .inr (.int 0), .inl (.istore 5), .inl .nop, .inl (.iload 5), .inl (.aload 0), .inl (.getfield 195), .inl (.if_icmp .ge (.ofNat 48)), .inl (.iload 2), .inl (.iload 5), .inl .ishr, .inr (.int 1), .inl .iand, .inr (.int 1), .inl (.if_icmp .ne (.ofNat 46)), .inl (.aload 0), .inl (.iload 5), .inl (.iload 3), .inl (.invokevirtual 165), .inl (.istore 6), .inl (.iload 3), .inl (.iload 6), .inl .isub, .inl (.istore 3), .inl (.iload 4), .inl (.iload 6), .inl .iadd, .inl (.istore 4), .inl (.iinc 5 1), .inl (.goto (.ofNat 21)), .inl (.iload 4), .inl .ireturn]
def pb_X6_watches : List Nat := [0, 1, 2, 5, 6, 7, 10, 12, 13, 14, 15, 18, 20, 21, 22, 25, 26, 27, 28, 30, 31, 33, 33, 35, 36, 39, 42, 43, 45, 46, 47, 48, 49, 52, 53, 55, 56, 59, 61, 62, 64, 65, 66, 68, 70, 71, 73, 76, 79, 81]
def cd_X6_yearGoes : List ev_I := [.inr (.int 0), .inl (.istore 2), .inr (.int 0), .inl (.istore 3), .inl .nop, .inl (.iload 3), .inr (.int 8), .inl (.if_icmp .ge (.ofNat 15)), .inl (.aload 0), .inl (.getfield 211), .inl (.iload 3), .inr (.int 0), .inl .iastore, .inl (.iinc 3 1), .inl (.goto (.ofNat 4)), .inr (.int 0), .inl (.istore 3), .inl .nop, .inl (.iload 3), .inl (.aload 0), .inl (.getfield 195), .inl (.if_icmp .ge (.ofNat 39)), .inl (.iload 2), .inl (.iload 1), .inl (.iload 3), .inl .ishr, .inr (.int 1), .inl .iand, .inr (.int 1), .inl (.if_icmp .ne (.ofNat 34)), .inl (.aload 0), .inl (.iload 3), .inl (.invokevirtual 166), .inl (.goto (.ofNat 35)), .inr (.int 0), .inl .iadd, .inl (.istore 2), .inl (.iinc 3 1), .inl (.goto (.ofNat 17)), .inr (.int 0), .inl (.istore 3), .inl .nop, .inl (.iload 3), .inr (.int 4), .inl (.if_icmp .ge (.ofNat 53)), .inl (.iload 2), .inl (.aload 0), .inl (.iload 3), .inl (.invokevirtual 167), .inl .iadd, .inl (.istore 2), .inl (.iinc 3 1), .inl (.goto (.ofNat 41)), .inl (.aload 0), .inl (.getfield 193), .inr (.int 43), .inl .dup2, .inl .iaload, .inr (.int 1), .inl .iadd, .inl .iastore, .inl (.iload 2), .inl .ireturn]
def pb_X6_yearGoes : List Nat := [0, 1, 2, 3, 4, 4, 5, 7, 10, 11, 14, 15, 16, 17, 20, 23, 24, 25, 25, 26, 27, 30, 33, 34, 35, 36, 37, 38, 39, 40, 43, 44, 45, 48, 51, 52, 53, 54, 57, 60, 61, 62, 62, 63, 64, 67, 68, 69, 70, 73, 74, 75, 78, 81, 82, 85, 87, 88, 89, 90, 91, 92, 93]
def cd_X6_saints : List ev_I := [.inr (.int 0), .inl (.istore 1), .inr (.int 0), .inl (.istore 2), .inl .nop, .inl (.iload 2), .inl (.aload 0), .inl (.getfield 195), .inl (.if_icmp .ge (.ofNat 30)), .inl (.iload 1), .inl (.aload 0), .inl (.getfield 192), .inr (.int 5), .inl (.iload 2), .inl .imul, .inr (.int 0), .inl .iadd, .inl .iaload, .inr (.int 2), .inl (.if_icmp .ne (.ofNat 22)), .inr (.int 1), .inl (.goto (.ofNat 23)), .inr (.int 0), .inl (.invokestatic 115), .inl (.iload 2), .inl .ishl, .inl .ior, .inl (.istore 1), .inl (.iinc 2 1), .inl (.goto (.ofNat 4)), .inl (.iload 1), .inl .ireturn]
def pb_X6_saints : List Nat := [0, 1, 2, 3, 4, 4, 5, 6, 9, 12, 13, 14, 17, 18, 19, 20, 21, 22, 23, 24, 27, 28, 31, 32, 35, 36, 37, 38, 39, 42, 45, 46]
def cd_X6_isWrong : List ev_I := [.inl (.iload 1), .inl .i2l, .inr (.long 0), .inr (.int 1), .inl (.aload 0), .inl (.getfield 195), .inl .ishl, .inr (.int 1), .inl .isub, .inl .i2l, .inl (.invokestatic 114), .inl (.ifCond .eq (.ofNat 19)), .inl (.iload 1), .inl (.aload 0), .inl (.invokevirtual 169), .inl .iand, .inl (.ifCond .ne (.ofNat 19)), .inr (.int 1), .inl (.goto (.ofNat 20)), .inr (.int 0), .inl (.ret 0)]
def pb_X6_isWrong : List Nat := [0, 1, 2, 3, 4, 5, 8, 9, 10, 11, 12, 15, 18, 19, 20, 23, 24, 27, 28, 31, 32]
def cd_X6_year : List ev_I := [.inl (.aload 0), .inl (.iload 1), .inl (.invokevirtual 170), .inl (.ifCond .ne (.ofNat 6)), .inr (.int (-1)), .inl .ireturn, .inl (.aload 0), .inl (.getfield 192), .inr (.int 43), .inl .iaload, .inr (.int 99), .inl (.if_icmp .ne (.ofNat 14)), .inr (.int (-3)), .inl .ireturn, .inl (.aload 0), .inl (.invokevirtual 140), .inl (.aload 0), .inl (.iload 1), .inl (.invokevirtual 168), .inl (.istore 2), .inl (.aload 0), .inl (.invokevirtual 141), .inl (.iload 2), .inl .ireturn]
def pb_X6_year : List Nat := [0, 1, 2, 5, 8, 9, 10, 11, 14, 16, 17, 19, 22, 24, 25, 26, 29, 30, 31, 34, 35, 36, 39, 40]
def cd_X6_pays : List ev_I := [.inl (.aload 0), .inl (.iload 1), .inl (.invokevirtual 136), .inl (.ifCond .eq (.ofNat 8)), .inl (.aload 0), .inl (.iload 2), .inl (.invokevirtual 170), .inl (.ifCond .ne (.ofNat 10)), .inr (.int (-1)), .inl .ireturn, .inl (.aload 0), .inl (.invokevirtual 140), .inl (.aload 0), .inl (.iload 2), .inl (.invokevirtual 168), .inl .pop, .inl (.aload 0), .inl (.getfield 211), .inl (.iload 1), .inl .iaload, .inl .ireturn]
def pb_X6_pays : List Nat := [0, 1, 2, 5, 8, 9, 10, 13, 16, 17, 18, 19, 22, 23, 24, 27, 28, 29, 32, 33, 34]
def cd_X6_harm : List ev_I := [.inl (.aload 0), .inl (.invokevirtual 140), .inl (.aload 0), .inl (.invokevirtual 148), .inl .ireturn]
def pb_X6_harm : List Nat := [0, 1, 4, 5, 8]
def cd_X6_common : List ev_I := [.inl (.lload 0), .inl (.lstore 4), .inl (.lload 2), .inl (.lstore 6), .inl .nop, .inl (.lload 6), .inr (.long 0), .inl .lcmp, .inl (.ifCond .eq (.ofNat 18)), .inl (.lload 4), .inl (.lload 6), .inl .lrem, .inl (.lstore 8), .inl (.lload 6), .inl (.lstore 4), .inl (.lload 8), .inl (.lstore 6), .inl (.goto (.ofNat 4)), .inl (.lload 4), .inl .lreturn]
def pb_X6_common : List Nat := [0, 1, 3, 4, 6, 6, 8, 9, 10, 13, 15, 17, 18, 20, 22, 24, 26, 28, 31, 33]
def cd_X6_told : List ev_I := [.inl (.lload 2), .inl (.lload 0), .inl (.invokestatic 174), .inl (.lstore 5), .inl (.iload 4), .inl (.ifCond .ne (.ofNat 10)), .inl (.lload 0), .inl (.lload 5), .inl .ldiv, .inl (.goto (.ofNat 13)), .inl (.lload 2), .inl (.lload 5), .inl .ldiv, .inl .lreturn]
def pb_X6_told : List Nat := [0, 1, 2, 5, 7, 9, 12, 13, 15, 16, 19, 20, 22, 23]
def cd_X6_calm : List ev_I := [.inl (.iload 1), .inl (.invokestatic 137), .inl (.ifCond .eq (.ofNat 6)), .inl (.iload 2), .inl (.invokestatic 138), .inl (.ifCond .ne (.ofNat 8)), .inr (.long (-1)), .inl .lreturn, .inr (.long 1), .inl (.lstore 3), .inr (.long 1), .inl (.lstore 5), .inl (.aload 0), .inl (.invokevirtual 140), .inr (.int 0), .inl (.istore 7), .inl .nop, .inl (.iload 7), .inl (.aload 0), .inl (.getfield 195), .inl (.if_icmp .ge (.ofNat 54)), .inl (.aload 0), .inl (.iload 7), .inr (.int 3), .inl (.invokevirtual 142), .inl (.iload 1), .inl (.if_icmp .ne (.ofNat 29)), .inr (.int 1), .inl (.goto (.ofNat 30)), .inr (.int 0), .inl (.istore 8), .inl (.lload 3), .inl (.iload 8), .inl (.ifCond .eq (.ofNat 41)), .inr (.int 10), .inl (.aload 0), .inl (.iload 7), .inl (.invokevirtual 146), .inl .isub, .inl .i2l, .inl (.goto (.ofNat 42)), .inr (.long 1), .inl .lmul, .inl (.lstore 3), .inl (.lload 5), .inl (.iload 8), .inl (.ifCond .eq (.ofNat 49)), .inr (.long 10), .inl (.goto (.ofNat 50)), .inr (.long 1), .inl .lmul, .inl (.lstore 5), .inl (.iinc 7 1), .inl (.goto (.ofNat 16)), .inl (.lload 3), .inl (.lload 5), .inl (.iload 2), .inl (.invokestatic 175), .inl .lreturn]
def pb_X6_calm : List Nat := [0, 1, 4, 7, 8, 11, 14, 17, 18, 19, 20, 21, 23, 24, 27, 28, 30, 30, 32, 33, 36, 39, 40, 42, 43, 46, 47, 50, 51, 54, 55, 57, 58, 60, 63, 65, 66, 68, 71, 72, 73, 76, 77, 78, 79, 81, 83, 86, 89, 92, 93, 94, 96, 99, 102, 103, 105, 106, 109]
def cd_X6_findOdds : List ev_I := [.inl (.aload 0), .inl (.invokevirtual 140), .inr (.int 0), .inl (.istore 1), .inl .nop, .inl (.iload 1), .inl (.aload 0), .inl (.getfield 195), .inl (.if_icmp .ge (.ofNat 18)), .inl (.aload 0), .inl (.getfield 212), .inl (.iload 1), .inl (.aload 0), .inl (.iload 1), .inl (.invokevirtual 146), .inl .iastore, .inl (.iinc 1 1), .inl (.goto (.ofNat 4)), .inl .return_]
def pb_X6_findOdds : List Nat := [0, 1, 4, 5, 6, 6, 7, 8, 11, 14, 15, 18, 19, 20, 21, 24, 25, 28, 31]
def cd_X6_mean : List ev_I := [.inl (.aload 0), .inl (.iload 1), .inl (.invokevirtual 136), .inl (.ifCond .eq (.ofNat 7)), .inl (.iload 2), .inl (.invokestatic 138), .inl (.ifCond .ne (.ofNat 9)), .inr (.long (-1)), .inl .lreturn, .inr (.long 0), .inl (.lstore 3), .inr (.long 1), .inl (.lstore 5), .inl (.aload 0), .inl (.invokevirtual 177), .inr (.int 0), .inl (.istore 7), .inl .nop, .inl (.iload 7), .inl (.aload 0), .inl (.getfield 195), .inl (.if_icmp .ge (.ofNat 28)), .inl (.lload 5), .inr (.long 10), .inl .lmul, .inl (.lstore 5), .inl (.iinc 7 1), .inl (.goto (.ofNat 17)), .inr (.int 0), .inl (.istore 7), .inl .nop, .inl (.iload 7), .inr (.int 1), .inl (.aload 0), .inl (.getfield 195), .inl .ishl, .inl (.if_icmp .ge (.ofNat 89)), .inr (.long 1), .inl (.lstore 8), .inr (.int 0), .inl (.istore 10), .inl .nop, .inl (.iload 10), .inl (.aload 0), .inl (.getfield 195), .inl (.if_icmp .ge (.ofNat 71)), .inl (.lload 8), .inl (.iload 7), .inl (.iload 10), .inl .ishr, .inr (.int 1), .inl .iand, .inr (.int 1), .inl (.if_icmp .ne (.ofNat 60)), .inl (.aload 0), .inl (.getfield 212), .inl (.iload 10), .inl .iaload, .inl .i2l, .inl (.goto (.ofNat 67)), .inr (.int 10), .inl (.aload 0), .inl (.getfield 212), .inl (.iload 10), .inl .iaload, .inl .isub, .inl .i2l, .inl .lmul, .inl (.lstore 8), .inl (.iinc 10 1), .inl (.goto (.ofNat 41)), .inl (.aload 0), .inl (.invokevirtual 140), .inl (.aload 0), .inl (.iload 7), .inl (.invokevirtual 168), .inl .pop, .inl (.lload 3), .inl (.lload 8), .inl (.aload 0), .inl (.getfield 211), .inl (.iload 1), .inl .iaload, .inl .i2l, .inl .lmul, .inl .ladd, .inl (.lstore 3), .inl (.iinc 7 1), .inl (.goto (.ofNat 30)), .inl (.lload 3), .inl (.lload 5), .inl (.iload 2), .inl (.invokestatic 175), .inl .lreturn]
def pb_X6_mean : List Nat := [0, 1, 2, 5, 8, 9, 12, 15, 18, 19, 20, 21, 22, 24, 25, 28, 29, 31, 31, 33, 34, 37, 40, 42, 45, 46, 48, 51, 54, 55, 57, 57, 59, 60, 61, 64, 65, 68, 69, 71, 72, 74, 74, 76, 77, 80, 83, 85, 87, 89, 90, 91, 92, 93, 96, 97, 100, 102, 103, 104, 107, 109, 110, 113, 115, 116, 117, 118, 119, 121, 124, 127, 128, 131, 132, 134, 137, 138, 139, 141, 142, 145, 146, 147, 148, 149, 150, 151, 154, 157, 158, 160, 161, 164]
def cd_X6_puttings : List ev_I := [.inr (.int 1), .inl (.istore 1), .inr (.int 0), .inl (.istore 2), .inl .nop, .inl (.iload 2), .inl (.aload 0), .inl (.getfield 195), .inl (.if_icmp .ge (.ofNat 21)), .inl (.iload 1), .inl (.aload 0), .inl (.iload 2), .inl (.invokevirtual 154), .inl (.ifCond .eq (.ofNat 16)), .inr (.int 1), .inl (.goto (.ofNat 17)), .inr (.int 4), .inl .imul, .inl (.istore 1), .inl (.iinc 2 1), .inl (.goto (.ofNat 4)), .inl (.iload 1), .inl .ireturn]
def pb_X6_puttings : List Nat := [0, 1, 2, 3, 4, 4, 5, 6, 9, 12, 13, 14, 15, 18, 21, 22, 25, 26, 27, 28, 31, 34, 35]
def cd_X6_putsBy : List ev_I := [.inl (.iload 1), .inl (.istore 2), .inr (.int 1), .inl (.istore 3), .inl (.aload 0), .inl (.invokevirtual 140), .inl (.aload 0), .inl (.getfield 195), .inr (.int 1), .inl .isub, .inl (.istore 4), .inl .nop, .inl (.iload 4), .inl (.ifCond .lt (.ofNat 31)), .inl (.aload 0), .inl (.iload 4), .inl (.invokevirtual 154), .inl (.ifCond .ne (.ofNat 29)), .inl (.aload 0), .inl (.iload 4), .inr (.int 3), .inl (.iload 2), .inr (.int 4), .inl .irem, .inl (.invokevirtual 143), .inl (.iload 2), .inr (.int 4), .inl .idiv, .inl (.istore 2), .inl (.iinc 4 (-1)), .inl (.goto (.ofNat 11)), .inr (.int 0), .inl (.istore 4), .inl .nop, .inl (.iload 4), .inr (.int 4), .inl (.if_icmp .ge (.ofNat 54)), .inl (.iload 3), .inl (.ifCond .eq (.ofNat 50)), .inl (.aload 0), .inl (.iload 4), .inl (.invokevirtual 144), .inl (.invokestatic 139), .inl (.aload 0), .inl (.getfield 196), .inl (.iload 4), .inl .iaload, .inl (.if_icmp .gt (.ofNat 50)), .inr (.int 1), .inl (.goto (.ofNat 51)), .inr (.int 0), .inl (.istore 3), .inl (.iinc 4 1), .inl (.goto (.ofNat 33)), .inl (.iload 3), .inl (.ret 0)]
def pb_X6_putsBy : List Nat := [0, 1, 2, 3, 4, 5, 8, 9, 12, 13, 14, 16, 16, 18, 21, 22, 24, 27, 30, 31, 33, 34, 35, 36, 37, 40, 41, 42, 43, 44, 47, 50, 51, 53, 53, 55, 56, 59, 60, 63, 64, 66, 69, 72, 73, 76, 78, 79, 82, 83, 86, 87, 88, 91, 94, 95]
def cd_X6_best : List ev_I := [.inl (.iload 1), .inl (.ifCond .eq (.ofNat 10)), .inl (.aload 0), .inl (.iload 1), .inr (.int 10), .inl .isub, .inl (.invokevirtual 136), .inl (.ifCond .ne (.ofNat 10)), .inr (.int (-1)), .inl .ireturn, .inr (.int 1000000000), .inl (.istore 2), .inr (.int 0), .inl (.istore 3), .inr (.int 0), .inl (.istore 4), .inl .nop, .inl (.iload 4), .inl (.aload 0), .inl (.invokevirtual 179), .inl (.if_icmp .ge (.ofNat 46)), .inl (.aload 0), .inl (.iload 4), .inl (.invokevirtual 180), .inl (.ifCond .eq (.ofNat 28)), .inl (.aload 0), .inl (.invokevirtual 148), .inl (.goto (.ofNat 29)), .inr (.int 1000000000), .inl (.istore 5), .inl (.iload 5), .inl (.iload 2), .inl (.if_icmp .ge (.ofNat 35)), .inl (.iload 4), .inl (.goto (.ofNat 36)), .inl (.iload 3), .inl (.istore 3), .inl (.iload 5), .inl (.iload 2), .inl (.if_icmp .ge (.ofNat 42)), .inl (.iload 5), .inl (.goto (.ofNat 43)), .inl (.iload 2), .inl (.istore 2), .inl (.iinc 4 1), .inl (.goto (.ofNat 16)), .inl (.aload 0), .inl (.iload 3), .inl (.invokevirtual 180), .inl .pop, .inl (.iload 1), .inl (.ifCond .ne (.ofNat 54)), .inl (.iload 2), .inl (.goto (.ofNat 60)), .inl (.aload 0), .inl (.iload 1), .inr (.int 10), .inl .isub, .inr (.int 3), .inl (.invokevirtual 142), .inl .ireturn]
def pb_X6_best : List Nat := [0, 1, 4, 5, 6, 8, 9, 12, 15, 16, 17, 20, 21, 22, 23, 24, 26, 26, 28, 29, 32, 35, 36, 38, 41, 44, 45, 48, 51, 54, 56, 58, 59, 62, 64, 67, 68, 69, 71, 72, 75, 77, 80, 81, 82, 85, 88, 89, 90, 93, 94, 95, 98, 99, 102, 103, 104, 106, 107, 108, 111]
def cd_X6_change : List ev_I := [.inl (.iload 1), .inl (.invokestatic 138), .inl (.ifCond .ne (.ofNat 5)), .inr (.int (-1)), .inl .ireturn, .inl (.aload 0), .inl (.invokevirtual 173), .inl (.istore 2), .inr (.int (-4)), .inl (.istore 3), .inr (.int 0), .inl (.istore 4), .inl .nop, .inl (.iload 4), .inl (.aload 0), .inl (.getfield 195), .inl (.if_icmp .ge (.ofNat 82)), .inl (.iload 4), .inr (.int 1), .inl .iadd, .inl (.istore 5), .inl .nop, .inl (.iload 5), .inl (.aload 0), .inl (.getfield 195), .inl (.if_icmp .ge (.ofNat 80)), .inl (.aload 0), .inl (.invokevirtual 140), .inl (.aload 0), .inl (.iload 4), .inr (.int 3), .inl (.invokevirtual 142), .inl (.istore 6), .inl (.aload 0), .inl (.iload 5), .inr (.int 3), .inl (.invokevirtual 142), .inl (.istore 7), .inl (.iload 6), .inr (.int (-4)), .inl (.if_icmp .eq (.ofNat 78)), .inl (.iload 7), .inr (.int (-4)), .inl (.if_icmp .eq (.ofNat 78)), .inl (.iload 6), .inl (.iload 7), .inl (.if_icmp .eq (.ofNat 78)), .inl (.aload 0), .inl (.iload 4), .inr (.int 3), .inl (.iload 7), .inl (.invokevirtual 143), .inl (.aload 0), .inl (.iload 5), .inr (.int 3), .inl (.iload 6), .inl (.invokevirtual 143), .inl (.aload 0), .inl (.invokevirtual 148), .inl (.istore 8), .inl (.iload 8), .inl (.iload 2), .inl (.if_icmp .ge (.ofNat 69)), .inr (.int 10), .inl (.iload 4), .inl .imul, .inl (.iload 5), .inl .iadd, .inl (.goto (.ofNat 70)), .inl (.iload 3), .inl (.istore 3), .inl (.iload 8), .inl (.iload 2), .inl (.if_icmp .ge (.ofNat 76)), .inl (.iload 8), .inl (.goto (.ofNat 77)), .inl (.iload 2), .inl (.istore 2), .inl (.iinc 5 1), .inl (.goto (.ofNat 21)), .inl (.iinc 4 1), .inl (.goto (.ofNat 12)), .inl (.iload 3), .inr (.int (-4)), .inl (.if_icmp .ne (.ofNat 87)), .inr (.int (-4)), .inl (.goto (.ofNat 92)), .inl (.iload 1), .inl (.ifCond .ne (.ofNat 91)), .inl (.iload 3), .inl (.goto (.ofNat 92)), .inl (.iload 2), .inl .ireturn]
def pb_X6_change : List Nat := [0, 1, 4, 7, 8, 9, 10, 13, 14, 16, 17, 18, 20, 20, 22, 23, 26, 29, 31, 32, 33, 35, 35, 37, 38, 41, 44, 45, 48, 49, 51, 52, 55, 57, 58, 60, 61, 64, 66, 68, 70, 73, 75, 77, 80, 82, 84, 87, 88, 90, 91, 93, 96, 97, 99, 100, 102, 105, 106, 109, 111, 113, 114, 117, 119, 121, 122, 124, 125, 128, 129, 130, 132, 133, 136, 138, 141, 142, 143, 146, 149, 152, 155, 156, 158, 161, 163, 166, 167, 170, 171, 174, 175]
def cd_X6_takes : List ev_I := [.inl (.aload 0), .inl (.iload 1), .inl (.invokevirtual 136), .inl (.ifCond .ne (.ofNat 6)), .inr (.int (-1)), .inl .ireturn, .inr (.int 10), .inl (.aload 0), .inl (.getfield 192), .inr (.int 41), .inl .iaload, .inl .imul, .inl (.istore 2), .inr (.int (-4)), .inl (.istore 3), .inr (.int 0), .inl (.istore 4), .inl .nop, .inl (.iload 4), .inr (.int 4), .inl (.if_icmp .ge (.ofNat 76)), .inl (.aload 0), .inl (.getfield 192), .inr (.int 5), .inl (.iload 1), .inl .imul, .inr (.int 3), .inl .iadd, .inl .iaload, .inl (.iload 4), .inl (.if_icmp .eq (.ofNat 74)), .inl (.aload 0), .inl (.iload 4), .inl (.invokevirtual 155), .inl (.ifCond .ne (.ofNat 74)), .inl (.aload 0), .inl (.invokevirtual 140), .inl (.aload 0), .inl (.iload 1), .inr (.int 0), .inl (.aload 0), .inl (.iload 1), .inl (.invokevirtual 154), .inl (.ifCond .eq (.ofNat 46)), .inr (.int 0), .inl (.goto (.ofNat 50)), .inl (.aload 0), .inl (.iload 1), .inr (.int 0), .inl (.invokevirtual 142), .inl (.invokevirtual 143), .inl (.aload 0), .inl (.iload 1), .inr (.int 3), .inl (.iload 4), .inl (.invokevirtual 143), .inl (.aload 0), .inl (.iload 4), .inl (.invokevirtual 147), .inl (.istore 5), .inl (.iload 5), .inl (.iload 2), .inl (.if_icmp .ge (.ofNat 65)), .inl (.iload 4), .inl (.goto (.ofNat 66)), .inl (.iload 3), .inl (.istore 3), .inl (.iload 5), .inl (.iload 2), .inl (.if_icmp .ge (.ofNat 72)), .inl (.iload 5), .inl (.goto (.ofNat 73)), .inl (.iload 2), .inl (.istore 2), .inl (.iinc 4 1), .inl (.goto (.ofNat 17)), .inl (.iload 3), .inl .ireturn]
def pb_X6_takes : List Nat := [0, 1, 2, 5, 8, 9, 10, 12, 13, 16, 18, 19, 20, 21, 23, 24, 25, 27, 27, 29, 30, 33, 34, 37, 38, 39, 40, 41, 42, 43, 45, 48, 49, 51, 54, 57, 58, 61, 62, 63, 64, 65, 66, 69, 72, 73, 76, 77, 78, 79, 82, 85, 86, 87, 88, 90, 93, 94, 96, 99, 101, 103, 104, 107, 109, 112, 113, 114, 116, 117, 120, 122, 125, 126, 127, 130, 133, 134]
def cd_X6_goesAway : List ev_I := [.inl (.aload 0), .inl (.iload 1), .inr (.int 3), .inr (.int (-4)), .inl (.invokevirtual 143), .inl (.aload 0), .inl (.iload 1), .inr (.int 0), .inr (.int 3), .inl (.invokevirtual 143), .inl (.aload 0), .inl (.getfield 193), .inr (.int 40), .inl .dup2, .inl .iaload, .inr (.int 1), .inl (.iload 1), .inl .ishl, .inr (.int (-1)), .inl .ixor, .inl .iand, .inl .iastore, .inl .return_]
def pb_X6_goesAway : List Nat := [0, 1, 2, 3, 5, 8, 9, 10, 11, 12, 15, 16, 19, 21, 22, 23, 24, 25, 26, 27, 28, 29, 30]
def cd_X6_weight : List ev_I := [.inl (.aload 0), .inl (.iload 1), .inl (.invokevirtual 136), .inl (.ifCond .ne (.ofNat 6)), .inr (.int (-1)), .inl .ireturn, .inl (.aload 0), .inl (.iload 1), .inl (.invokevirtual 154), .inl (.ifCond .eq (.ofNat 12)), .inr (.int (-2)), .inl .ireturn, .inl (.aload 0), .inl (.invokevirtual 140), .inl (.aload 0), .inl (.iload 1), .inr (.int 3), .inl (.invokevirtual 142), .inl (.istore 2), .inl (.aload 0), .inl (.iload 2), .inl (.invokevirtual 147), .inl (.istore 3), .inl (.aload 0), .inl (.iload 1), .inl (.invokevirtual 184), .inr (.int 1000), .inl (.iload 3), .inl .iadd, .inl (.aload 0), .inl (.iload 2), .inl (.invokevirtual 147), .inl .isub, .inl .ireturn]
def pb_X6_weight : List Nat := [0, 1, 2, 5, 8, 9, 10, 11, 12, 15, 18, 20, 21, 22, 25, 26, 27, 28, 31, 32, 33, 34, 37, 38, 39, 40, 43, 46, 47, 48, 49, 50, 53, 54]
def cd_X6_should : List ev_I := [.inl (.aload 0), .inl (.iload 1), .inl (.invokevirtual 136), .inl (.ifCond .ne (.ofNat 6)), .inr (.int (-1)), .inl .ireturn, .inl (.aload 0), .inl (.iload 1), .inl (.invokevirtual 154), .inl (.ifCond .eq (.ofNat 12)), .inr (.int (-2)), .inl .ireturn, .inl (.aload 0), .inl (.invokevirtual 173), .inl (.istore 2), .inr (.int 0), .inl (.istore 3), .inl (.aload 0), .inl (.getfield 193), .inr (.int 40), .inl .dup2, .inl .iaload, .inr (.int 1), .inl (.iload 1), .inl .ishl, .inl .ixor, .inl .iastore, .inl (.aload 0), .inl (.invokevirtual 148), .inl (.iload 2), .inl (.if_icmp .ge (.ofNat 36)), .inr (.int 1), .inl (.istore 3), .inl (.aload 0), .inl (.invokevirtual 148), .inl (.istore 2), .inl (.aload 0), .inl (.invokevirtual 140), .inl (.aload 0), .inl (.iload 1), .inl (.invokevirtual 184), .inl (.aload 0), .inl (.invokevirtual 148), .inl (.iload 2), .inl (.if_icmp .ge (.ofNat 47)), .inr (.int 2), .inl (.goto (.ofNat 48)), .inl (.iload 3), .inl .ireturn]
def pb_X6_should : List Nat := [0, 1, 2, 5, 8, 9, 10, 11, 12, 15, 18, 20, 21, 22, 25, 26, 27, 28, 29, 32, 34, 35, 36, 37, 38, 39, 40, 41, 42, 45, 46, 49, 50, 51, 52, 55, 56, 57, 60, 61, 62, 65, 66, 69, 70, 73, 74, 77, 78]
def cd_X6_guard : List ev_I := [.inl (.iload 1), .inl (.invokestatic 138), .inl (.ifCond .ne (.ofNat 5)), .inr (.int (-1)), .inl .ireturn, .inr (.int 1000000000), .inl (.istore 2), .inr (.int 0), .inl (.istore 3), .inr (.int 0), .inl (.istore 4), .inl .nop, .inl (.iload 4), .inr (.int 1), .inl (.aload 0), .inl (.getfield 195), .inl .ishl, .inl (.if_icmp .ge (.ofNat 55)), .inl (.iload 4), .inl (.aload 0), .inr (.int 5), .inl (.invokevirtual 150), .inl .iand, .inl (.ifCond .ne (.ofNat 53)), .inl (.aload 0), .inl (.invokevirtual 140), .inl (.aload 0), .inl (.getfield 193), .inr (.int 40), .inl (.iload 4), .inl .iastore, .inr (.int 10), .inl (.aload 0), .inl (.invokevirtual 148), .inl .imul, .inl (.iload 4), .inl (.invokestatic 139), .inl .iadd, .inl (.istore 5), .inl (.iload 5), .inl (.iload 2), .inl (.if_icmp .ge (.ofNat 44)), .inl (.iload 4), .inl (.goto (.ofNat 45)), .inl (.iload 3), .inl (.istore 3), .inl (.iload 5), .inl (.iload 2), .inl (.if_icmp .ge (.ofNat 51)), .inl (.iload 5), .inl (.goto (.ofNat 52)), .inl (.iload 2), .inl (.istore 2), .inl (.iinc 4 1), .inl (.goto (.ofNat 11)), .inl (.iload 1), .inl (.ifCond .ne (.ofNat 59)), .inl (.iload 3), .inl (.goto (.ofNat 62)), .inl (.iload 2), .inr (.int 10), .inl .idiv, .inl .ireturn]
def pb_X6_guard : List Nat := [0, 1, 4, 7, 8, 9, 12, 13, 14, 15, 16, 18, 18, 20, 21, 22, 25, 26, 29, 31, 32, 33, 36, 37, 40, 41, 44, 45, 48, 50, 52, 53, 55, 56, 59, 60, 62, 65, 66, 68, 70, 71, 74, 76, 79, 80, 81, 83, 84, 87, 89, 92, 93, 94, 97, 100, 101, 104, 105, 108, 109, 111, 112]
def cd_X6_worth : List ev_I := [.inl (.aload 0), .inl (.iload 1), .inl (.invokevirtual 136), .inl (.ifCond .ne (.ofNat 6)), .inr (.int (-1)), .inl .ireturn, .inl (.aload 0), .inl (.iload 1), .inl (.invokevirtual 154), .inl (.ifCond .eq (.ofNat 12)), .inr (.int (-2)), .inl .ireturn, .inr (.int 9), .inl (.istore 2), .inl .nop, .inl (.iload 2), .inl (.ifCond .lt (.ofNat 65)), .inl (.aload 0), .inl (.invokevirtual 140), .inl (.aload 0), .inl (.getfield 193), .inr (.int 42), .inl (.iload 2), .inl .iastore, .inl (.aload 0), .inl (.getfield 193), .inr (.int 40), .inl .dup2, .inl .iaload, .inr (.int 1), .inl (.iload 1), .inl .ishl, .inl .ior, .inl .iastore, .inl (.aload 0), .inl (.aload 0), .inl (.iload 1), .inr (.int 3), .inl (.invokevirtual 142), .inl (.invokevirtual 147), .inl (.istore 3), .inl (.aload 0), .inl (.getfield 193), .inr (.int 40), .inl .dup2, .inl .iaload, .inr (.int 1), .inl (.iload 1), .inl .ishl, .inr (.int (-1)), .inl .ixor, .inl .iand, .inl .iastore, .inl (.iload 3), .inl (.aload 0), .inl (.aload 0), .inl (.iload 1), .inr (.int 3), .inl (.invokevirtual 142), .inl (.invokevirtual 147), .inl (.if_icmp .ge (.ofNat 63)), .inl (.iload 2), .inl .ireturn, .inl (.iinc 2 (-1)), .inl (.goto (.ofNat 14)), .inr (.int (-4)), .inl .ireturn]
def pb_X6_worth : List Nat := [0, 1, 2, 5, 8, 9, 10, 11, 12, 15, 18, 20, 21, 23, 24, 24, 25, 28, 29, 32, 33, 36, 38, 39, 40, 41, 44, 46, 47, 48, 49, 50, 51, 52, 53, 54, 55, 56, 57, 60, 63, 64, 65, 68, 70, 71, 72, 73, 74, 75, 76, 77, 78, 79, 80, 81, 82, 83, 84, 87, 90, 93, 94, 95, 98, 101, 103]
def cd_X6_see : List ev_I := [.inl (.aload 0), .inl (.iload 1), .inl (.invokevirtual 136), .inl (.ifCond .eq (.ofNat 10)), .inl (.iload 2), .inl .i2l, .inr (.long 0), .inr (.long 99), .inl (.invokestatic 114), .inl (.ifCond .ne (.ofNat 12)), .inr (.int (-1)), .inl .ireturn, .inl (.aload 0), .inl (.getfield 192), .inr (.int 44), .inl .iaload, .inr (.int 6), .inl (.if_icmp .ne (.ofNat 20)), .inr (.int (-3)), .inl .ireturn, .inl (.aload 0), .inl (.getfield 192), .inr (.int 45), .inr (.int 2), .inl (.aload 0), .inl (.getfield 192), .inr (.int 44), .inl .iaload, .inl .imul, .inl .iadd, .inl (.iload 1), .inl .iastore, .inl (.aload 0), .inl (.getfield 192), .inr (.int 45), .inr (.int 2), .inl (.aload 0), .inl (.getfield 192), .inr (.int 44), .inl .iaload, .inl .imul, .inl .iadd, .inr (.int 1), .inl .iadd, .inl (.iload 2), .inl .iastore, .inl (.aload 0), .inl (.getfield 192), .inr (.int 44), .inl .dup2, .inl .iaload, .inr (.int 1), .inl .iadd, .inl .iastore, .inl (.aload 0), .inl (.getfield 192), .inr (.int 44), .inl .iaload, .inl .ireturn]
def pb_X6_see : List Nat := [0, 1, 2, 5, 8, 9, 10, 11, 14, 17, 20, 21, 22, 23, 26, 28, 29, 31, 34, 36, 37, 38, 41, 43, 44, 45, 48, 50, 51, 52, 53, 54, 55, 56, 59, 61, 62, 63, 66, 68, 69, 70, 71, 72, 73, 74, 75, 76, 79, 81, 82, 83, 84, 85, 86, 87, 90, 92, 93]
def cd_X6_forget : List ev_I := [.inl (.iload 1), .inl .i2l, .inr (.long 0), .inl (.aload 0), .inl (.getfield 192), .inr (.int 44), .inl .iaload, .inl .i2l, .inl (.invokestatic 114), .inl (.ifCond .eq (.ofNat 15)), .inl (.aload 0), .inr (.int 44), .inl (.iload 1), .inl (.invokevirtual 153), .inl (.goto (.ofNat 16)), .inr (.int (-1)), .inl .ireturn]
def pb_X6_forget : List Nat := [0, 1, 2, 3, 4, 7, 9, 10, 11, 14, 17, 18, 20, 21, 24, 27, 28]
def cd_X6_isSo : List ev_I := [.inl (.aload 0), .inl (.iload 1), .inl (.invokevirtual 170), .inl (.istore 2), .inl (.aload 0), .inl (.invokevirtual 140), .inl (.aload 0), .inl (.iload 1), .inl (.invokevirtual 168), .inl .pop, .inr (.int 0), .inl (.istore 3), .inl .nop, .inl (.iload 3), .inl (.aload 0), .inl (.getfield 192), .inr (.int 44), .inl .iaload, .inl (.if_icmp .ge (.ofNat 60)), .inl (.aload 0), .inl (.getfield 192), .inr (.int 45), .inr (.int 2), .inl (.iload 3), .inl .imul, .inl .iadd, .inl .iaload, .inl (.istore 4), .inl (.iload 2), .inl (.ifCond .eq (.ofNat 56)), .inl (.aload 0), .inl (.getfield 192), .inr (.int 5), .inl (.iload 4), .inl .imul, .inr (.int 2), .inl .iadd, .inl .iaload, .inl (.aload 0), .inl (.iload 4), .inr (.int 2), .inl (.invokevirtual 142), .inl .isub, .inl (.aload 0), .inl (.getfield 192), .inr (.int 45), .inr (.int 2), .inl (.iload 3), .inl .imul, .inl .iadd, .inr (.int 1), .inl .iadd, .inl .iaload, .inl (.if_icmp .ne (.ofNat 56)), .inr (.int 1), .inl (.goto (.ofNat 57)), .inr (.int 0), .inl (.istore 2), .inl (.iinc 3 1), .inl (.goto (.ofNat 12)), .inl (.iload 2), .inl (.ret 0)]
def pb_X6_isSo : List Nat := [0, 1, 2, 5, 6, 7, 10, 11, 12, 15, 16, 17, 18, 18, 19, 20, 23, 25, 26, 29, 30, 33, 35, 36, 37, 38, 39, 40, 42, 43, 46, 47, 50, 51, 53, 54, 55, 56, 57, 58, 60, 61, 64, 65, 66, 69, 71, 72, 73, 74, 75, 76, 77, 78, 81, 82, 85, 86, 87, 90, 93, 94]
def cd_X6_tensOf : List ev_I := [.inr (.int 0), .inl (.istore 2), .inr (.int 0), .inl (.istore 3), .inl .nop, .inl (.iload 3), .inl (.aload 0), .inl (.getfield 195), .inl (.if_icmp .ge (.ofNat 43)), .inl (.iload 1), .inl (.iload 3), .inl .ishr, .inr (.int 1), .inl .iand, .inr (.int 1), .inl (.if_icmp .ne (.ofNat 22)), .inl (.aload 0), .inl (.iload 3), .inl (.invokevirtual 154), .inl (.ifCond .ne (.ofNat 22)), .inr (.int 1), .inl (.goto (.ofNat 23)), .inr (.int 0), .inl (.istore 4), .inl (.iload 2), .inl (.iload 4), .inl (.ifCond .eq (.ofNat 38)), .inr (.int 1), .inl (.aload 0), .inl (.getfield 192), .inr (.int 5), .inl (.iload 3), .inl .imul, .inr (.int 3), .inl .iadd, .inl .iaload, .inl .ishl, .inl (.goto (.ofNat 39)), .inr (.int 0), .inl .ior, .inl (.istore 2), .inl (.iinc 3 1), .inl (.goto (.ofNat 4)), .inl (.iload 2), .inl .ireturn]
def pb_X6_tensOf : List Nat := [0, 1, 2, 3, 4, 4, 5, 6, 9, 12, 13, 14, 15, 16, 17, 18, 21, 22, 23, 26, 29, 30, 33, 34, 36, 37, 39, 42, 43, 44, 47, 48, 49, 50, 51, 52, 53, 54, 57, 58, 59, 60, 63, 66, 67]
def cd_X6_fits : List ev_I := [.inl (.iload 1), .inl .i2l, .inr (.long 0), .inr (.long 4), .inl (.invokestatic 114), .inl (.ifCond .ne (.ofNat 8)), .inr (.int (-1)), .inl .ireturn, .inr (.int 1), .inl (.aload 0), .inl (.getfield 195), .inl .ishl, .inr (.int 1), .inl .isub, .inl (.istore 2), .inr (.int 0), .inl (.istore 3), .inr (.int (-4)), .inl (.istore 4), .inl (.iload 2), .inl (.istore 5), .inr (.int 0), .inl (.istore 6), .inr (.int 15), .inl (.istore 7), .inr (.int 0), .inl (.istore 8), .inl .nop, .inl (.iload 8), .inl (.iload 2), .inl (.if_icmp .gt (.ofNat 58)), .inl (.aload 0), .inl (.iload 8), .inl (.invokevirtual 191), .inl (.ifCond .eq (.ofNat 56)), .inl (.iload 3), .inl (.ifCond .ne (.ofNat 39)), .inl (.iload 8), .inl (.goto (.ofNat 40)), .inl (.iload 4), .inl (.istore 4), .inl (.iload 5), .inl (.iload 8), .inl .iand, .inl (.istore 5), .inl (.iload 6), .inl (.iload 8), .inl .ior, .inl (.istore 6), .inl (.iload 7), .inl (.aload 0), .inl (.iload 8), .inl (.invokevirtual 192), .inl .iand, .inl (.istore 7), .inl (.iinc 3 1), .inl (.iinc 8 1), .inl (.goto (.ofNat 27)), .inl (.iload 1), .inl (.ifCond .eq (.ofNat 62)), .inl (.iload 3), .inl (.ifCond .ne (.ofNat 68)), .inl (.iload 1), .inl (.ifCond .ne (.ofNat 66)), .inl (.iload 3), .inl (.goto (.ofNat 67)), .inr (.int (-4)), .inl .ireturn, .inl (.iload 1), .inr (.int 1), .inl (.if_icmp .ne (.ofNat 73)), .inl (.iload 4), .inl (.goto (.ofNat 93)), .inl (.iload 1), .inr (.int 2), .inl (.if_icmp .ne (.ofNat 78)), .inl (.iload 5), .inl (.goto (.ofNat 93)), .inl (.iload 1), .inr (.int 3), .inl (.if_icmp .ne (.ofNat 92)), .inl (.iload 2), .inl (.iload 6), .inr (.int (-1)), .inl .ixor, .inl .iand, .inl (.aload 0), .inl (.invokevirtual 169), .inr (.int (-1)), .inl .ixor, .inl .iand, .inl (.goto (.ofNat 93)), .inl (.iload 7), .inl .ireturn]
def pb_X6_fits : List Nat := [0, 1, 2, 3, 6, 9, 12, 13, 14, 15, 16, 19, 20, 21, 22, 23, 24, 25, 27, 29, 30, 32, 33, 35, 37, 39, 40, 42, 42, 44, 45, 48, 49, 51, 54, 57, 58, 61, 63, 66, 68, 70, 72, 74, 75, 77, 79, 81, 82, 84, 86, 87, 89, 92, 93, 95, 98, 101, 104, 105, 108, 109, 112, 113, 116, 117, 120, 122, 123, 124, 125, 128, 130, 133, 134, 135, 138, 140, 143, 144, 145, 148, 149, 151, 152, 153, 154, 155, 158, 159, 160, 161, 164, 166]
def cd_X6_drift : List ev_I := [.inl (.iload 2), .inl .i2l, .inr (.long 1), .inr (.long 60), .inl (.invokestatic 114), .inl (.ifCond .eq (.ofNat 9)), .inl (.iload 3), .inl (.invokestatic 138), .inl (.ifCond .ne (.ofNat 11)), .inr (.int (-1)), .inl .ireturn, .inl (.iload 1), .inl (.istore 4), .inr (.int 0), .inl (.istore 5), .inl (.aload 0), .inl (.invokevirtual 177), .inr (.int 0), .inl (.istore 6), .inl .nop, .inl (.iload 6), .inl (.iload 2), .inl (.if_icmp .ge (.ofNat 69)), .inr (.int 0), .inl (.istore 7), .inr (.int 0), .inl (.istore 8), .inl .nop, .inl (.iload 8), .inl (.aload 0), .inl (.getfield 195), .inl (.if_icmp .ge (.ofNat 61)), .inl (.iload 4), .inr (.int 1103515245), .inl .imul, .inr (.int 12345), .inl .iadd, .inl (.istore 4), .inl (.iload 7), .inl (.iload 4), .inr (.int 16), .inl .ishr, .inr (.int 32767), .inl .iand, .inr (.int 10), .inl .irem, .inl (.aload 0), .inl (.getfield 212), .inl (.iload 8), .inl .iaload, .inl (.if_icmp .ge (.ofNat 53)), .inr (.int 1), .inl (.goto (.ofNat 54)), .inr (.int 0), .inl (.invokestatic 115), .inl (.iload 8), .inl .ishl, .inl .ior, .inl (.istore 7), .inl (.iinc 8 1), .inl (.goto (.ofNat 27)), .inl (.iload 5), .inl (.aload 0), .inl (.iload 7), .inl (.invokevirtual 168), .inl .iadd, .inl (.istore 5), .inl (.iinc 6 1), .inl (.goto (.ofNat 19)), .inl (.iload 3), .inl (.ifCond .ne (.ofNat 73)), .inl (.iload 5), .inl (.goto (.ofNat 81)), .inl (.aload 0), .inr (.int 1), .inl (.aload 0), .inl (.getfield 195), .inl .ishl, .inr (.int 1), .inl .isub, .inl (.invokevirtual 149), .inl .ireturn]
def pb_X6_drift : List Nat := [0, 1, 2, 3, 6, 9, 12, 13, 16, 19, 20, 21, 22, 24, 25, 27, 28, 31, 32, 34, 34, 36, 37, 40, 41, 43, 44, 46, 46, 48, 49, 52, 55, 57, 60, 61, 64, 65, 67, 69, 71, 73, 74, 77, 78, 80, 81, 82, 85, 87, 88, 91, 92, 95, 96, 99, 101, 102, 103, 105, 108, 111, 113, 114, 116, 119, 120, 122, 125, 128, 129, 132, 134, 137, 138, 139, 140, 143, 144, 145, 146, 149]
def cd_X6_copies : List ev_I := [.inr (.int 0), .inl (.istore 3), .inl .nop, .inl (.iload 3), .inr (.int 57), .inl (.if_icmp .ge (.ofNat 20)), .inl (.aload 0), .inl (.getfield 192), .inl (.iload 1), .inl (.iload 3), .inl .iadd, .inl (.aload 0), .inl (.getfield 192), .inl (.iload 2), .inl (.iload 3), .inl .iadd, .inl .iaload, .inl .iastore, .inl (.iinc 3 1), .inl (.goto (.ofNat 2)), .inl .return_]
def pb_X6_copies : List Nat := [0, 1, 2, 2, 3, 5, 8, 9, 12, 13, 14, 15, 16, 19, 20, 21, 22, 23, 24, 27, 30]
def cd_X6_keep : List ev_I := [.inl (.iload 1), .inl .i2l, .inr (.long 0), .inr (.long 1), .inl (.invokestatic 114), .inl (.ifCond .ne (.ofNat 8)), .inr (.int (-1)), .inl .ireturn, .inl (.aload 0), .inl (.getfield 194), .inl (.iload 1), .inl .baload, .inl (.invokestatic 115), .inl (.istore 2), .inl (.aload 0), .inl (.getfield 194), .inl (.iload 1), .inr (.int 1), .inl .bastore, .inl (.aload 0), .inr (.int 57), .inl (.iload 1), .inr (.int 1), .inl .iadd, .inl .imul, .inr (.int 0), .inl (.invokevirtual 195), .inl (.iload 2), .inl .ireturn]
def pb_X6_keep : List Nat := [0, 1, 2, 3, 4, 7, 10, 11, 12, 13, 16, 17, 18, 21, 22, 23, 26, 27, 28, 29, 30, 32, 33, 34, 35, 36, 37, 40, 41]
def cd_X6_back : List ev_I := [.inl (.iload 1), .inl .i2l, .inr (.long 0), .inr (.long 1), .inl (.invokestatic 114), .inl (.ifCond .ne (.ofNat 8)), .inr (.int (-1)), .inl .ireturn, .inl (.aload 0), .inl (.getfield 194), .inl (.iload 1), .inl .baload, .inl (.ifCond .ne (.ofNat 15)), .inr (.int (-2)), .inl .ireturn, .inl (.aload 0), .inr (.int 0), .inr (.int 57), .inl (.iload 1), .inr (.int 1), .inl .iadd, .inl .imul, .inl (.invokevirtual 195), .inl (.aload 0), .inl (.getfield 192), .inr (.int 43), .inl .iaload, .inl .ireturn]
def pb_X6_back : List Nat := [0, 1, 2, 3, 4, 7, 10, 11, 12, 13, 16, 17, 18, 21, 23, 24, 25, 26, 28, 29, 30, 31, 32, 35, 36, 39, 41, 42]
def cd_X6_isSheet : List ev_I := [.inl (.iload 0), .inl .i2l, .inr (.long 0), .inr (.long 3), .inl (.invokestatic 114), .inl (.ifCond .eq (.ofNat 14)), .inl (.iload 1), .inl .i2l, .inr (.long 0), .inr (.long 2), .inl (.invokestatic 114), .inl (.ifCond .eq (.ofNat 14)), .inr (.int 1), .inl (.goto (.ofNat 15)), .inr (.int 0), .inl (.ret 0)]
def pb_X6_isSheet : List Nat := [0, 1, 2, 3, 6, 9, 12, 13, 14, 15, 18, 21, 24, 25, 28, 29]
def cd_X6_sheet : List ev_I := [.inl (.iload 1), .inl (.iload 2), .inl (.invokestatic 198), .inl (.ifCond .eq (.ofNat 7)), .inl (.iload 3), .inr (.int 40), .inl (.if_icmp .le (.ofNat 9)), .inr (.int (-1)), .inl .ireturn, .inl (.iload 3), .inl (.ifCond .ge (.ofNat 13)), .inr (.int (-14)), .inl .ireturn, .inl (.aload 0), .inl (.getfield 213), .inl (.iload 1), .inl (.iload 2), .inl .iastore, .inl (.aload 0), .inl (.getfield 214), .inl (.iload 1), .inl (.iload 3), .inl .iastore, .inr (.int 0), .inl (.istore 4), .inl .nop, .inl (.iload 4), .inr (.int 40), .inl (.if_icmp .ge (.ofNat 40)), .inl (.aload 0), .inl (.getfield 215), .inr (.int 40), .inl (.iload 1), .inl .imul, .inl (.iload 4), .inl .iadd, .inr (.int 0), .inl .iastore, .inl (.iinc 4 1), .inl (.goto (.ofNat 25)), .inr (.int 1), .inl .ireturn]
def pb_X6_sheet : List Nat := [0, 1, 2, 5, 8, 9, 11, 14, 15, 16, 17, 20, 22, 23, 24, 27, 28, 29, 30, 31, 34, 35, 36, 37, 38, 40, 40, 42, 44, 47, 48, 51, 53, 54, 55, 57, 58, 59, 60, 63, 66, 67]
def cd_X6_lay : List ev_I := [.inl (.iload 1), .inr (.int 0), .inl (.invokestatic 198), .inl (.ifCond .ne (.ofNat 6)), .inr (.int (-1)), .inl .ireturn, .inl (.aload 0), .inl (.getfield 213), .inl (.iload 1), .inl .iaload, .inr (.int (-4)), .inl (.if_icmp .ne (.ofNat 14)), .inr (.int (-11)), .inl .ireturn, .inl (.iload 2), .inl .i2l, .inr (.long 0), .inl (.aload 0), .inl (.getfield 214), .inl (.iload 1), .inl .iaload, .inr (.int 1), .inl .isub, .inl .i2l, .inl (.invokestatic 114), .inl (.ifCond .ne (.ofNat 28)), .inr (.int (-12)), .inl .ireturn, .inl (.aload 0), .inl (.getfield 215), .inr (.int 40), .inl (.iload 1), .inl .imul, .inl (.iload 2), .inl .iadd, .inl (.aload 0), .inl (.getfield 213), .inl (.iload 1), .inl .iaload, .inl (.ifCond .ne (.ofNat 43)), .inl (.iload 3), .inl .i2b, .inl (.goto (.ofNat 53)), .inl (.aload 0), .inl (.getfield 213), .inl (.iload 1), .inl .iaload, .inr (.int 1), .inl (.if_icmp .ne (.ofNat 52)), .inl (.iload 3), .inl .i2s, .inl (.goto (.ofNat 53)), .inl (.iload 3), .inl .iastore, .inr (.int 1), .inl .ireturn]
def pb_X6_lay : List Nat := [0, 1, 2, 5, 8, 9, 10, 11, 14, 15, 16, 18, 21, 23, 24, 25, 26, 27, 28, 31, 32, 33, 34, 35, 36, 39, 42, 44, 45, 46, 49, 51, 52, 53, 54, 55, 56, 59, 60, 61, 64, 65, 66, 69, 70, 73, 74, 75, 76, 79, 80, 81, 84, 85, 86, 87]
def cd_X6_read : List ev_I := [.inl (.iload 1), .inl (.iload 2), .inl (.invokestatic 198), .inl (.ifCond .eq (.ofNat 10)), .inl (.iload 4), .inl .i2l, .inr (.long 0), .inr (.long 20), .inl (.invokestatic 114), .inl (.ifCond .ne (.ofNat 12)), .inr (.int (-1)), .inl .ireturn, .inr (.int 0), .inl (.istore 5), .inl .nop, .inl (.iload 5), .inr (.int 57), .inl (.if_icmp .ge (.ofNat 28)), .inl (.aload 0), .inl (.getfield 217), .inl (.iload 5), .inl (.aload 0), .inl (.getfield 192), .inl (.iload 5), .inl .iaload, .inl .iastore, .inl (.iinc 5 1), .inl (.goto (.ofNat 14)), .inr (.int 0), .inl (.istore 5), .inr (.int 0), .inl (.istore 6), .inr (.int 0), .inl (.istore 7), .inl .nop, .inl (.iload 7), .inl (.iload 4), .inl (.if_icmp .ge (.ofNat 147)), .inl (.iload 5), .inl (.ifCond .ne (.ofNat 147)), .inr (.int 0), .inl (.istore 8), .inl .nop, .inl (.iload 8), .inr (.int 2), .inl (.if_icmp .ge (.ofNat 93)), .inl (.iload 5), .inl (.ifCond .ne (.ofNat 93)), .inl (.iload 3), .inl .i2l, .inr (.int 2), .inl (.iload 7), .inl .imul, .inl .i2l, .inl .ladd, .inl (.iload 8), .inl .i2l, .inl .ladd, .inl (.lstore 9), .inl (.aload 0), .inl (.getfield 213), .inl (.iload 1), .inl .iaload, .inr (.int (-4)), .inl (.if_icmp .ne (.ofNat 67)), .inr (.int 1), .inl (.goto (.ofNat 90)), .inl (.aload 0), .inl (.getfield 213), .inl (.iload 1), .inl .iaload, .inl (.iload 2), .inl (.if_icmp .eq (.ofNat 75)), .inr (.int 3), .inl (.goto (.ofNat 90)), .inl (.lload 9), .inr (.long 0), .inl .lcmp, .inl (.ifCond .lt (.ofNat 87)), .inl (.lload 9), .inl (.aload 0), .inl (.getfield 214), .inl (.iload 1), .inl .iaload, .inl .i2l, .inl .lcmp, .inl (.ifCond .lt (.ofNat 89)), .inr (.int 2), .inl (.goto (.ofNat 90)), .inr (.int 0), .inl (.istore 5), .inl (.iinc 8 1), .inl (.goto (.ofNat 42)), .inl (.iload 5), .inl (.ifCond .ne (.ofNat 145)), .inr (.int 40), .inl (.iload 1), .inl .imul, .inl (.iload 3), .inl .iadd, .inr (.int 2), .inl (.iload 7), .inl .imul, .inl .iadd, .inl (.istore 8), .inl (.aload 0), .inl (.aload 0), .inl (.getfield 215), .inl (.iload 8), .inl .iaload, .inl (.aload 0), .inl (.getfield 215), .inl (.iload 8), .inr (.int 1), .inl .iadd, .inl .iaload, .inl (.invokevirtual 156), .inl (.istore 9), .inl (.iload 9), .inr (.int (-1)), .inl (.if_icmp .eq (.ofNat 124)), .inl (.iload 9), .inr (.int (-3)), .inl (.if_icmp .ne (.ofNat 144)), .inr (.int 0), .inl (.istore 10), .inl .nop, .inl (.iload 10), .inr (.int 57), .inl (.if_icmp .ge (.ofNat 140)), .inl (.aload 0), .inl (.getfield 192), .inl (.iload 10), .inl (.aload 0), .inl (.getfield 217), .inl (.iload 10), .inl .iaload, .inl .iastore, .inl (.iinc 10 1), .inl (.goto (.ofNat 126)), .inr (.int (-20)), .inl (.iload 7), .inl .isub, .inl .ireturn, .inl (.iinc 6 1), .inl (.iinc 7 1), .inl (.goto (.ofNat 34)), .inl (.aload 0), .inl (.iload 5), .inl (.putfield 216), .inl (.iload 6), .inl .ireturn]
def pb_X6_read : List Nat := [0, 1, 2, 5, 8, 10, 11, 12, 15, 18, 21, 22, 23, 24, 26, 26, 28, 30, 33, 34, 37, 39, 40, 43, 45, 46, 47, 50, 53, 54, 56, 57, 59, 60, 62, 62, 64, 66, 69, 71, 74, 75, 77, 77, 79, 80, 83, 85, 88, 89, 90, 91, 93, 94, 95, 96, 98, 99, 100, 102, 103, 106, 107, 108, 110, 113, 114, 117, 118, 121, 122, 123, 124, 127, 128, 131, 133, 134, 135, 138, 140, 141, 144, 145, 146, 147, 148, 151, 152, 155, 156, 158, 161, 164, 166, 169, 171, 172, 173, 174, 175, 176, 178, 179, 180, 182, 183, 184, 187, 189, 190, 191, 194, 196, 197, 198, 199, 202, 204, 206, 207, 210, 212, 214, 217, 218, 220, 220, 222, 224, 227, 228, 231, 233, 234, 237, 239, 240, 241, 244, 247, 249, 251, 252, 253, 256, 259, 262, 263, 265, 268, 270]
def cd_X6_torn : List ev_I := [.inl (.aload 0), .inl (.getfield 216), .inl .ireturn]
def pb_X6_torn : List Nat := [0, 1, 4]
def cd_X6_count : List ev_I := [.inl (.aload 0), .inl (.invokevirtual 140), .inr (.int 0), .inl (.istore 2), .inr (.int 0), .inl (.istore 3), .inr (.int 0), .inl (.istore 4), .inl .nop, .inl (.iload 4), .inr (.int 4), .inl (.if_icmp .ge (.ofNat 32)), .inl (.iload 2), .inl (.aload 0), .inl (.iload 4), .inl (.invokevirtual 144), .inl (.invokestatic 139), .inl .iadd, .inl (.istore 2), .inl (.iload 3), .inl (.aload 0), .inl (.iload 4), .inl (.invokevirtual 144), .inl (.ifCond .eq (.ofNat 26)), .inr (.int 1), .inl (.goto (.ofNat 27)), .inr (.int 0), .inl (.invokestatic 115), .inl .iadd, .inl (.istore 3), .inl (.iinc 4 1), .inl (.goto (.ofNat 8)), .inl (.iload 1), .inl (.tableswitch (.ofNat 80) 0 6 #[.ofNat 34, .ofNat 36, .ofNat 38, .ofNat 47, .ofNat 52, .ofNat 64, .ofNat 67]), .inl (.iload 2), .inl .ireturn, .inl (.iload 3), .inl .ireturn, .inl (.aload 0), .inr (.int 1), .inl (.aload 0), .inl (.getfield 195), .inl .ishl, .inr (.int 1), .inl .isub, .inl (.invokevirtual 149), .inl .ireturn, .inl (.aload 0), .inl (.getfield 192), .inr (.int 44), .inl .iaload, .inl .ireturn, .inl (.aload 0), .inl (.getfield 194), .inr (.int 0), .inl .baload, .inl (.invokestatic 115), .inl (.aload 0), .inl (.getfield 194), .inr (.int 1), .inl .baload, .inl (.invokestatic 115), .inl .iadd, .inl .ireturn, .inl (.aload 0), .inl (.getfield 204), .inl .ireturn, .inl (.aload 0), .inl (.getfield 213), .inr (.int 0), .inl .iaload, .inr (.int (-4)), .inl (.if_icmp .ne (.ofNat 75)), .inr (.int (-4)), .inl (.goto (.ofNat 79)), .inl (.aload 0), .inl (.getfield 214), .inr (.int 0), .inl .iaload, .inl .ireturn, .inr (.int (-1)), .inl .ireturn]
def pb_X6_count : List Nat := [0, 1, 4, 5, 6, 7, 8, 9, 11, 11, 13, 14, 17, 18, 19, 21, 24, 27, 28, 29, 30, 31, 33, 36, 39, 40, 43, 44, 47, 48, 49, 52, 55, 56, 100, 101, 102, 103, 104, 105, 106, 107, 110, 111, 112, 113, 116, 117, 118, 121, 123, 124, 125, 126, 129, 130, 131, 134, 135, 138, 139, 140, 143, 144, 145, 146, 149, 150, 151, 154, 155, 156, 158, 161, 163, 166, 167, 170, 171, 172, 173, 174]
def cd_J6_bitCount_0f7a4 : List ev_I := [.inl (.iload 0), .inl (.iload 0), .inr (.int 1), .inl .iushr, .inr (.int 1431655765), .inl .iand, .inl .isub, .inl (.istore 0), .inl (.iload 0), .inr (.int 858993459), .inl .iand, .inl (.iload 0), .inr (.int 2), .inl .iushr, .inr (.int 858993459), .inl .iand, .inl .iadd, .inl (.istore 0), .inl (.iload 0), .inl (.iload 0), .inr (.int 4), .inl .iushr, .inl .iadd, .inr (.int 252645135), .inl .iand, .inl (.istore 0), .inl (.iload 0), .inl (.iload 0), .inr (.int 8), .inl .iushr, .inl .iadd, .inl (.istore 0), .inl (.iload 0), .inl (.iload 0), .inr (.int 16), .inl .iushr, .inl .iadd, .inl (.istore 0), .inl (.iload 0), .inr (.int 63), .inl .iand, .inl .ireturn]
def pb_J6_bitCount_0f7a4 : List Nat := [0, 1, 2, 3, 4, 7, 8, 9, 10, 11, 14, 15, 16, 17, 18, 21, 22, 23, 24, 25, 26, 27, 28, 29, 32, 33, 34, 35, 36, 38, 39, 40, 41, 42, 43, 45, 46, 47, 48, 49, 51, 52]
def cd_J9_min_7cf53 : List ev_I := [.inl (.iload 0), .inl (.iload 1), .inl (.if_icmp .gt (.ofNat 5)), .inl (.iload 0), .inl (.goto (.ofNat 6)), .inl (.iload 1), .inl .ireturn]
def pb_J9_min_7cf53 : List Nat := [0, 1, 2, 5, 6, 9, 10]
def cd_J0_length_8abf5 : List ev_I := [.inl (.aload 0), .inl (.dload 0), .inl .arraylength, .inl (.aload 0), .inl (.invokevirtual 208), .inl .ishr, .inl .ireturn]
def pb_J0_length_8abf5 : List Nat := [0, 1, 4, 5, 6, 9, 10]
def cd_J0_charAt_5068e : List ev_I := [.inl (.aload 0), .inl (.invokevirtual 209), .inl (.ifCond .eq (.ofNat 8)), .inl (.aload 0), .inl (.dload 0), .inl (.iload 1), .inl (.invokestatic 211), .inl (.ret 2), .inl (.aload 0), .inl (.dload 0), .inl (.iload 1), .inl .athrow, .inl .athrow]
def pb_J0_charAt_5068e : List Nat := [0, 1, 4, 7, 8, 11, 12, 15, 16, 17, 20, 21, 24]
def cd_J0_coder_7d493 : List ev_I := [.inr (.int 1), .inl (.ifCond .eq (.ofNat 5)), .inl (.aload 0), .inl (.dload 1), .inl (.goto (.ofNat 6)), .inr (.int 1), .inl (.ret 1)]
def pb_J0_coder_7d493 : List Nat := [0, 3, 6, 7, 10, 13, 14]
def cd_J0_isLatin1_aae02 : List ev_I := [.inr (.int 1), .inl (.ifCond .eq (.ofNat 7)), .inl (.aload 0), .inl (.dload 1), .inl (.ifCond .ne (.ofNat 7)), .inr (.int 1), .inl (.goto (.ofNat 8)), .inr (.int 0), .inl (.ret 0)]
def pb_J0_isLatin1_aae02 : List Nat := [0, 3, 6, 7, 10, 13, 14, 17, 18]
def cd_J0_checkIndex_df160 : List ev_I := [.inl (.iload 0), .inl (.iload 1), .inr (.retAddr 4), .inl (.invokestatic 212), .inl .pop, .inl .return_]
def pb_J0_checkIndex_df160 : List Nat := [0, 1, 2, 5, 8, 9]
def cd_J1_charAt_3b067 : List ev_I := [.inl (.iload 1), .inl (.aload 0), .inl .arraylength, .inl (.invokestatic 210), .inl (.aload 0), .inl (.iload 1), .inl .caload, .inr (.int 255), .inl .iand, .inl .i2c, .inl (.ret 2)]
def pb_J1_charAt_3b067 : List Nat := [0, 1, 2, 3, 6, 7, 8, 9, 12, 13, 14]
def cd_J3_checkIndex_8e157 : List ev_I := [.inl (.iload 0), .inl (.ifCond .lt (.ofNat 5)), .inl (.iload 0), .inl (.iload 1), .inl (.if_icmp .lt (.ofNat 10)), .inl (.aload 2), .inl (.iload 0), .inl (.iload 1), .inl .athrow, .inl .athrow, .inl (.iload 0), .inl .ireturn]
def pb_J3_checkIndex_8e157 : List Nat := [0, 1, 4, 5, 6, 9, 10, 11, 12, 15, 16, 17]
def cd_L_law : List ev_I := [.inl (.new 5), .inl .dup, .inl (.invokespecial 63), .inl (.astore 1), .inl (.new 6), .inl .dup, .inl (.invokespecial 113), .inl (.astore 2), .inr (.int 0), .inl (.istore 3), .inl .nop, .inl (.iload 3), .inl (.aload 0), .inl .arraylength, .inr (.int 5), .inl .isub, .inl (.if_icmp .gt (.ofNat 879)), .inl (.aload 0), .inl (.iload 3), .inl .faload, .inr (.int 63), .inl .iand, .inl (.tableswitch (.ofNat 877) 0 37 #[.ofNat 23, .ofNat 40, .ofNat 57, .ofNat 64, .ofNat 71, .ofNat 88, .ofNat 115, .ofNat 142, .ofNat 169, .ofNat 186, .ofNat 213, .ofNat 248, .ofNat 293, .ofNat 320, .ofNat 347, .ofNat 374, .ofNat 391, .ofNat 418, .ofNat 425, .ofNat 453, .ofNat 481, .ofNat 498, .ofNat 515, .ofNat 532, .ofNat 549, .ofNat 566, .ofNat 583, .ofNat 600, .ofNat 627, .ofNat 644, .ofNat 661, .ofNat 698, .ofNat 715, .ofNat 732, .ofNat 769, .ofNat 806, .ofNat 853, .ofNat 860]), .inl (.aload 1), .inl (.aload 0), .inl (.iload 3), .inr (.int 1), .inl .iadd, .inl .faload, .inl (.invokevirtual 64), .inl (.aload 2), .inl (.aload 0), .inl (.iload 3), .inr (.int 1), .inl .iadd, .inl .faload, .inl (.invokevirtual 118), .inl (.if_icmp .eq (.ofNat 877)), .inr (.int 0), .inl (.ret 0), .inl (.aload 1), .inl (.aload 0), .inl (.iload 3), .inr (.int 1), .inl .iadd, .inl .faload, .inl (.invokevirtual 65), .inl (.aload 2), .inl (.aload 0), .inl (.iload 3), .inr (.int 1), .inl .iadd, .inl .faload, .inl (.invokevirtual 119), .inl (.if_icmp .eq (.ofNat 877)), .inr (.int 0), .inl (.ret 0), .inl (.aload 1), .inl (.invokevirtual 66), .inl (.aload 2), .inl (.invokevirtual 134), .inl (.if_icmp .eq (.ofNat 877)), .inr (.int 0), .inl (.ret 0), .inl (.aload 1), .inl (.invokevirtual 67), .inl (.aload 2), .inl (.invokevirtual 135), .inl (.if_icmp .eq (.ofNat 877)), .inr (.int 0), .inl (.ret 0), .inl (.aload 1), .inl (.aload 0), .inl (.iload 3), .inr (.int 1), .inl .iadd, .inl .faload, .inl (.invokevirtual 68), .inl (.aload 2), .inl (.aload 0), .inl (.iload 3), .inr (.int 1), .inl .iadd, .inl .faload, .inl (.invokevirtual 150), .inl (.if_icmp .eq (.ofNat 877)), .inr (.int 0), .inl (.ret 0), .inl (.aload 1), .inl (.aload 0), .inl (.iload 3), .inr (.int 1), .inl .iadd, .inl .faload, .inl (.aload 0), .inl (.iload 3), .inr (.int 2), .inl .iadd, .inl .faload, .inl (.invokevirtual 69), .inl (.aload 2), .inl (.aload 0), .inl (.iload 3), .inr (.int 1), .inl .iadd, .inl .faload, .inl (.aload 0), .inl (.iload 3), .inr (.int 2), .inl .iadd, .inl .faload, .inl (.invokevirtual 151), .inl (.if_icmp .eq (.ofNat 877)), .inr (.int 0), .inl (.ret 0), .inl (.aload 1), .inl (.aload 0), .inl (.iload 3), .inr (.int 1), .inl .iadd, .inl .faload, .inl (.aload 0), .inl (.iload 3), .inr (.int 2), .inl .iadd, .inl .faload, .inl (.invokevirtual 70), .inl (.aload 2), .inl (.aload 0), .inl (.iload 3), .inr (.int 1), .inl .iadd, .inl .faload, .inl (.aload 0), .inl (.iload 3), .inr (.int 2), .inl .iadd, .inl .faload, .inl (.invokevirtual 152), .inl (.if_icmp .eq (.ofNat 877)), .inr (.int 0), .inl (.ret 0), .inl (.aload 1), .inl (.aload 0), .inl (.iload 3), .inr (.int 1), .inl .iadd, .inl .faload, .inl (.aload 0), .inl (.iload 3), .inr (.int 2), .inl .iadd, .inl .faload, .inl (.invokevirtual 71), .inl (.aload 2), .inl (.aload 0), .inl (.iload 3), .inr (.int 1), .inl .iadd, .inl .faload, .inl (.aload 0), .inl (.iload 3), .inr (.int 2), .inl .iadd, .inl .faload, .inl (.invokevirtual 156), .inl (.if_icmp .eq (.ofNat 877)), .inr (.int 0), .inl (.ret 0), .inl (.aload 1), .inl (.aload 0), .inl (.iload 3), .inr (.int 1), .inl .iadd, .inl .faload, .inl (.invokevirtual 72), .inl (.aload 2), .inl (.aload 0), .inl (.iload 3), .inr (.int 1), .inl .iadd, .inl .faload, .inl (.invokevirtual 157), .inl (.if_icmp .eq (.ofNat 877)), .inr (.int 0), .inl (.ret 0), .inl (.aload 1), .inl (.aload 0), .inl (.iload 3), .inr (.int 1), .inl .iadd, .inl .faload, .inl (.aload 0), .inl (.iload 3), .inr (.int 2), .inl .iadd, .inl .faload, .inl (.invokevirtual 73), .inl (.aload 2), .inl (.aload 0), .inl (.iload 3), .inr (.int 1), .inl .iadd, .inl .faload, .inl (.aload 0), .inl (.iload 3), .inr (.int 2), .inl .iadd, .inl .faload, .inl (.invokevirtual 158), .inl (.if_icmp .eq (.ofNat 877)), .inr (.int 0), .inl (.ret 0), .inl (.aload 1), .inl (.aload 0), .inl (.iload 3), .inr (.int 1), .inl .iadd, .inl .faload, .inl (.aload 0), .inl (.iload 3), .inr (.int 2), .inl .iadd, .inl .faload, .inl (.ifCond .eq (.ofNat 227)), .inr (.int 1), .inl (.goto (.ofNat 228)), .inr (.int 0), .inl (.invokevirtual 74), .inl (.aload 2), .inl (.aload 0), .inl (.iload 3), .inr (.int 1), .inl .iadd, .inl .faload, .inl (.aload 0), .inl (.iload 3), .inr (.int 2), .inl .iadd, .inl .faload, .inl (.ifCond .eq (.ofNat 243)), .inr (.int 1), .inl (.goto (.ofNat 244)), .inr (.int 0), .inl (.invokevirtual 160), .inl (.if_icmp .eq (.ofNat 877)), .inr (.int 0), .inl (.ret 0), .inl (.aload 1), .inl (.aload 0), .inl (.iload 3), .inr (.int 1), .inl .iadd, .inl .faload, .inl (.aload 0), .inl (.iload 3), .inr (.int 2), .inl .iadd, .inl .faload, .inl (.aload 0), .inl (.iload 3), .inr (.int 3), .inl .iadd, .inl .faload, .inl (.ifCond .eq (.ofNat 267)), .inr (.int 1), .inl (.goto (.ofNat 268)), .inr (.int 0), .inl (.invokevirtual 75), .inl (.aload 2), .inl (.aload 0), .inl (.iload 3), .inr (.int 1), .inl .iadd, .inl .faload, .inl (.aload 0), .inl (.iload 3), .inr (.int 2), .inl .iadd, .inl .faload, .inl (.aload 0), .inl (.iload 3), .inr (.int 3), .inl .iadd, .inl .faload, .inl (.ifCond .eq (.ofNat 288)), .inr (.int 1), .inl (.goto (.ofNat 289)), .inr (.int 0), .inl (.invokevirtual 161), .inl (.if_icmp .eq (.ofNat 877)), .inr (.int 0), .inl (.ret 0), .inl (.aload 1), .inl (.aload 0), .inl (.iload 3), .inr (.int 1), .inl .iadd, .inl .faload, .inl (.aload 0), .inl (.iload 3), .inr (.int 2), .inl .iadd, .inl .faload, .inl (.invokevirtual 76), .inl (.aload 2), .inl (.aload 0), .inl (.iload 3), .inr (.int 1), .inl .iadd, .inl .faload, .inl (.aload 0), .inl (.iload 3), .inr (.int 2), .inl .iadd, .inl .faload, .inl (.invokevirtual 162), .inl (.if_icmp .eq (.ofNat 877)), .inr (.int 0), .inl (.ret 0), .inl (.aload 1), .inl (.aload 0), .inl (.iload 3), .inr (.int 1), .inl .iadd, .inl .faload, .inl (.aload 0), .inl (.iload 3), .inr (.int 2), .inl .iadd, .inl .faload, .inl (.invokevirtual 77), .inl (.aload 2), .inl (.aload 0), .inl (.iload 3), .inr (.int 1), .inl .iadd, .inl .faload, .inl (.aload 0), .inl (.iload 3), .inr (.int 2), .inl .iadd, .inl .faload, .inl (.invokevirtual 163), .inl (.if_icmp .eq (.ofNat 877)), .inr (.int 0), .inl (.ret 0), .inl (.aload 1), .inl (.aload 0), .inl (.iload 3), .inr (.int 1), .inl .iadd, .inl .faload, .inl (.aload 0), .inl (.iload 3), .inr (.int 2), .inl .iadd, .inl .faload, .inl (.invokevirtual 78), .inl (.aload 2), .inl (.aload 0), .inl (.iload 3), .inr (.int 1), .inl .iadd, .inl .faload, .inl (.aload 0), .inl (.iload 3), .inr (.int 2), .inl .iadd, .inl .faload, .inl (.invokevirtual 164), .inl (.if_icmp .eq (.ofNat 877)), .inr (.int 0), .inl (.ret 0), .inl (.aload 1), .inl (.aload 0), .inl (.iload 3), .inr (.int 1), .inl .iadd, .inl .faload, .inl (.invokevirtual 79), .inl (.aload 2), .inl (.aload 0), .inl (.iload 3), .inr (.int 1), .inl .iadd, .inl .faload, .inl (.invokevirtual 171), .inl (.if_icmp .eq (.ofNat 877)), .inr (.int 0), .inl (.ret 0), .inl (.aload 1), .inl (.aload 0), .inl (.iload 3), .inr (.int 1), .inl .iadd, .inl .faload, .inl (.aload 0), .inl (.iload 3), .inr (.int 2), .inl .iadd, .inl .faload, .inl (.invokevirtual 80), .inl (.aload 2), .inl (.aload 0), .inl (.iload 3), .inr (.int 1), .inl .iadd, .inl .faload, .inl (.aload 0), .inl (.iload 3), .inr (.int 2), .inl .iadd, .inl .faload, .inl (.invokevirtual 172), .inl (.if_icmp .eq (.ofNat 877)), .inr (.int 0), .inl (.ret 0), .inl (.aload 1), .inl (.invokevirtual 81), .inl (.aload 2), .inl (.invokevirtual 173), .inl (.if_icmp .eq (.ofNat 877)), .inr (.int 0), .inl (.ret 0), .inl (.aload 1), .inl (.aload 0), .inl (.iload 3), .inr (.int 1), .inl .iadd, .inl .faload, .inl (.aload 0), .inl (.iload 3), .inr (.int 2), .inl .iadd, .inl .faload, .inl (.invokevirtual 82), .inl (.aload 2), .inl (.aload 0), .inl (.iload 3), .inr (.int 1), .inl .iadd, .inl .faload, .inl (.aload 0), .inl (.iload 3), .inr (.int 2), .inl .iadd, .inl .faload, .inl (.invokevirtual 176), .inl .lcmp, .inl (.ifCond .eq (.ofNat 877)), .inr (.int 0), .inl (.ret 0), .inl (.aload 1), .inl (.aload 0), .inl (.iload 3), .inr (.int 1), .inl .iadd, .inl .faload, .inl (.aload 0), .inl (.iload 3), .inr (.int 2), .inl .iadd, .inl .faload, .inl (.invokevirtual 83), .inl (.aload 2), .inl (.aload 0), .inl (.iload 3), .inr (.int 1), .inl .iadd, .inl .faload, .inl (.aload 0), .inl (.iload 3), .inr (.int 2), .inl .iadd, .inl .faload, .inl (.invokevirtual 178), .inl .lcmp, .inl (.ifCond .eq (.ofNat 877)), .inr (.int 0), .inl (.ret 0), .inl (.aload 1), .inl (.aload 0), .inl (.iload 3), .inr (.int 1), .inl .iadd, .inl .faload, .inl (.invokevirtual 84), .inl (.aload 2), .inl (.aload 0), .inl (.iload 3), .inr (.int 1), .inl .iadd, .inl .faload, .inl (.invokevirtual 181), .inl (.if_icmp .eq (.ofNat 877)), .inr (.int 0), .inl (.ret 0), .inl (.aload 1), .inl (.aload 0), .inl (.iload 3), .inr (.int 1), .inl .iadd, .inl .faload, .inl (.invokevirtual 85), .inl (.aload 2), .inl (.aload 0), .inl (.iload 3), .inr (.int 1), .inl .iadd, .inl .faload, .inl (.invokevirtual 182), .inl (.if_icmp .eq (.ofNat 877)), .inr (.int 0), .inl (.ret 0), .inl (.aload 1), .inl (.aload 0), .inl (.iload 3), .inr (.int 1), .inl .iadd, .inl .faload, .inl (.invokevirtual 86), .inl (.aload 2), .inl (.aload 0), .inl (.iload 3), .inr (.int 1), .inl .iadd, .inl .faload, .inl (.invokevirtual 183), .inl (.if_icmp .eq (.ofNat 877)), .inr (.int 0), .inl (.ret 0), .inl (.aload 1), .inl (.aload 0), .inl (.iload 3), .inr (.int 1), .inl .iadd, .inl .faload, .inl (.invokevirtual 87), .inl (.aload 2), .inl (.aload 0), .inl (.iload 3), .inr (.int 1), .inl .iadd, .inl .faload, .inl (.invokevirtual 185), .inl (.if_icmp .eq (.ofNat 877)), .inr (.int 0), .inl (.ret 0), .inl (.aload 1), .inl (.aload 0), .inl (.iload 3), .inr (.int 1), .inl .iadd, .inl .faload, .inl (.invokevirtual 88), .inl (.aload 2), .inl (.aload 0), .inl (.iload 3), .inr (.int 1), .inl .iadd, .inl .faload, .inl (.invokevirtual 186), .inl (.if_icmp .eq (.ofNat 877)), .inr (.int 0), .inl (.ret 0), .inl (.aload 1), .inl (.aload 0), .inl (.iload 3), .inr (.int 1), .inl .iadd, .inl .faload, .inl (.invokevirtual 89), .inl (.aload 2), .inl (.aload 0), .inl (.iload 3), .inr (.int 1), .inl .iadd, .inl .faload, .inl (.invokevirtual 187), .inl (.if_icmp .eq (.ofNat 877)), .inr (.int 0), .inl (.ret 0), .inl (.aload 1), .inl (.aload 0), .inl (.iload 3), .inr (.int 1), .inl .iadd, .inl .faload, .inl (.invokevirtual 90), .inl (.aload 2), .inl (.aload 0), .inl (.iload 3), .inr (.int 1), .inl .iadd, .inl .faload, .inl (.invokevirtual 188), .inl (.if_icmp .eq (.ofNat 877)), .inr (.int 0), .inl (.ret 0), .inl (.aload 1), .inl (.aload 0), .inl (.iload 3), .inr (.int 1), .inl .iadd, .inl .faload, .inl (.aload 0), .inl (.iload 3), .inr (.int 2), .inl .iadd, .inl .faload, .inl (.invokevirtual 91), .inl (.aload 2), .inl (.aload 0), .inl (.iload 3), .inr (.int 1), .inl .iadd, .inl .faload, .inl (.aload 0), .inl (.iload 3), .inr (.int 2), .inl .iadd, .inl .faload, .inl (.invokevirtual 189), .inl (.if_icmp .eq (.ofNat 877)), .inr (.int 0), .inl (.ret 0), .inl (.aload 1), .inl (.aload 0), .inl (.iload 3), .inr (.int 1), .inl .iadd, .inl .faload, .inl (.invokevirtual 92), .inl (.aload 2), .inl (.aload 0), .inl (.iload 3), .inr (.int 1), .inl .iadd, .inl .faload, .inl (.invokevirtual 190), .inl (.if_icmp .eq (.ofNat 877)), .inr (.int 0), .inl (.ret 0), .inl (.aload 1), .inl (.aload 0), .inl (.iload 3), .inr (.int 1), .inl .iadd, .inl .faload, .inl (.invokevirtual 93), .inl (.aload 2), .inl (.aload 0), .inl (.iload 3), .inr (.int 1), .inl .iadd, .inl .faload, .inl (.invokevirtual 193), .inl (.if_icmp .eq (.ofNat 877)), .inr (.int 0), .inl (.ret 0), .inl (.aload 1), .inl (.aload 0), .inl (.iload 3), .inr (.int 1), .inl .iadd, .inl .faload, .inl (.aload 0), .inl (.iload 3), .inr (.int 2), .inl .iadd, .inl .faload, .inl (.aload 0), .inl (.iload 3), .inr (.int 3), .inl .iadd, .inl .faload, .inl (.invokevirtual 94), .inl (.aload 2), .inl (.aload 0), .inl (.iload 3), .inr (.int 1), .inl .iadd, .inl .faload, .inl (.aload 0), .inl (.iload 3), .inr (.int 2), .inl .iadd, .inl .faload, .inl (.aload 0), .inl (.iload 3), .inr (.int 3), .inl .iadd, .inl .faload, .inl (.invokevirtual 194), .inl (.if_icmp .eq (.ofNat 877)), .inr (.int 0), .inl (.ret 0), .inl (.aload 1), .inl (.aload 0), .inl (.iload 3), .inr (.int 1), .inl .iadd, .inl .faload, .inl (.invokevirtual 95), .inl (.aload 2), .inl (.aload 0), .inl (.iload 3), .inr (.int 1), .inl .iadd, .inl .faload, .inl (.invokevirtual 196), .inl (.if_icmp .eq (.ofNat 877)), .inr (.int 0), .inl (.ret 0), .inl (.aload 1), .inl (.aload 0), .inl (.iload 3), .inr (.int 1), .inl .iadd, .inl .faload, .inl (.invokevirtual 96), .inl (.aload 2), .inl (.aload 0), .inl (.iload 3), .inr (.int 1), .inl .iadd, .inl .faload, .inl (.invokevirtual 197), .inl (.if_icmp .eq (.ofNat 877)), .inr (.int 0), .inl (.ret 0), .inl (.aload 1), .inl (.aload 0), .inl (.iload 3), .inr (.int 1), .inl .iadd, .inl .faload, .inl (.aload 0), .inl (.iload 3), .inr (.int 2), .inl .iadd, .inl .faload, .inl (.aload 0), .inl (.iload 3), .inr (.int 3), .inl .iadd, .inl .faload, .inl (.invokevirtual 97), .inl (.aload 2), .inl (.aload 0), .inl (.iload 3), .inr (.int 1), .inl .iadd, .inl .faload, .inl (.aload 0), .inl (.iload 3), .inr (.int 2), .inl .iadd, .inl .faload, .inl (.aload 0), .inl (.iload 3), .inr (.int 3), .inl .iadd, .inl .faload, .inl (.invokevirtual 199), .inl (.if_icmp .eq (.ofNat 877)), .inr (.int 0), .inl (.ret 0), .inl (.aload 1), .inl (.aload 0), .inl (.iload 3), .inr (.int 1), .inl .iadd, .inl .faload, .inl (.aload 0), .inl (.iload 3), .inr (.int 2), .inl .iadd, .inl .faload, .inl (.aload 0), .inl (.iload 3), .inr (.int 3), .inl .iadd, .inl .faload, .inl (.invokevirtual 98), .inl (.aload 2), .inl (.aload 0), .inl (.iload 3), .inr (.int 1), .inl .iadd, .inl .faload, .inl (.aload 0), .inl (.iload 3), .inr (.int 2), .inl .iadd, .inl .faload, .inl (.aload 0), .inl (.iload 3), .inr (.int 3), .inl .iadd, .inl .faload, .inl (.invokevirtual 200), .inl (.if_icmp .eq (.ofNat 877)), .inr (.int 0), .inl (.ret 0), .inl (.aload 1), .inl (.aload 0), .inl (.iload 3), .inr (.int 1), .inl .iadd, .inl .faload, .inl (.aload 0), .inl (.iload 3), .inr (.int 2), .inl .iadd, .inl .faload, .inl (.aload 0), .inl (.iload 3), .inr (.int 3), .inl .iadd, .inl .faload, .inl (.aload 0), .inl (.iload 3), .inr (.int 4), .inl .iadd, .inl .faload, .inl (.invokevirtual 99), .inl (.aload 2), .inl (.aload 0), .inl (.iload 3), .inr (.int 1), .inl .iadd, .inl .faload, .inl (.aload 0), .inl (.iload 3), .inr (.int 2), .inl .iadd, .inl .faload, .inl (.aload 0), .inl (.iload 3), .inr (.int 3), .inl .iadd, .inl .faload, .inl (.aload 0), .inl (.iload 3), .inr (.int 4), .inl .iadd, .inl .faload, .inl (.invokevirtual 201), .inl (.if_icmp .eq (.ofNat 877)), .inr (.int 0), .inl (.ret 0), .inl (.aload 1), .inl (.invokevirtual 100), .inl (.aload 2), .inl (.invokevirtual 202), .inl (.if_icmp .eq (.ofNat 877)), .inr (.int 0), .inl (.ret 0), .inl (.aload 1), .inl (.aload 0), .inl (.iload 3), .inr (.int 1), .inl .iadd, .inl .faload, .inl (.invokevirtual 101), .inl (.aload 2), .inl (.aload 0), .inl (.iload 3), .inr (.int 1), .inl .iadd, .inl .faload, .inl (.invokevirtual 203), .inl (.if_icmp .eq (.ofNat 877)), .inr (.int 0), .inl (.ret 0), .inl (.iinc 3 5), .inl (.goto (.ofNat 10)), .inr (.int 1), .inl (.ret 0)]
def pb_L_law : List Nat := [0, 3, 4, 7, 8, 11, 12, 15, 16, 17, 18, 18, 19, 20, 21, 22, 23, 26, 27, 28, 29, 31, 32, 200, 201, 202, 203, 204, 205, 206, 209, 210, 211, 212, 213, 214, 215, 218, 221, 222, 223, 224, 225, 226, 227, 228, 229, 232, 233, 234, 235, 236, 237, 238, 241, 244, 245, 246, 247, 250, 251, 254, 257, 258, 259, 260, 263, 264, 267, 270, 271, 272, 273, 274, 275, 276, 277, 278, 281, 282, 283, 284, 285, 286, 287, 290, 293, 294, 295, 296, 297, 298, 299, 300, 301, 302, 303, 304, 305, 306, 309, 310, 311, 312, 313, 314, 315, 316, 317, 318, 319, 320, 323, 326, 327, 328, 329, 330, 331, 332, 333, 334, 335, 336, 337, 338, 339, 342, 343, 344, 345, 346, 347, 348, 349, 350, 351, 352, 353, 356, 359, 360, 361, 362, 363, 364, 365, 366, 367, 368, 369, 370, 371, 372, 375, 376, 377, 378, 379, 380, 381, 382, 383, 384, 385, 386, 389, 392, 393, 394, 395, 396, 397, 398, 399, 400, 403, 404, 405, 406, 407, 408, 409, 412, 415, 416, 417, 418, 419, 420, 421, 422, 423, 424, 425, 426, 427, 428, 431, 432, 433, 434, 435, 436, 437, 438, 439, 440, 441, 442, 445, 448, 449, 450, 451, 452, 453, 454, 455, 456, 457, 458, 459, 460, 461, 464, 465, 468, 469, 472, 473, 474, 475, 476, 477, 478, 479, 480, 481, 482, 483, 486, 487, 490, 491, 494, 497, 498, 499, 500, 501, 502, 503, 504, 505, 506, 507, 508, 509, 510, 511, 512, 513, 514, 515, 518, 519, 522, 523, 526, 527, 528, 529, 530, 531, 532, 533, 534, 535, 536, 537, 538, 539, 540, 541, 542, 545, 546, 549, 550, 553, 556, 557, 558, 559, 560, 561, 562, 563, 564, 565, 566, 567, 568, 569, 572, 573, 574, 575, 576, 577, 578, 579, 580, 581, 582, 583, 586, 589, 590, 591, 592, 593, 594, 595, 596, 597, 598, 599, 600, 601, 602, 605, 606, 607, 608, 609, 610, 611, 612, 613, 614, 615, 616, 619, 622, 623, 624, 625, 626, 627, 628, 629, 630, 631, 632, 633, 634, 635, 638, 639, 640, 641, 642, 643, 644, 645, 646, 647, 648, 649, 652, 655, 656, 657, 658, 659, 660, 661, 662, 663, 666, 667, 668, 669, 670, 671, 672, 675, 678, 679, 680, 681, 682, 683, 684, 685, 686, 687, 688, 689, 690, 691, 694, 695, 696, 697, 698, 699, 700, 701, 702, 703, 704, 705, 708, 711, 712, 713, 714, 717, 718, 721, 724, 725, 726, 727, 728, 729, 730, 731, 732, 733, 734, 735, 736, 737, 740, 741, 742, 743, 744, 745, 746, 747, 748, 749, 750, 751, 754, 755, 758, 759, 760, 761, 762, 763, 764, 765, 766, 767, 768, 769, 770, 771, 774, 775, 776, 777, 778, 779, 780, 781, 782, 783, 784, 785, 788, 789, 792, 793, 794, 795, 796, 797, 798, 799, 800, 803, 804, 805, 806, 807, 808, 809, 812, 815, 816, 817, 818, 819, 820, 821, 822, 823, 826, 827, 828, 829, 830, 831, 832, 835, 838, 839, 840, 841, 842, 843, 844, 845, 846, 849, 850, 851, 852, 853, 854, 855, 858, 861, 862, 863, 864, 865, 866, 867, 868, 869, 872, 873, 874, 875, 876, 877, 878, 881, 884, 885, 886, 887, 888, 889, 890, 891, 892, 895, 896, 897, 898, 899, 900, 901, 904, 907, 908, 909, 910, 911, 912, 913, 914, 915, 918, 919, 920, 921, 922, 923, 924, 927, 930, 931, 932, 933, 934, 935, 936, 937, 938, 941, 942, 943, 944, 945, 946, 947, 950, 953, 954, 955, 956, 957, 958, 959, 960, 961, 962, 963, 964, 965, 966, 969, 970, 971, 972, 973, 974, 975, 976, 977, 978, 979, 980, 983, 986, 987, 988, 989, 990, 991, 992, 993, 994, 997, 998, 999, 1000, 1001, 1002, 1003, 1006, 1009, 1010, 1011, 1012, 1013, 1014, 1015, 1016, 1017, 1020, 1021, 1022, 1023, 1024, 1025, 1026, 1029, 1032, 1033, 1034, 1035, 1036, 1037, 1038, 1039, 1040, 1041, 1042, 1043, 1044, 1045, 1046, 1047, 1048, 1049, 1050, 1053, 1054, 1055, 1056, 1057, 1058, 1059, 1060, 1061, 1062, 1063, 1064, 1065, 1066, 1067, 1068, 1069, 1072, 1075, 1076, 1077, 1078, 1079, 1080, 1081, 1082, 1083, 1086, 1087, 1088, 1089, 1090, 1091, 1092, 1095, 1098, 1099, 1100, 1101, 1102, 1103, 1104, 1105, 1106, 1109, 1110, 1111, 1112, 1113, 1114, 1115, 1118, 1121, 1122, 1123, 1124, 1125, 1126, 1127, 1128, 1129, 1130, 1131, 1132, 1133, 1134, 1135, 1136, 1137, 1138, 1139, 1142, 1143, 1144, 1145, 1146, 1147, 1148, 1149, 1150, 1151, 1152, 1153, 1154, 1155, 1156, 1157, 1158, 1161, 1164, 1165, 1166, 1167, 1168, 1169, 1170, 1171, 1172, 1173, 1174, 1175, 1176, 1177, 1178, 1179, 1180, 1181, 1182, 1185, 1186, 1187, 1188, 1189, 1190, 1191, 1192, 1193, 1194, 1195, 1196, 1197, 1198, 1199, 1200, 1201, 1204, 1207, 1208, 1209, 1210, 1211, 1212, 1213, 1214, 1215, 1216, 1217, 1218, 1219, 1220, 1221, 1222, 1223, 1224, 1225, 1226, 1227, 1228, 1229, 1230, 1233, 1234, 1235, 1236, 1237, 1238, 1239, 1240, 1241, 1242, 1243, 1244, 1245, 1246, 1247, 1248, 1249, 1250, 1251, 1252, 1253, 1254, 1257, 1260, 1261, 1262, 1263, 1266, 1267, 1270, 1273, 1274, 1275, 1276, 1277, 1278, 1279, 1280, 1281, 1284, 1285, 1286, 1287, 1288, 1289, 1290, 1293, 1296, 1297, 1298, 1301, 1304, 1305]
/-- a method: its name, bytes, locals, answer, how many it takes (itself too), its class, resolved code, the places of its instructions -/
abbrev ev_MT : Type := MethodName × ByteArray × Nat × Option FieldType × Nat × Nat × List ev_I × List Nat
def ev_ml0 : List ev_MT := [(yX0_init, cX0_init, 1, none, 1, 0, cd_X0_init, pb_X0_init),
  (yX0_search, cX0_search, 6, none, 3, 0, cd_X0_search, pb_X0_search),
  (yX0_addSet, cX0_addSet, 3, none, 3, 0, cd_X0_addSet, pb_X0_addSet),
  (yX0_isAsSeen, cX0_isAsSeen, 5, (some .boolean), 3, 0, cd_X0_isAsSeen, pb_X0_isAsSeen),
  (yX1_init, cX1_init, 1, none, 1, 1, cd_X1_init, pb_X1_init),
  (yX1_search, cX1_search, 3, none, 2, 1, cd_X1_search, pb_X1_search),
  (yX1_seatFrom, cX1_seatFrom, 4, none, 2, 1, cd_X1_seatFrom, pb_X1_seatFrom),
  (yX1_takeIt, cX1_takeIt, 3, none, 2, 1, cd_X1_takeIt, pb_X1_takeIt),
  (yX1_isLikeEarlier, cX1_isLikeEarlier, 3, (some .boolean), 2, 1, cd_X1_isLikeEarlier, pb_X1_isLikeEarlier),
  (yX1_atLeastHarm, cX1_atLeastHarm, 6, (some .int), 2, 1, cd_X1_atLeastHarm, pb_X1_atLeastHarm),
  (yX1_fewestRough, cX1_fewestRough, 3, (some .int), 1, 1, cd_X1_fewestRough, pb_X1_fewestRough),
  (yX2_init, cX2_init, 1, none, 1, 2, cd_X2_init, pb_X2_init),
  (yX2_renew, cX2_renew, 4, none, 3, 2, cd_X2_renew, pb_X2_renew),
  (yX2_write, cX2_write, 3, none, 3, 2, cd_X2_write, pb_X2_write),
  (yX2_faultAt, cX2_faultAt, 3, (some .int), 3, 2, cd_X2_faultAt, pb_X2_faultAt),
  (yX2_faultAtTwo, cX2_faultAtTwo, 4, (some .int), 3, 2, cd_X2_faultAtTwo, pb_X2_faultAtTwo),
  (yX3_init, cX3_init, 1, none, 1, 3, cd_X3_init, pb_X3_init),
  (yX3_tell, cX3_tell, 5, (some .boolean), 4, 3, cd_X3_tell, pb_X3_tell),
  (yX3_start, cX3_start, 4, none, 4, 3, cd_X3_start, pb_X3_start),
  (yX3_refuse, cX3_refuse, 3, (some .boolean), 3, 3, cd_X3_refuse, pb_X3_refuse),
  (yX3_agrees, cX3_agrees, 2, (some .boolean), 1, 3, cd_X3_agrees, pb_X3_agrees),
  (yX3_nextToken, cX3_nextToken, 2, (some .boolean), 1, 3, cd_X3_nextToken, pb_X3_nextToken),
  (yX3_takeFigures, cX3_takeFigures, 2, (some .boolean), 1, 3, cd_X3_takeFigures, pb_X3_takeFigures),
  (yX3_pass, cX3_pass, 3, none, 3, 3, cd_X3_pass, pb_X3_pass),
  (yX3_isIn, cX3_isIn, 3, (some .boolean), 3, 3, cd_X3_isIn, pb_X3_isIn),
  (yX3_takeLine, cX3_takeLine, 3, (some .boolean), 1, 3, cd_X3_takeLine, pb_X3_takeLine),
  (yX3_takeNumber, cX3_takeNumber, 4, (some .boolean), 3, 3, cd_X3_takeNumber, pb_X3_takeNumber)]
def ev_ml1 : List ev_MT := [(yX3_putDown, cX3_putDown, 4, none, 2, 3, cd_X3_putDown, pb_X3_putDown),
  (yX3_wordHere, cX3_wordHere, 2, (some .int), 1, 3, cd_X3_wordHere, pb_X3_wordHere),
  (yX3_isHere, cX3_isHere, 3, (some .boolean), 2, 3, cd_X3_isHere, pb_X3_isHere),
  (yX3_wordOf, cX3_wordOf, 1, (some (.object "java/lang/String")), 1, 3, cd_X3_wordOf, pb_X3_wordOf),
  (yX4_init, cX4_init, 1, none, 1, 4, cd_X4_init, pb_X4_init),
  (yX4_clear, cX4_clear, 2, none, 1, 4, cd_X4_clear, pb_X4_clear),
  (yX4_copyFrom, cX4_copyFrom, 3, none, 2, 4, cd_X4_copyFrom, pb_X4_copyFrom),
  (yX4_copyStock, cX4_copyStock, 3, none, 2, 4, cd_X4_copyStock, pb_X4_copyStock),
  (yX4_hasMan, cX4_hasMan, 2, (some .boolean), 2, 4, cd_X4_hasMan, pb_X4_hasMan),
  (yX4_allMen, cX4_allMen, 1, (some .int), 1, 4, cd_X4_allMen, pb_X4_allMen),
  (yX4_menOfKind, cX4_menOfKind, 4, (some .int), 2, 4, cd_X4_menOfKind, pb_X4_menOfKind),
  (yX4_menOfTen, cX4_menOfTen, 4, (some .int), 2, 4, cd_X4_menOfTen, pb_X4_menOfTen),
  (yX4_sizeOfTen, cX4_sizeOfTen, 2, (some .int), 2, 4, cd_X4_sizeOfTen, pb_X4_sizeOfTen),
  (yX4_tensWithMen, cX4_tensWithMen, 3, (some .int), 1, 4, cd_X4_tensWithMen, pb_X4_tensWithMen),
  (yX4_tensOf, cX4_tensOf, 4, (some .int), 2, 4, cd_X4_tensOf, pb_X4_tensOf),
  (yX4_stockOf, cX4_stockOf, 4, (some .int), 2, 4, cd_X4_stockOf, pb_X4_stockOf),
  (yX4_addMan, cX4_addMan, 5, none, 5, 4, cd_X4_addMan, pb_X4_addMan),
  (yX4_setKin, cX4_setKin, 4, none, 4, 4, cd_X4_setKin, pb_X4_setKin),
  (yX4_whyNoSeat, cX4_whyNoSeat, 3, (some .int), 3, 4, cd_X4_whyNoSeat, pb_X4_whyNoSeat),
  (yX4_seat, cX4_seat, 4, (some .int), 3, 4, cd_X4_seat, pb_X4_seat),
  (yX4_giveUp, cX4_giveUp, 2, none, 2, 4, cd_X4_giveUp, pb_X4_giveUp),
  (yX4_maySwap, cX4_maySwap, 3, (some .boolean), 3, 4, cd_X4_maySwap, pb_X4_maySwap),
  (yX4_exchange, cX4_exchange, 4, none, 3, 4, cd_X4_exchange, pb_X4_exchange),
  (yX4_oddsInTen, cX4_oddsInTen, 2, (some .int), 2, 4, cd_X4_oddsInTen, pb_X4_oddsInTen),
  (yX4_oddsIfWatched, cX4_oddsIfWatched, 4, (some .int), 3, 4, cd_X4_oddsIfWatched, pb_X4_oddsIfWatched),
  (yX4_oddsAmong, cX4_oddsAmong, 5, (some .int), 4, 4, cd_X4_oddsAmong, pb_X4_oddsAmong),
  (yX4_wonByWatch, cX4_wonByWatch, 2, (some .int), 2, 4, cd_X4_wonByWatch, pb_X4_wonByWatch)]
def ev_ml2 : List ev_MT := [(yX4_harmOfTen, cX4_harmOfTen, 5, (some .int), 2, 4, cd_X4_harmOfTen, pb_X4_harmOfTen),
  (yX4_harmOfAll, cX4_harmOfAll, 3, (some .int), 1, 4, cd_X4_harmOfAll, pb_X4_harmOfAll),
  (yX4_chanceOf, cX4_chanceOf, 7, (some .long), 3, 4, cd_X4_chanceOf, pb_X4_chanceOf),
  (yX4_mayDoWrong, cX4_mayDoWrong, 2, (some .boolean), 2, 4, cd_X4_mayDoWrong, pb_X4_mayDoWrong),
  (yX4_payAll, cX4_payAll, 3, (some .int), 2, 4, cd_X4_payAll, pb_X4_payAll),
  (yX4_payFines, cX4_payFines, 4, (some .int), 2, 4, cd_X4_payFines, pb_X4_payFines),
  (yX4_payFor, cX4_payFor, 7, (some .int), 2, 4, cd_X4_payFor, pb_X4_payFor),
  (yX4_payCosts, cX4_payCosts, 7, (some .int), 1, 4, cd_X4_payCosts, pb_X4_payCosts),
  (yX4_takeFrom, cX4_takeFrom, 4, (some .int), 3, 4, cd_X4_takeFrom, pb_X4_takeFrom),
  (yX5_init, cX5_init, 2, none, 1, 5, cd_X5_init, pb_X5_init),
  (yX5_feed, cX5_feed, 2, (some .int), 2, 5, cd_X5_feed, pb_X5_feed),
  (yX5_end, cX5_end, 3, (some .int), 2, 5, cd_X5_end, pb_X5_end),
  (yX5_text, cX5_text, 3, (some .int), 1, 5, cd_X5_text, pb_X5_text),
  (yX5_fault, cX5_fault, 1, (some .int), 1, 5, cd_X5_fault, pb_X5_fault),
  (yX5_rule, cX5_rule, 2, (some .int), 2, 5, cd_X5_rule, pb_X5_rule),
  (yX5_man, cX5_man, 3, (some .int), 3, 5, cd_X5_man, pb_X5_man),
  (yX5_ten, cX5_ten, 3, (some .int), 3, 5, cd_X5_ten, pb_X5_ten),
  (yX5_move, cX5_move, 4, (some .int), 3, 5, cd_X5_move, pb_X5_move),
  (yX5_leave, cX5_leave, 4, (some .int), 2, 5, cd_X5_leave, pb_X5_leave),
  (yX5_swap, cX5_swap, 3, (some .int), 3, 5, cd_X5_swap, pb_X5_swap),
  (yX5_watch, cX5_watch, 5, (some .int), 3, 5, cd_X5_watch, pb_X5_watch),
  (yX5_kin, cX5_kin, 5, (some .int), 4, 5, cd_X5_kin, pb_X5_kin),
  (yX5_odd, cX5_odd, 4, (some .int), 3, 5, cd_X5_odd, pb_X5_odd),
  (yX5_law, cX5_law, 4, (some .int), 3, 5, cd_X5_law, pb_X5_law),
  (yX5_goods, cX5_goods, 4, (some .int), 3, 5, cd_X5_goods, pb_X5_goods),
  (yX5_year, cX5_year, 2, (some .int), 2, 5, cd_X5_year, pb_X5_year),
  (yX5_pays, cX5_pays, 3, (some .int), 3, 5, cd_X5_pays, pb_X5_pays)]
def ev_ml3 : List ev_MT := [(yX5_harm, cX5_harm, 1, (some .int), 1, 5, cd_X5_harm, pb_X5_harm),
  (yX5_calm, cX5_calm, 4, (some .long), 3, 5, cd_X5_calm, pb_X5_calm),
  (yX5_mean, cX5_mean, 9, (some .long), 3, 5, cd_X5_mean, pb_X5_mean),
  (yX5_best, cX5_best, 3, (some .int), 2, 5, cd_X5_best, pb_X5_best),
  (yX5_change, cX5_change, 7, (some .int), 2, 5, cd_X5_change, pb_X5_change),
  (yX5_takes, cX5_takes, 6, (some .int), 2, 5, cd_X5_takes, pb_X5_takes),
  (yX5_weight, cX5_weight, 4, (some .int), 2, 5, cd_X5_weight, pb_X5_weight),
  (yX5_should, cX5_should, 6, (some .int), 2, 5, cd_X5_should, pb_X5_should),
  (yX5_guard, cX5_guard, 4, (some .int), 2, 5, cd_X5_guard, pb_X5_guard),
  (yX5_worth, cX5_worth, 5, (some .int), 2, 5, cd_X5_worth, pb_X5_worth),
  (yX5_see, cX5_see, 3, (some .int), 3, 5, cd_X5_see, pb_X5_see),
  (yX5_forget, cX5_forget, 3, (some .int), 2, 5, cd_X5_forget, pb_X5_forget),
  (yX5_fits, cX5_fits, 2, (some .int), 2, 5, cd_X5_fits, pb_X5_fits),
  (yX5_drift, cX5_drift, 10, (some .int), 4, 5, cd_X5_drift, pb_X5_drift),
  (yX5_keep, cX5_keep, 3, (some .int), 2, 5, cd_X5_keep, pb_X5_keep),
  (yX5_back, cX5_back, 2, (some .int), 2, 5, cd_X5_back, pb_X5_back),
  (yX5_sheet, cX5_sheet, 4, (some .int), 4, 5, cd_X5_sheet, pb_X5_sheet),
  (yX5_lay, cX5_lay, 6, (some .int), 4, 5, cd_X5_lay, pb_X5_lay),
  (yX5_read, cX5_read, 10, (some .int), 5, 5, cd_X5_read, pb_X5_read),
  (yX5_torn, cX5_torn, 1, (some .int), 1, 5, cd_X5_torn, pb_X5_torn),
  (yX5_count, cX5_count, 2, (some .int), 2, 5, cd_X5_count, pb_X5_count),
  (yX5_refusalInTen, cX5_refusalInTen, 2, (some .int), 2, 5, cd_X5_refusalInTen, pb_X5_refusalInTen),
  (yX5_isPair, cX5_isPair, 3, (some .boolean), 3, 5, cd_X5_isPair, pb_X5_isPair),
  (yX5_finesOnTrial, cX5_finesOnTrial, 3, (some .int), 3, 5, cd_X5_finesOnTrial, pb_X5_finesOnTrial),
  (yX5_harmBySwap, cX5_harmBySwap, 4, (some .int), 3, 5, cd_X5_harmBySwap, pb_X5_harmBySwap),
  (yX5_isTen, cX5_isTen, 1, (some .boolean), 1, 5, cd_X5_isTen, pb_X5_isTen),
  (yX5_isWithin, cX5_isWithin, 2, (some .boolean), 2, 5, cd_X5_isWithin, pb_X5_isWithin)]
def ev_ml4 : List ev_MT := [(yX5_bitOf, cX5_bitOf, 2, (some .int), 2, 5, cd_X5_bitOf, pb_X5_bitOf),
  (yX5_withBit, cX5_withBit, 3, (some .int), 3, 5, cd_X5_withBit, pb_X5_withBit),
  (yX5_tenthsOf, cX5_tenthsOf, 4, (some .long), 1, 5, cd_X5_tenthsOf, pb_X5_tenthsOf),
  (yX5_inLowestTerms, cX5_inLowestTerms, 7, (some .long), 3, 5, cd_X5_inLowestTerms, pb_X5_inLowestTerms),
  (yX5_greatestCommon, cX5_greatestCommon, 11, (some .long), 2, 5, cd_X5_greatestCommon, pb_X5_greatestCommon),
  (yX6_init, cX6_init, 2, none, 1, 6, cd_X6_init, pb_X6_init),
  (yX6_in, cX6_in, 6, (some .boolean), 3, 6, cd_X6_in, pb_X6_in),
  (yX6_flag, cX6_flag, 1, (some .int), 1, 6, cd_X6_flag, pb_X6_flag),
  (yX6_firstDraft, cX6_firstDraft, 2, none, 1, 6, cd_X6_firstDraft, pb_X6_firstDraft),
  (yX6_keepDraft, cX6_keepDraft, 2, none, 1, 6, cd_X6_keepDraft, pb_X6_keepDraft),
  (yX6_feed, cX6_feed, 2, (some .int), 2, 6, cd_X6_feed, pb_X6_feed),
  (yX6_end, cX6_end, 3, (some .int), 2, 6, cd_X6_end, pb_X6_end),
  (yX6_needs, cX6_needs, 3, none, 3, 6, cd_X6_needs, pb_X6_needs),
  (yX6_byteAt, cX6_byteAt, 2, (some .int), 2, 6, cd_X6_byteAt, pb_X6_byteAt),
  (yX6_is, cX6_is, 6, (some .boolean), 6, 6, cd_X6_is, pb_X6_is),
  (yX6_ends, cX6_ends, 4, (some .boolean), 4, 6, cd_X6_ends, pb_X6_ends),
  (yX6_lineNow, cX6_lineNow, 1, (some .int), 1, 6, cd_X6_lineNow, pb_X6_lineNow),
  (yX6_next, cX6_next, 2, none, 1, 6, cd_X6_next, pb_X6_next),
  (yX6_looked, cX6_looked, 3, (some .int), 3, 6, cd_X6_looked, pb_X6_looked),
  (yX6_readNumber, cX6_readNumber, 4, (some .int), 3, 6, cd_X6_readNumber, pb_X6_readNumber),
  (yX6_readMan, cX6_readMan, 3, none, 2, 6, cd_X6_readMan, pb_X6_readMan),
  (yX6_readMost, cX6_readMost, 3, none, 1, 6, cd_X6_readMost, pb_X6_readMost),
  (yX6_readKin, cX6_readKin, 3, none, 1, 6, cd_X6_readKin, pb_X6_readKin),
  (yX6_readLineOf, cX6_readLineOf, 2, none, 2, 6, cd_X6_readLineOf, pb_X6_readLineOf),
  (yX6_readLine, cX6_readLine, 2, none, 1, 6, cd_X6_readLine, pb_X6_readLine),
  (yX6_doFit, cX6_doFit, 5, (some .boolean), 1, 6, cd_X6_doFit, pb_X6_doFit),
  (yX6_text, cX6_text, 2, (some .int), 1, 6, cd_X6_text, pb_X6_text)]
def ev_ml5 : List ev_MT := [(yX6_fault, cX6_fault, 1, (some .int), 1, 6, cd_X6_fault, pb_X6_fault),
  (yX6_isMan, cX6_isMan, 2, (some .boolean), 2, 6, cd_X6_isMan, pb_X6_isMan),
  (yX6_isTen, cX6_isTen, 1, (some .boolean), 1, 6, cd_X6_isTen, pb_X6_isTen),
  (yX6_isPart, cX6_isPart, 1, (some .boolean), 1, 6, cd_X6_isPart, pb_X6_isPart),
  (yX6_bitsOf, cX6_bitsOf, 3, (some .int), 1, 6, cd_X6_bitsOf, pb_X6_bitsOf),
  (yX6_starts, cX6_starts, 2, none, 1, 6, cd_X6_starts, pb_X6_starts),
  (yX6_settles, cX6_settles, 2, none, 1, 6, cd_X6_settles, pb_X6_settles),
  (yX6_of, cX6_of, 3, (some .int), 3, 6, cd_X6_of, pb_X6_of),
  (yX6_becomesOf, cX6_becomesOf, 4, none, 4, 6, cd_X6_becomesOf, pb_X6_becomesOf),
  (yX6_menOf, cX6_menOf, 4, (some .int), 2, 6, cd_X6_menOf, pb_X6_menOf),
  (yX6_isWatched, cX6_isWatched, 2, (some .boolean), 2, 6, cd_X6_isWatched, pb_X6_isWatched),
  (yX6_oddsOf, cX6_oddsOf, 5, (some .int), 2, 6, cd_X6_oddsOf, pb_X6_oddsOf),
  (yX6_harmOf, cX6_harmOf, 4, (some .int), 2, 6, cd_X6_harmOf, pb_X6_harmOf),
  (yX6_harmAll, cX6_harmAll, 3, (some .int), 1, 6, cd_X6_harmAll, pb_X6_harmAll),
  (yX6_allGoods, cX6_allGoods, 4, (some .int), 2, 6, cd_X6_allGoods, pb_X6_allGoods),
  (yX6_rule, cX6_rule, 4, (some .int), 2, 6, cd_X6_rule, pb_X6_rule),
  (yX6_man, cX6_man, 3, (some .int), 3, 6, cd_X6_man, pb_X6_man),
  (yX6_ten, cX6_ten, 3, (some .int), 3, 6, cd_X6_ten, pb_X6_ten),
  (yX6_becomes, cX6_becomes, 4, (some .int), 3, 6, cd_X6_becomes, pb_X6_becomes),
  (yX6_isWanderer, cX6_isWanderer, 2, (some .boolean), 2, 6, cd_X6_isWanderer, pb_X6_isWanderer),
  (yX6_isFull, cX6_isFull, 2, (some .boolean), 2, 6, cd_X6_isFull, pb_X6_isFull),
  (yX6_move, cX6_move, 4, (some .int), 3, 6, cd_X6_move, pb_X6_move),
  (yX6_leave, cX6_leave, 2, (some .int), 2, 6, cd_X6_leave, pb_X6_leave),
  (yX6_swap, cX6_swap, 5, (some .int), 3, 6, cd_X6_swap, pb_X6_swap),
  (yX6_becomesBit, cX6_becomesBit, 5, (some .int), 4, 6, cd_X6_becomesBit, pb_X6_becomesBit),
  (yX6_watch, cX6_watch, 3, (some .int), 3, 6, cd_X6_watch, pb_X6_watch),
  (yX6_kin, cX6_kin, 4, (some .int), 4, 6, cd_X6_kin, pb_X6_kin)]
def ev_ml6 : List ev_MT := [(yX6_odd, cX6_odd, 3, (some .int), 3, 6, cd_X6_odd, pb_X6_odd),
  (yX6_law, cX6_law, 3, (some .int), 3, 6, cd_X6_law, pb_X6_law),
  (yX6_goods, cX6_goods, 3, (some .int), 3, 6, cd_X6_goods, pb_X6_goods),
  (yX6_pay, cX6_pay, 4, (some .int), 3, 6, cd_X6_pay, pb_X6_pay),
  (yX6_runs, cX6_runs, 8, (some .int), 2, 6, cd_X6_runs, pb_X6_runs),
  (yX6_watches, cX6_watches, 7, (some .int), 2, 6, cd_X6_watches, pb_X6_watches),
  (yX6_yearGoes, cX6_yearGoes, 4, (some .int), 2, 6, cd_X6_yearGoes, pb_X6_yearGoes),
  (yX6_saints, cX6_saints, 3, (some .int), 1, 6, cd_X6_saints, pb_X6_saints),
  (yX6_isWrong, cX6_isWrong, 2, (some .boolean), 2, 6, cd_X6_isWrong, pb_X6_isWrong),
  (yX6_year, cX6_year, 3, (some .int), 2, 6, cd_X6_year, pb_X6_year),
  (yX6_pays, cX6_pays, 3, (some .int), 3, 6, cd_X6_pays, pb_X6_pays),
  (yX6_harm, cX6_harm, 1, (some .int), 1, 6, cd_X6_harm, pb_X6_harm),
  (yX6_common, cX6_common, 10, (some .long), 2, 6, cd_X6_common, pb_X6_common),
  (yX6_told, cX6_told, 7, (some .long), 3, 6, cd_X6_told, pb_X6_told),
  (yX6_calm, cX6_calm, 9, (some .long), 3, 6, cd_X6_calm, pb_X6_calm),
  (yX6_findOdds, cX6_findOdds, 2, none, 1, 6, cd_X6_findOdds, pb_X6_findOdds),
  (yX6_mean, cX6_mean, 11, (some .long), 3, 6, cd_X6_mean, pb_X6_mean),
  (yX6_puttings, cX6_puttings, 3, (some .int), 1, 6, cd_X6_puttings, pb_X6_puttings),
  (yX6_putsBy, cX6_putsBy, 5, (some .boolean), 2, 6, cd_X6_putsBy, pb_X6_putsBy),
  (yX6_best, cX6_best, 6, (some .int), 2, 6, cd_X6_best, pb_X6_best),
  (yX6_change, cX6_change, 9, (some .int), 2, 6, cd_X6_change, pb_X6_change),
  (yX6_takes, cX6_takes, 6, (some .int), 2, 6, cd_X6_takes, pb_X6_takes),
  (yX6_goesAway, cX6_goesAway, 2, none, 2, 6, cd_X6_goesAway, pb_X6_goesAway),
  (yX6_weight, cX6_weight, 4, (some .int), 2, 6, cd_X6_weight, pb_X6_weight),
  (yX6_should, cX6_should, 4, (some .int), 2, 6, cd_X6_should, pb_X6_should),
  (yX6_guard, cX6_guard, 6, (some .int), 2, 6, cd_X6_guard, pb_X6_guard),
  (yX6_worth, cX6_worth, 4, (some .int), 2, 6, cd_X6_worth, pb_X6_worth)]
def ev_ml7 : List ev_MT := [(yX6_see, cX6_see, 3, (some .int), 3, 6, cd_X6_see, pb_X6_see),
  (yX6_forget, cX6_forget, 2, (some .int), 2, 6, cd_X6_forget, pb_X6_forget),
  (yX6_isSo, cX6_isSo, 5, (some .boolean), 2, 6, cd_X6_isSo, pb_X6_isSo),
  (yX6_tensOf, cX6_tensOf, 5, (some .int), 2, 6, cd_X6_tensOf, pb_X6_tensOf),
  (yX6_fits, cX6_fits, 9, (some .int), 2, 6, cd_X6_fits, pb_X6_fits),
  (yX6_drift, cX6_drift, 9, (some .int), 4, 6, cd_X6_drift, pb_X6_drift),
  (yX6_copies, cX6_copies, 4, none, 3, 6, cd_X6_copies, pb_X6_copies),
  (yX6_keep, cX6_keep, 3, (some .int), 2, 6, cd_X6_keep, pb_X6_keep),
  (yX6_back, cX6_back, 2, (some .int), 2, 6, cd_X6_back, pb_X6_back),
  (yX6_isSheet, cX6_isSheet, 2, (some .boolean), 2, 6, cd_X6_isSheet, pb_X6_isSheet),
  (yX6_sheet, cX6_sheet, 5, (some .int), 4, 6, cd_X6_sheet, pb_X6_sheet),
  (yX6_lay, cX6_lay, 4, (some .int), 4, 6, cd_X6_lay, pb_X6_lay),
  (yX6_read, cX6_read, 11, (some .int), 5, 6, cd_X6_read, pb_X6_read),
  (yX6_torn, cX6_torn, 1, (some .int), 1, 6, cd_X6_torn, pb_X6_torn),
  (yX6_count, cX6_count, 5, (some .int), 2, 6, cd_X6_count, pb_X6_count),
  (yJ6_bitCount_0f7a4, cJ6_bitCount_0f7a4, 1, (some .int), 1, 8, cd_J6_bitCount_0f7a4, pb_J6_bitCount_0f7a4),
  (yJ9_min_7cf53, cJ9_min_7cf53, 2, (some .int), 2, 9, cd_J9_min_7cf53, pb_J9_min_7cf53),
  (yJ0_length_8abf5, cJ0_length_8abf5, 1, (some .int), 1, 10, cd_J0_length_8abf5, pb_J0_length_8abf5),
  (yJ0_charAt_5068e, cJ0_charAt_5068e, 2, (some .char), 2, 10, cd_J0_charAt_5068e, pb_J0_charAt_5068e),
  (yJ0_coder_7d493, cJ0_coder_7d493, 1, (some .byte), 1, 10, cd_J0_coder_7d493, pb_J0_coder_7d493),
  (yJ0_isLatin1_aae02, cJ0_isLatin1_aae02, 1, (some .boolean), 1, 10, cd_J0_isLatin1_aae02, pb_J0_isLatin1_aae02),
  (yJ0_checkIndex_df160, cJ0_checkIndex_df160, 2, none, 2, 10, cd_J0_checkIndex_df160, pb_J0_checkIndex_df160),
  (yJ1_charAt_3b067, cJ1_charAt_3b067, 2, (some .char), 2, 11, cd_J1_charAt_3b067, pb_J1_charAt_3b067),
  (yJ3_checkIndex_8e157, cJ3_checkIndex_8e157, 3, (some .int), 3, 12, cd_J3_checkIndex_8e157, pb_J3_checkIndex_8e157),
  (yL_law, cL_law, 4, (some .boolean), 1, 7, cd_L_law, pb_L_law)]
def ev_ml : List ev_MT := ev_ml0 ++ (ev_ml1 ++ (ev_ml2 ++ (ev_ml3 ++ (ev_ml4 ++ (ev_ml5 ++ (ev_ml6 ++ (ev_ml7)))))))
def ev_nm : Nat := 214
def ev_cn (i : Nat) : String := [RX0, RX1, RX2, RX3, RX4, RX5, RX6, RL, RJ6, RJ9, RJ0, RJ1, RJ3].getD i ""
abbrev ev_cl : List vw_C := [(RX0, TX0, 5), (RX1, TX1, 6), (RX2, TX2, 3), (RX3, TX3, 15), (RX4, TX4, 14), (RX5, TX5, 12), (RX6, TX6, 26)]
end
section
/-! The words of the tables, by their places; what each resolved instruction owes to the bytes. -/
def ev_UW : List Cond := lw_tbl.filter goodWord
theorem ev_mem (i : Nat) {w : Cond} (h : tables_1[i]? = some w) (hg : goodWord w = true) : w ∈ ev_UW := List.mem_filter.mpr ⟨List.mem_append_right _ (List.mem_of_getElem? h), hg⟩
theorem ev_memp (i n : Nat) {y : MethodName} (h : lw_privs[i]? = some (y, n)) (hg : goodWord (Cond.selects y.cls y y) = true) : Cond.selects y.cls y y ∈ ev_UW :=
  List.mem_filter.mpr ⟨List.mem_append_left _ (List.mem_map.mpr ⟨(y, n), List.mem_of_getElem? h, rfl⟩), hg⟩
def ev_M (mi : Nat) : ev_MT := ev_ml.getD mi (yL_law, cL_law, 0, none, 0, 0, [], [])
abbrev ev_y (mi : Nat) : MethodName := (ev_M mi).1
abbrev ev_b (mi : Nat) : ByteArray := (ev_M mi).2.1
abbrev ev_L (mi : Nat) : Nat := (ev_M mi).2.2.1
abbrev ev_r (mi : Nat) : Option FieldType := (ev_M mi).2.2.2.1
abbrev ev_np (mi : Nat) : Nat := (ev_M mi).2.2.2.2.1
abbrev ev_o (mi : Nat) : Nat := (ev_M mi).2.2.2.2.2.1
abbrev ev_cd (mi : Nat) : List ev_I := (ev_M mi).2.2.2.2.2.2.1
abbrev ev_pb (mi : Nat) : List Nat := (ev_M mi).2.2.2.2.2.2.2
def ev_T (c : Nat) : u_T := match c with
  | 0 => TX0
  | 1 => TX1
  | 2 => TX2
  | 3 => TX3
  | 4 => TX4
  | 5 => TX5
  | _ => TX6
def ev_ty (c : Nat) : Nat → FieldType := match c with
  | 0 => tyX0
  | 1 => tyX1
  | 2 => tyX2
  | 3 => tyX3
  | 4 => tyX4
  | 5 => tyX5
  | _ => tyX6
def ev_N (c : Nat) : Nat := match c with
  | 0 => 5
  | 1 => 6
  | 2 => 3
  | 3 => 15
  | 4 => 14
  | 5 => 12
  | _ => 26
def ev_lays : List (Nat × Nat × Nat) := [(0, 0, 203), (0, 1, 205), (0, 2, 207), (0, 3, 209), (0, 4, 211), (1, 0, 174), (1, 1, 176), (1, 2, 178), (1, 3, 180), (1, 4, 182), (1, 5, 184), (2, 0, 225), (2, 1, 227), (2, 2, 229), (3, 0, 127), (3, 1, 129), (3, 2, 131), (3, 3, 133), (3, 4, 135), (3, 5, 137), (3, 6, 139), (3, 7, 141), (3, 8, 143), (3, 9, 145), (3, 10, 147), (3, 11, 149), (3, 12, 151), (3, 13, 153), (3, 14, 155), (4, 0, 70), (4, 1, 72), (4, 2, 74), (4, 3, 76), (4, 4, 78), (4, 5, 80), (4, 6, 82), (4, 7, 84), (4, 8, 86), (4, 9, 88), (4, 10, 90), (4, 11, 92), (4, 12, 94), (4, 13, 96), (5, 0, 244), (5, 1, 246), (5, 2, 248), (5, 3, 250), (5, 4, 252), (5, 5, 254), (5, 6, 256), (5, 7, 258), (5, 8, 260), (5, 9, 262), (5, 10, 264), (5, 11, 266), (6, 0, 829), (6, 1, 831), (6, 2, 833), (6, 3, 835), (6, 4, 837), (6, 5, 839), (6, 6, 841), (6, 7, 843), (6, 8, 845), (6, 9, 847), (6, 10, 849), (6, 11, 851), (6, 12, 853), (6, 13, 855), (6, 14, 857), (6, 15, 859), (6, 16, 861), (6, 17, 863), (6, 18, 865), (6, 19, 867), (6, 20, 869), (6, 21, 871), (6, 22, 873), (6, 23, 875), (6, 24, 877), (6, 25, 879)]
theorem ev_lays_ok : ev_lays.all (fun e => decide (tables_1[e.2.2]? = some (u_lay (ev_cn e.1) (ev_T e.1) e.2.1)) && goodWord (u_lay (ev_cn e.1) (ev_T e.1) e.2.1)) = true := by decide +kernel
/-- (own class, pool place, field) -/
def ev_fls : List (Nat × Nat × Nat) := [(0, 9, 0), (0, 15, 1), (0, 24, 2), (0, 27, 3), (0, 30, 4), (0, 58, 133), (0, 61, 140), (0, 65, 136), (0, 68, 141), (1, 9, 32), (1, 15, 35), (1, 18, 36), (1, 21, 37), (1, 24, 34), (1, 29, 33), (1, 37, 128), (1, 49, 134), (1, 52, 139), (1, 63, 132), (1, 74, 129), (1, 77, 130), (2, 9, 65), (2, 15, 66), (2, 19, 64), (3, 11, 106), (3, 23, 103), (3, 33, 96), (3, 36, 100), (3, 40, 101), (3, 43, 99), (3, 52, 97), (3, 55, 98), (3, 58, 102), (3, 61, 107), (3, 65, 108), (3, 68, 109), (3, 71, 110), (3, 86, 139), (3, 89, 104), (3, 103, 105), (3, 109, 128), (3, 132, 129), (3, 135, 130), (4, 9, 129), (4, 15, 130), (4, 18, 134), (4, 22, 135), (4, 25, 136), (4, 28, 137), (4, 31, 138), (4, 34, 139), (4, 37, 140), (4, 40, 141), (4, 43, 128), (4, 46, 131), (4, 49, 132), (4, 52, 133), (5, 10, 160), (5, 16, 161), (5, 19, 162), (5, 23, 163), (5, 29, 164), (5, 33, 165), (5, 40, 166), (5, 47, 167), (5, 54, 168), (5, 59, 169), (5, 67, 97), (5, 70, 170), (5, 73, 98), (5, 80, 96), (5, 83, 128), (5, 86, 129), (5, 89, 130), (5, 92, 131), (5, 95, 132), (5, 106, 134), (5, 110, 135), (5, 113, 136), (5, 116, 137), (5, 119, 138), (5, 131, 139), (5, 209, 33), (5, 212, 32), (5, 221, 133), (5, 224, 140), (5, 227, 141), (5, 233, 0), (5, 236, 1), (5, 239, 2), (5, 245, 3), (5, 248, 4), (5, 255, 64), (5, 267, 66), (5, 270, 171), (5, 281, 65), (6, 7, 192), (6, 13, 193), (6, 16, 194), (6, 20, 196), (6, 23, 197), (6, 26, 199), (6, 29, 203), (6, 32, 211), (6, 35, 212), (6, 38, 213), (6, 41, 214), (6, 44, 215), (6, 47, 217), (6, 56, 198), (6, 60, 200), (6, 63, 201), (6, 66, 202), (6, 69, 195), (6, 78, 204), (6, 81, 209), (6, 84, 206), (6, 87, 210), (6, 90, 205), (6, 105, 207), (6, 116, 208), (6, 301, 216)]
def ev_flp : List Nat := [193, 195, 197, 199, 201, 46, 65, 54, 68, 166, 171, 172, 173, 170, 168, 29, 49, 61, 43, 34, 38, 221, 223, 219, 122, 119, 109, 116, 117, 115, 111, 113, 118, 123, 124, 125, 126, 62, 120, 121, 31, 35, 39, 32, 36, 48, 51, 53, 56, 58, 60, 64, 67, 28, 40, 42, 45, 232, 233, 234, 235, 236, 237, 238, 239, 240, 241, 112, 242, 114, 110, 30, 33, 37, 41, 44, 50, 52, 55, 57, 59, 63, 169, 167, 47, 66, 69, 194, 196, 198, 200, 202, 220, 224, 243, 222, 803, 804, 805, 807, 808, 810, 814, 822, 823, 824, 825, 826, 828, 809, 811, 812, 813, 806, 815, 820, 817, 821, 816, 818, 819, 827]
abbrev ev_flw (e : Nat × Nat × Nat) : Cond := .fieldLink (ev_cn e.1) e.2.1 (ev_T (e.2.2 / 32) (e.2.2 % 32)).1 (ev_T (e.2.2 / 32) (e.2.2 % 32)).2.1 (ev_T (e.2.2 / 32) (e.2.2 % 32)).2.2.1
theorem ev_fls_ok : (ev_fls.zip ev_flp).all (fun e => decide (tables_1[e.2]? = some (ev_flw e.1)) && goodWord (ev_flw e.1)) = true := by decide +kernel
def ev_cons : List (Nat × Nat × Int32) := [(1, 28, 1000000), (5, 251, 1103515245), (5, 290, 1000000), (6, 261, 1000000000), (6, 285, 1103515245), (8, 265, 1431655765), (8, 266, 858993459), (8, 267, 252645135)]
def ev_conp : List Nat := [644, 739, 677, 1143, 1207, 331, 332, 333]
theorem ev_cons_ok : (ev_cons.zip ev_conp).all (fun e => decide (tables_1[e.2]? = some (Cond.constant (ev_cn e.1.1) e.1.2.1 e.1.2.2)) && goodWord (Cond.constant (ev_cn e.1.1) e.1.2.1 e.1.2.2)) = true := by decide +kernel
def ev_lcons : List (Nat × Nat × Int64) := [(5, 192, -1), (5, 291, 10), (6, 72, 127), (6, 108, 97), (6, 110, 122), (6, 112, 48), (6, 114, 57), (6, 147, 4), (6, 149, 5), (6, 165, 3), (6, 211, 9), (6, 216, 99), (6, 250, -1), (6, 252, 10), (6, 283, 60), (6, 290, 2), (6, 296, 20)]
def ev_lconp : List Nat := [616, 625, 886, 906, 907, 908, 909, 930, 931, 1002, 1058, 1066, 1123, 1124, 1206, 1227, 1236]
theorem ev_lcons_ok : (ev_lcons.zip ev_lconp).all (fun e => decide (tables_1[e.2]? = some (Cond.constantLong (ev_cn e.1.1) e.1.2.1 e.1.2.2)) && goodWord (Cond.constantLong (ev_cn e.1.1) e.1.2.1 e.1.2.2)) = true := by decide +kernel
/-- (pool place in the Teller, text) -/
def ev_strs : List (Nat × Nat) := [(162, 10), (164, 11), (166, 12), (168, 13), (170, 14), (171, 15), (173, 16), (175, 17)]
def ev_txt (k : Nat) : String := ["calm", "quarrel", "saint", "wander", "fine", "watch", "most", "kin"].getD k ""
/-- static fields: class, name, descriptor -/
def ev_sf (j : Nat) : String × String × String := [("java/lang/String", "COMPACT_STRINGS", "Z"), ("TenPledges$Teller", "NUMBERS", "[I"), ("TenPledges$Teller", "LOWEST", "[I"), ("TenPledges$Teller", "HIGHEST", "[I"), ("jdk/internal/util/Preconditions", "SIOOBE_FORMATTER", "Ljava/util/function/BiFunction;")].getD j ("", "", "")
def ev_sv (j : Nat) : Value := match j with
  | 0 => .int 1
  | j => .retAddr j
/-- (own class, pool place, static field) -/
def ev_stats : List (Nat × Nat × Nat) := [(3, 112, 1), (3, 122, 2), (3, 125, 3), (10, 38, 0), (10, 1053, 4)]
def ev_statp : List Nat := [405, 411, 413, 365, 381]
abbrev ev_stw (e : Nat × Nat × Nat) : Cond := .fieldLink (ev_cn e.1) e.2.1 (ev_sf e.2.2).1 (ev_sf e.2.2).2.1 (ev_sf e.2.2).2.2
theorem ev_stats_ok : (ev_stats.zip ev_statp).all (fun e => decide (tables_1[e.2]? = some (ev_stw e.1)) && goodWord (ev_stw e.1)) = true := by decide +kernel
/-- fields of a String: 0 value, 1 coder -/
def ev_sfs : List (Nat × Nat × Nat) := [(10, 9, 0), (10, 15, 1)]
def ev_sfp : List Nat := [1246, 1247]
def ev_sfn (j : Nat) : String × String := match j with
  | 0 => ("value", "[B")
  | _ => ("coder", "B")
abbrev ev_sfw (e : Nat × Nat × Nat) : Cond := .fieldLink (ev_cn e.1) e.2.1 "java/lang/String" (ev_sfn e.2.2).1 (ev_sfn e.2.2).2
theorem ev_sfs_ok : (ev_sfs.zip ev_sfp).all (fun e => decide (tables_1[e.2]? = some (ev_sfw e.1)) && goodWord (ev_sfw e.1)) = true := by decide +kernel
def ev_cls : List (Nat × Nat × Nat) := [(5, 7, 4), (5, 27, 2), (5, 37, 3), (5, 44, 1), (5, 51, 0), (7, 7, 5), (7, 10, 6)]
def ev_clp : List Nat := [22, 101, 103, 160, 187, 14, 789]
theorem ev_cls_ok : (ev_cls.zip ev_clp).all (fun e => decide (tables_1[e.2]? = some (Cond.classLink (ev_cn e.1.1) e.1.2.1 (ev_cn e.1.2.2))) && goodWord (Cond.classLink (ev_cn e.1.1) e.1.2.1 (ev_cn e.1.2.2))) = true := by decide +kernel
theorem ev_inst_ok : ([188, 161, 214, 104, 23, 15, 790].zip [0, 1, 2, 3, 4, 5, 6]).all (fun e => decide (tables_1[e.1]? = some (Cond.instantiable (ev_cn e.2) (ev_N e.2))) && goodWord (Cond.instantiable (ev_cn e.2) (ev_N e.2))) = true := by decide +kernel
theorem ev_init_ok : ([5, 4, 6, 3, 2, 1, 7, 0, 8, 13, 9, 10, 11].zip [0, 1, 2, 3, 4, 5, 6, 7, 8, 9, 10, 11, 12]).all (fun e => decide (tables_1[e.1]? = some (Cond.initialized (ev_cn e.2))) && goodWord (Cond.initialized (ev_cn e.2))) = true := by decide +kernel
end
section
def ev_stm : List (Nat × Nat) := [(3, 722), (24, 298), (30, 343), (106, 483), (107, 554), (108, 416), (109, 427), (110, 622), (111, 627), (112, 630), (114, 888), (115, 961), (137, 1000), (138, 1064), (139, 1024), (174, 1129), (175, 1126), (198, 1225), (204, 329), (205, 475), (210, 379), (211, 376), (212, 384)]
theorem ev_stm_ok : ev_stm.all (fun e => decide (tables_1[e.2]? = some (Cond.static (ev_y e.1))) && goodWord (Cond.static (ev_y e.1))) = true := by decide +kernel
def ev_inm0 : List (Nat × Nat) := [(0, 190), (1, 715), (2, 732), (4, 163), (5, 641), (6, 647), (7, 663), (8, 667), (9, 651), (10, 655), (11, 216), (12, 753), (13, 765), (14, 761), (15, 773), (16, 106), (17, 282), (18, 287), (19, 310), (20, 314), (21, 295), (22, 306), (23, 302), (25, 336), (26, 409), (27, 420), (28, 340), (29, 355), (31, 25), (32, 290), (33, 434), (34, 438), (35, 458), (36, 317), (37, 450), (38, 325), (39, 321), (40, 786), (41, 727), (42, 492), (43, 430), (44, 423), (45, 500), (46, 507), (47, 519), (48, 531), (49, 535), (50, 462), (51, 467), (52, 471), (53, 695), (54, 487), (55, 608), (56, 618), (57, 569), (58, 574), (59, 578), (60, 582), (61, 590), (62, 586)]
theorem ev_inm0_ok : ev_inm0.all (fun e => decide (tables_1[e.2]? = some (Cond.instanceMethod (ev_y e.1))) && goodWord (Cond.instanceMethod (ev_y e.1))) = true := by decide +kernel
def ev_inm1 : List (Nat × Nat) := [(63, 17), (64, 270), (65, 274), (66, 278), (67, 442), (68, 446), (69, 454), (70, 479), (71, 496), (72, 511), (73, 523), (74, 539), (75, 545), (76, 550), (77, 557), (78, 561), (79, 565), (80, 594), (81, 604), (82, 613), (83, 633), (84, 637), (85, 670), (86, 679), (87, 683), (88, 687), (89, 691), (90, 699), (91, 703), (92, 707), (93, 711), (94, 736), (95, 741), (96, 745), (97, 749), (98, 757), (99, 769), (100, 778), (101, 782), (102, 516), (103, 528), (104, 599), (105, 675), (113, 792), (116, 797), (117, 801), (118, 883), (119, 891), (120, 912), (121, 904), (122, 924), (123, 928), (124, 920), (125, 900), (126, 942), (127, 938), (128, 954), (129, 946), (130, 950), (131, 934)]
theorem ev_inm1_ok : ev_inm1.all (fun e => decide (tables_1[e.2]? = some (Cond.instanceMethod (ev_y e.1))) && goodWord (Cond.instanceMethod (ev_y e.1))) = true := by decide +kernel
def ev_inm2 : List (Nat × Nat) := [(132, 916), (133, 958), (134, 895), (135, 964), (136, 977), (140, 981), (141, 1105), (142, 985), (143, 1097), (144, 1005), (145, 993), (146, 989), (147, 1009), (148, 1117), (149, 1013), (150, 968), (151, 972), (152, 996), (153, 1028), (154, 1036), (155, 1021), (156, 1016), (157, 1031), (158, 1039), (159, 1048), (160, 1043), (161, 1051), (162, 1055), (163, 1060), (164, 1068), (165, 1093), (166, 1089), (167, 1101), (168, 1085), (169, 1081), (170, 1077), (171, 1072), (172, 1108), (173, 1112), (176, 1120), (177, 1137), (178, 1132), (179, 1146), (180, 1150), (181, 1140), (182, 1153), (183, 1158), (184, 1167), (185, 1162), (186, 1170), (187, 1174), (188, 1179), (189, 1183), (190, 1187), (191, 1196), (192, 1200), (193, 1191), (194, 1203), (195, 1214), (196, 1209)]
theorem ev_inm2_ok : ev_inm2.all (fun e => decide (tables_1[e.2]? = some (Cond.instanceMethod (ev_y e.1))) && goodWord (Cond.instanceMethod (ev_y e.1))) = true := by decide +kernel
def ev_inm3 : List (Nat × Nat) := [(197, 1217), (199, 1221), (200, 1229), (201, 1233), (202, 1239), (203, 1243), (206, 358), (207, 368), (208, 362), (209, 372)]
theorem ev_inm3_ok : ev_inm3.all (fun e => decide (tables_1[e.2]? = some (Cond.instanceMethod (ev_y e.1))) && goodWord (Cond.instanceMethod (ev_y e.1))) = true := by decide +kernel
def ev_inm : List (Nat × Nat) := ev_inm0 ++ (ev_inm1 ++ (ev_inm2 ++ (ev_inm3)))
theorem ev_inm_ok : ev_inm.all (fun e => decide (tables_1[e.2]? = some (Cond.instanceMethod (ev_y e.1))) && goodWord (Cond.instanceMethod (ev_y e.1))) = true := by simp only [ev_inm, List.all_append, ev_inm0_ok, ev_inm1_ok, ev_inm2_ok, ev_inm3_ok, Bool.and_self]
def ev_sel0 : List (Nat × Nat) := [(1, 716), (5, 642), (12, 754), (13, 766), (14, 762), (15, 774), (17, 283), (32, 291), (33, 435), (34, 439), (35, 459), (36, 318), (37, 451), (38, 326), (39, 322), (40, 787), (41, 728), (42, 493), (43, 431), (44, 424), (45, 501), (46, 508), (47, 520), (48, 532), (49, 536), (50, 463), (51, 468), (52, 472), (53, 696), (54, 488), (55, 609), (56, 619), (57, 570), (58, 575), (59, 579), (60, 583), (61, 591), (62, 587), (64, 271), (65, 275), (66, 279), (67, 443), (68, 447), (69, 455), (70, 480), (71, 497), (72, 512), (73, 524), (74, 540), (75, 546), (76, 551), (77, 558), (78, 562), (79, 566), (80, 595), (81, 605), (82, 614), (83, 634), (84, 638), (85, 671)]
theorem ev_sel0_ok : ev_sel0.all (fun e => decide (tables_1[e.2]? = some (Cond.selects (ev_y e.1).cls (ev_y e.1) (ev_y e.1))) && goodWord (Cond.selects (ev_y e.1).cls (ev_y e.1) (ev_y e.1))) = true := by decide +kernel
def ev_sel1 : List (Nat × Nat) := [(86, 680), (87, 684), (88, 688), (89, 692), (90, 700), (91, 704), (92, 708), (93, 712), (94, 737), (95, 742), (96, 746), (97, 750), (98, 758), (99, 770), (100, 779), (101, 783), (118, 884), (119, 892), (134, 896), (135, 965), (150, 969), (151, 973), (152, 997), (156, 1017), (157, 1032), (158, 1040), (160, 1044), (161, 1052), (162, 1056), (163, 1061), (164, 1069), (171, 1073), (172, 1109), (173, 1113), (176, 1121), (178, 1133), (181, 1141), (182, 1154), (183, 1159), (185, 1163), (186, 1171), (187, 1175), (188, 1180), (189, 1184), (190, 1188), (193, 1192), (194, 1204), (196, 1210), (197, 1218), (199, 1222), (200, 1230), (201, 1234), (202, 1240), (203, 1244), (206, 359), (207, 369), (208, 363), (209, 373)]
theorem ev_sel1_ok : ev_sel1.all (fun e => decide (tables_1[e.2]? = some (Cond.selects (ev_y e.1).cls (ev_y e.1) (ev_y e.1))) && goodWord (Cond.selects (ev_y e.1).cls (ev_y e.1) (ev_y e.1))) = true := by decide +kernel
def ev_sel : List (Nat × Nat) := ev_sel0 ++ (ev_sel1)
theorem ev_sel_ok : ev_sel.all (fun e => decide (tables_1[e.2]? = some (Cond.selects (ev_y e.1).cls (ev_y e.1) (ev_y e.1))) && goodWord (Cond.selects (ev_y e.1).cls (ev_y e.1) (ev_y e.1))) = true := by simp only [ev_sel, List.all_append, ev_sel0_ok, ev_sel1_ok, Bool.and_self]
def ev_selp0 : List (Nat × Nat × Nat) := [(2, 20, 5), (6, 14, 6), (7, 17, 6), (8, 18, 6), (9, 15, 6), (10, 16, 6), (18, 0, 15), (19, 4, 15), (20, 5, 15), (21, 1, 15), (22, 3, 15), (23, 2, 15), (25, 6, 15), (26, 9, 15), (27, 10, 15), (28, 7, 15), (29, 8, 15), (102, 11, 12), (103, 12, 12), (104, 13, 12), (105, 19, 12), (116, 21, 26), (117, 22, 26), (120, 25, 26), (121, 24, 26), (122, 28, 26), (123, 29, 26), (124, 27, 26), (125, 23, 26), (126, 32, 26), (127, 31, 26), (128, 35, 26), (129, 33, 26), (130, 34, 26), (131, 30, 26), (132, 26, 26), (133, 36, 26), (136, 37, 26), (140, 38, 26), (141, 56, 26), (142, 39, 26), (143, 54, 26), (144, 42, 26), (145, 41, 26), (146, 40, 26), (147, 43, 26), (148, 57, 26), (149, 44, 26), (153, 46, 26), (154, 47, 26), (155, 45, 26), (159, 48, 26), (165, 53, 26), (166, 52, 26), (167, 55, 26), (168, 51, 26), (169, 50, 26), (170, 49, 26), (177, 58, 26), (179, 59, 26)]
theorem ev_selp0_ok : ev_selp0.all (fun e => decide (lw_privs[e.2.1]? = some (ev_y e.1, e.2.2)) && goodWord (Cond.selects (ev_y e.1).cls (ev_y e.1) (ev_y e.1))) = true := by decide +kernel
def ev_selp1 : List (Nat × Nat × Nat) := [(180, 60, 26), (184, 61, 26), (191, 62, 26), (192, 63, 26), (195, 64, 26)]
theorem ev_selp1_ok : ev_selp1.all (fun e => decide (lw_privs[e.2.1]? = some (ev_y e.1, e.2.2)) && goodWord (Cond.selects (ev_y e.1).cls (ev_y e.1) (ev_y e.1))) = true := by decide +kernel
def ev_selp : List (Nat × Nat × Nat) := ev_selp0 ++ (ev_selp1)
theorem ev_selp_ok : ev_selp.all (fun e => decide (lw_privs[e.2.1]? = some (ev_y e.1, e.2.2)) && goodWord (Cond.selects (ev_y e.1).cls (ev_y e.1) (ev_y e.1))) = true := by simp only [ev_selp, List.all_append, ev_selp0_ok, ev_selp1_ok, Bool.and_self]
def ev_mlk0 : List (Nat × Nat × Nat × Nat × Nat) := [(0, 0, 18, 36, 718), (0, 0, 33, 33, 719), (0, 0, 37, 37, 720), (1, 0, 41, 3, 721), (0, 0, 45, 41, 726), (0, 0, 48, 2, 730), (0, 0, 52, 34, 724), (0, 0, 55, 58, 725), (0, 1, 33, 6, 645), (0, 1, 42, 9, 649), (0, 1, 46, 7, 661), (0, 1, 55, 8, 665), (0, 1, 59, 10, 653), (0, 1, 70, 52, 659), (1, 1, 80, 204, 660), (1, 1, 85, 205, 657), (0, 2, 22, 14, 776), (0, 3, 15, 18, 285), (0, 3, 19, 21, 293), (0, 3, 27, 20, 312), (0, 3, 30, 25, 334), (0, 3, 47, 32, 289), (0, 3, 74, 36, 316), (0, 3, 78, 19, 308), (0, 3, 82, 39, 320), (1, 3, 92, 24, 297), (0, 3, 96, 23, 300), (0, 3, 100, 22, 304), (0, 3, 106, 28, 338), (0, 3, 115, 26, 407), (0, 3, 118, 27, 418), (0, 3, 138, 44, 422), (0, 3, 142, 43, 429), (1, 3, 146, 30, 342), (0, 3, 150, 29, 353), (0, 3, 154, 206, 357), (0, 3, 158, 207, 367), (0, 4, 55, 34, 437), (0, 4, 59, 38, 324), (1, 4, 63, 204, 328), (0, 4, 76, 35, 503), (0, 4, 83, 39, 505), (0, 4, 86, 51, 466), (0, 4, 90, 52, 470), (0, 4, 93, 37, 477), (1, 4, 96, 205, 474), (0, 4, 101, 50, 490), (0, 4, 104, 54, 611), (0, 4, 107, 36, 572), (0, 4, 111, 59, 577), (0, 4, 114, 61, 589), (0, 4, 117, 60, 581), (0, 4, 120, 62, 585), (0, 5, 63, 17, 281), (0, 5, 76, 33, 433), (0, 5, 98, 37, 449), (0, 5, 102, 35, 457), (0, 5, 122, 50, 461), (1, 5, 125, 106, 482), (0, 5, 128, 38, 485)]
theorem ev_mlk0_ok : ev_mlk0.all (fun e => decide (tables_1[e.2.2.2.2]? = some (Cond.methodLink (ev_cn e.2.1) e.2.2.1 (ev_y e.2.2.2.1))) && goodWord (Cond.methodLink (ev_cn e.2.1) e.2.2.1 (ev_y e.2.2.2.1))) = true := by decide +kernel
def ev_mlk1 : List (Nat × Nat × Nat × Nat × Nat) := [(0, 5, 134, 54, 486), (0, 5, 137, 42, 491), (0, 5, 140, 45, 499), (0, 5, 144, 46, 506), (0, 5, 147, 102, 514), (0, 5, 150, 47, 518), (0, 5, 154, 103, 526), (0, 5, 158, 48, 530), (0, 5, 161, 49, 534), (1, 5, 165, 108, 542), (1, 5, 168, 109, 543), (0, 5, 172, 44, 548), (1, 5, 176, 107, 553), (0, 5, 179, 57, 568), (0, 5, 182, 58, 573), (0, 5, 185, 104, 597), (0, 5, 188, 55, 607), (0, 5, 194, 56, 617), (1, 5, 198, 110, 621), (1, 5, 202, 111, 626), (0, 5, 206, 5, 640), (0, 5, 215, 105, 673), (0, 5, 218, 53, 694), (0, 5, 230, 1, 714), (0, 5, 242, 36, 734), (0, 5, 252, 12, 752), (0, 5, 258, 14, 760), (0, 5, 261, 13, 764), (0, 5, 264, 15, 772), (1, 5, 273, 204, 624), (0, 5, 278, 40, 785), (0, 5, 284, 34, 601), (0, 5, 287, 59, 602), (1, 5, 293, 112, 629), (0, 6, 50, 116, 795), (0, 6, 53, 117, 799), (1, 6, 74, 114, 887), (0, 6, 93, 121, 902), (0, 6, 97, 122, 922), (0, 6, 101, 123, 926), (0, 6, 119, 120, 910), (0, 6, 123, 126, 940), (0, 6, 127, 125, 898), (0, 6, 130, 127, 936), (0, 6, 133, 129, 944), (0, 6, 136, 130, 948), (0, 6, 139, 128, 952), (0, 6, 143, 124, 918), (0, 6, 151, 131, 932), (1, 6, 154, 115, 960), (0, 6, 158, 132, 914), (0, 6, 161, 133, 956), (0, 6, 167, 142, 983), (0, 6, 170, 145, 991), (0, 6, 174, 146, 987), (0, 6, 177, 147, 1007), (0, 6, 180, 136, 975), (0, 6, 183, 140, 979), (1, 6, 186, 137, 999), (0, 6, 189, 144, 1003)]
theorem ev_mlk1_ok : ev_mlk1.all (fun e => decide (tables_1[e.2.2.2.2]? = some (Cond.methodLink (ev_cn e.2.1) e.2.2.1 (ev_y e.2.2.2.1))) && goodWord (Cond.methodLink (ev_cn e.2.1) e.2.2.1 (ev_y e.2.2.2.1))) = true := by decide +kernel
def ev_mlk2 : List (Nat × Nat × Nat × Nat × Nat) := [(0, 6, 192, 149, 1011), (1, 6, 195, 139, 1023), (0, 6, 198, 155, 1019), (0, 6, 201, 153, 1026), (0, 6, 204, 154, 1034), (0, 6, 207, 159, 1046), (1, 6, 213, 138, 1063), (0, 6, 218, 143, 1095), (0, 6, 222, 165, 1091), (0, 6, 225, 166, 1087), (0, 6, 228, 167, 1099), (0, 6, 231, 169, 1079), (0, 6, 234, 170, 1075), (0, 6, 237, 168, 1083), (0, 6, 240, 141, 1103), (0, 6, 243, 148, 1115), (1, 6, 246, 174, 1128), (1, 6, 254, 175, 1125), (0, 6, 258, 177, 1135), (0, 6, 262, 179, 1144), (0, 6, 265, 180, 1148), (0, 6, 268, 173, 1156), (0, 6, 271, 184, 1165), (0, 6, 274, 150, 1177), (0, 6, 277, 191, 1194), (0, 6, 280, 192, 1198), (0, 6, 286, 195, 1212), (1, 6, 292, 198, 1224), (0, 6, 298, 156, 1237), (0, 10, 335, 208, 361), (0, 10, 492, 209, 371), (1, 10, 495, 211, 375), (1, 10, 1059, 212, 383), (1, 11, 9, 210, 378), (3, 7, 9, 63, 16), (3, 7, 12, 113, 791), (0, 7, 13, 64, 269), (0, 7, 17, 118, 882), (0, 7, 18, 65, 273), (0, 7, 21, 119, 890), (0, 7, 22, 66, 277), (0, 7, 26, 134, 894), (0, 7, 27, 67, 441), (0, 7, 30, 135, 963), (0, 7, 31, 68, 445), (0, 7, 34, 150, 967), (0, 7, 35, 69, 453), (0, 7, 39, 151, 971), (0, 7, 40, 70, 478), (0, 7, 43, 152, 995), (0, 7, 44, 71, 495), (0, 7, 47, 156, 1015), (0, 7, 48, 72, 510), (0, 7, 51, 157, 1030), (0, 7, 52, 73, 522), (0, 7, 55, 158, 1038), (0, 7, 56, 74, 538), (0, 7, 60, 160, 1042), (0, 7, 61, 75, 544), (0, 7, 65, 161, 1050)]
theorem ev_mlk2_ok : ev_mlk2.all (fun e => decide (tables_1[e.2.2.2.2]? = some (Cond.methodLink (ev_cn e.2.1) e.2.2.1 (ev_y e.2.2.2.1))) && goodWord (Cond.methodLink (ev_cn e.2.1) e.2.2.1 (ev_y e.2.2.2.1))) = true := by decide +kernel
def ev_mlk3 : List (Nat × Nat × Nat × Nat × Nat) := [(0, 7, 66, 76, 549), (0, 7, 69, 162, 1054), (0, 7, 70, 77, 556), (0, 7, 73, 163, 1059), (0, 7, 74, 78, 560), (0, 7, 77, 164, 1067), (0, 7, 78, 79, 564), (0, 7, 81, 171, 1071), (0, 7, 82, 80, 593), (0, 7, 85, 172, 1107), (0, 7, 86, 81, 603), (0, 7, 89, 173, 1111), (0, 7, 90, 82, 612), (0, 7, 94, 176, 1119), (0, 7, 95, 83, 632), (0, 7, 98, 178, 1131), (0, 7, 99, 84, 636), (0, 7, 102, 181, 1139), (0, 7, 103, 85, 669), (0, 7, 106, 182, 1152), (0, 7, 107, 86, 678), (0, 7, 110, 183, 1157), (0, 7, 111, 87, 682), (0, 7, 114, 185, 1161), (0, 7, 115, 88, 686), (0, 7, 118, 186, 1169), (0, 7, 119, 89, 690), (0, 7, 122, 187, 1173), (0, 7, 123, 90, 698), (0, 7, 126, 188, 1178), (0, 7, 127, 91, 702), (0, 7, 130, 189, 1182), (0, 7, 131, 92, 706), (0, 7, 134, 190, 1186), (0, 7, 135, 93, 710), (0, 7, 138, 193, 1190), (0, 7, 139, 94, 735), (0, 7, 143, 194, 1202), (0, 7, 144, 95, 740), (0, 7, 147, 196, 1208), (0, 7, 148, 96, 744), (0, 7, 151, 197, 1216), (0, 7, 152, 97, 748), (0, 7, 155, 199, 1220), (0, 7, 156, 98, 756), (0, 7, 159, 200, 1228), (0, 7, 160, 99, 768), (0, 7, 164, 201, 1232), (0, 7, 165, 100, 777), (0, 7, 168, 202, 1238), (0, 7, 169, 101, 781), (0, 7, 172, 203, 1242)]
theorem ev_mlk3_ok : ev_mlk3.all (fun e => decide (tables_1[e.2.2.2.2]? = some (Cond.methodLink (ev_cn e.2.1) e.2.2.1 (ev_y e.2.2.2.1))) && goodWord (Cond.methodLink (ev_cn e.2.1) e.2.2.1 (ev_y e.2.2.2.1))) = true := by decide +kernel
def ev_mlk : List (Nat × Nat × Nat × Nat × Nat) := ev_mlk0 ++ (ev_mlk1 ++ (ev_mlk2 ++ (ev_mlk3)))
theorem ev_mlk_ok : ev_mlk.all (fun e => decide (tables_1[e.2.2.2.2]? = some (Cond.methodLink (ev_cn e.2.1) e.2.2.1 (ev_y e.2.2.2.1))) && goodWord (Cond.methodLink (ev_cn e.2.1) e.2.2.1 (ev_y e.2.2.2.1))) = true := by simp only [ev_mlk, List.all_append, ev_mlk0_ok, ev_mlk1_ok, ev_mlk2_ok, ev_mlk3_ok, Bool.and_self]
def ev_mls : List (Nat × Nat × Nat × Nat) := ev_mlk.map (fun e => (e.1, e.2.1, e.2.2.1, e.2.2.2.1))
/-- nest mates: (kind, own class, pool place, method) -/
def ev_mns : List (Nat × Nat × Nat × Nat) := [(2, 1, 66, 108), (2, 3, 128, 108), (2, 4, 68, 108), (2, 4, 72, 109), (2, 4, 80, 106), (4, 5, 9, 31), (4, 5, 39, 16), (4, 5, 46, 4), (4, 5, 53, 0), (4, 5, 58, 11)]
def ev_mos : List (Nat × Nat) := [(0, 3), (1, 3), (2, 3), (3, 3), (4, 3), (5, 1), (6, 1)]
def ev_mop : List Nat := [192, 165, 218, 108, 27, 19, 794]
theorem ev_mos_ok : (ev_mos.zip ev_mop).all (fun e => decide (tables_1[e.2]? = some (Cond.methodLink (ev_cn e.1.1) e.1.2 Lib.objectInit)) && goodWord (Cond.methodLink (ev_cn e.1.1) e.1.2 Lib.objectInit)) = true := by decide +kernel
theorem ev_obi : Cond.instanceMethod Lib.objectInit ∈ ev_UW := ev_mem 20 (by decide +kernel) rfl
theorem ev_obc : Cond.code Lib.objectInit ⟨#[0xb1]⟩ 1 none ∈ ev_UW := ev_mem 21 rfl rfl
def ev_cp : List Nat := [191, 717, 733, 723, 164, 643, 648, 664, 668, 652, 656, 217, 755, 767, 763, 775, 107, 284, 288, 311, 315, 296, 307, 303, 299, 337, 410, 421, 341, 356, 344, 26, 292, 436, 440, 460, 319, 452, 327, 323, 788, 729, 494, 432, 425, 502, 509, 521, 533, 537, 464, 469, 473, 697, 489, 610, 620, 571, 576, 580, 584, 592, 588, 18, 272, 276, 280, 444, 448, 456, 481, 498, 513, 525, 541, 547, 552, 559, 563, 567, 596, 606, 615, 635, 639, 672, 681, 685, 689, 693, 701, 705, 709, 713, 738, 743, 747, 751, 759, 771, 780, 784, 517, 529, 600, 676, 484, 555, 417, 428, 623, 628, 631, 793, 889, 962, 798, 802, 885, 893, 913, 905, 925, 929, 921, 901, 943, 939, 955, 947, 951, 935, 917, 959, 897, 966, 978, 1001, 1065, 1025, 982, 1106, 986, 1098, 1006, 994, 990, 1010, 1118, 1014, 970, 974, 998, 1029, 1037, 1022, 1018, 1033, 1041, 1049, 1045, 1053, 1057, 1062, 1070, 1094, 1090, 1102, 1086, 1082, 1078, 1074, 1110, 1114, 1130, 1127, 1122, 1138, 1134, 1147, 1151, 1142, 1155, 1160, 1168, 1164, 1172, 1176, 1181, 1185, 1189, 1197, 1201, 1193, 1205, 1215, 1211, 1219, 1226, 1223, 1231, 1235, 1241, 1245, 330, 476, 360, 370, 364, 374, 380, 377, 385]
theorem ev_t0 {w : Cond} (h : w ∈ tables_1_1) : w ∈ tables_1 := List.mem_append_left _ (h)
theorem ev_t1 {w : Cond} (h : w ∈ tables_1_2) : w ∈ tables_1 := List.mem_append_right _ (List.mem_append_left _ (h))
theorem ev_t2 {w : Cond} (h : w ∈ tables_1_3) : w ∈ tables_1 := List.mem_append_right _ (List.mem_append_right _ (List.mem_append_left _ (h)))
theorem ev_t3 {w : Cond} (h : w ∈ tables_1_4) : w ∈ tables_1 := List.mem_append_right _ (List.mem_append_right _ (List.mem_append_right _ (List.mem_append_left _ (h))))
theorem ev_t4 {w : Cond} (h : w ∈ tables_1_5) : w ∈ tables_1 := List.mem_append_right _ (List.mem_append_right _ (List.mem_append_right _ (List.mem_append_right _ (List.mem_append_left _ (h)))))
theorem ev_t5 {w : Cond} (h : w ∈ tables_1_6) : w ∈ tables_1 := List.mem_append_right _ (List.mem_append_right _ (List.mem_append_right _ (List.mem_append_right _ (List.mem_append_right _ (h)))))
set_option maxRecDepth 100000 in
theorem ev_c0 : Cond.code (ev_y 0) (ev_b 0) (ev_L 0) (ev_r 0) ∈ tables_1 := ev_t0 (List.mem_of_getElem? (i := 191) rfl)
set_option maxRecDepth 100000 in
theorem ev_c1 : Cond.code (ev_y 1) (ev_b 1) (ev_L 1) (ev_r 1) ∈ tables_1 := ev_t2 (List.mem_of_getElem? (i := 237) rfl)
set_option maxRecDepth 100000 in
theorem ev_c2 : Cond.code (ev_y 2) (ev_b 2) (ev_L 2) (ev_r 2) ∈ tables_1 := ev_t3 (List.mem_of_getElem? (i := 13) rfl)
set_option maxRecDepth 100000 in
theorem ev_c3 : Cond.code (ev_y 3) (ev_b 3) (ev_L 3) (ev_r 3) ∈ tables_1 := ev_t3 (List.mem_of_getElem? (i := 3) rfl)
set_option maxRecDepth 100000 in
theorem ev_c4 : Cond.code (ev_y 4) (ev_b 4) (ev_L 4) (ev_r 4) ∈ tables_1 := ev_t0 (List.mem_of_getElem? (i := 164) rfl)
set_option maxRecDepth 100000 in
theorem ev_c5 : Cond.code (ev_y 5) (ev_b 5) (ev_L 5) (ev_r 5) ∈ tables_1 := ev_t2 (List.mem_of_getElem? (i := 163) rfl)
set_option maxRecDepth 100000 in
theorem ev_c6 : Cond.code (ev_y 6) (ev_b 6) (ev_L 6) (ev_r 6) ∈ tables_1 := ev_t2 (List.mem_of_getElem? (i := 168) rfl)
set_option maxRecDepth 100000 in
theorem ev_c7 : Cond.code (ev_y 7) (ev_b 7) (ev_L 7) (ev_r 7) ∈ tables_1 := ev_t2 (List.mem_of_getElem? (i := 184) rfl)
set_option maxRecDepth 100000 in
theorem ev_c8 : Cond.code (ev_y 8) (ev_b 8) (ev_L 8) (ev_r 8) ∈ tables_1 := ev_t2 (List.mem_of_getElem? (i := 188) rfl)
set_option maxRecDepth 100000 in
theorem ev_c9 : Cond.code (ev_y 9) (ev_b 9) (ev_L 9) (ev_r 9) ∈ tables_1 := ev_t2 (List.mem_of_getElem? (i := 172) rfl)
set_option maxRecDepth 100000 in
theorem ev_c10 : Cond.code (ev_y 10) (ev_b 10) (ev_L 10) (ev_r 10) ∈ tables_1 := ev_t2 (List.mem_of_getElem? (i := 176) rfl)
set_option maxRecDepth 100000 in
theorem ev_c11 : Cond.code (ev_y 11) (ev_b 11) (ev_L 11) (ev_r 11) ∈ tables_1 := ev_t0 (List.mem_of_getElem? (i := 217) rfl)
set_option maxRecDepth 100000 in
theorem ev_c12 : Cond.code (ev_y 12) (ev_b 12) (ev_L 12) (ev_r 12) ∈ tables_1 := ev_t3 (List.mem_of_getElem? (i := 35) rfl)
set_option maxRecDepth 100000 in
theorem ev_c13 : Cond.code (ev_y 13) (ev_b 13) (ev_L 13) (ev_r 13) ∈ tables_1 := ev_t3 (List.mem_of_getElem? (i := 47) rfl)
set_option maxRecDepth 100000 in
theorem ev_c14 : Cond.code (ev_y 14) (ev_b 14) (ev_L 14) (ev_r 14) ∈ tables_1 := ev_t3 (List.mem_of_getElem? (i := 43) rfl)
set_option maxRecDepth 100000 in
theorem ev_c15 : Cond.code (ev_y 15) (ev_b 15) (ev_L 15) (ev_r 15) ∈ tables_1 := ev_t3 (List.mem_of_getElem? (i := 55) rfl)
set_option maxRecDepth 100000 in
theorem ev_c16 : Cond.code (ev_y 16) (ev_b 16) (ev_L 16) (ev_r 16) ∈ tables_1 := ev_t0 (List.mem_of_getElem? (i := 107) rfl)
set_option maxRecDepth 100000 in
theorem ev_c17 : Cond.code (ev_y 17) (ev_b 17) (ev_L 17) (ev_r 17) ∈ tables_1 := ev_t1 (List.mem_of_getElem? (i := 44) rfl)
set_option maxRecDepth 100000 in
theorem ev_c18 : Cond.code (ev_y 18) (ev_b 18) (ev_L 18) (ev_r 18) ∈ tables_1 := ev_t1 (List.mem_of_getElem? (i := 48) rfl)
set_option maxRecDepth 100000 in
theorem ev_c19 : Cond.code (ev_y 19) (ev_b 19) (ev_L 19) (ev_r 19) ∈ tables_1 := ev_t1 (List.mem_of_getElem? (i := 71) rfl)
set_option maxRecDepth 100000 in
theorem ev_c20 : Cond.code (ev_y 20) (ev_b 20) (ev_L 20) (ev_r 20) ∈ tables_1 := ev_t1 (List.mem_of_getElem? (i := 75) rfl)
set_option maxRecDepth 100000 in
theorem ev_c21 : Cond.code (ev_y 21) (ev_b 21) (ev_L 21) (ev_r 21) ∈ tables_1 := ev_t1 (List.mem_of_getElem? (i := 56) rfl)
set_option maxRecDepth 100000 in
theorem ev_c22 : Cond.code (ev_y 22) (ev_b 22) (ev_L 22) (ev_r 22) ∈ tables_1 := ev_t1 (List.mem_of_getElem? (i := 67) rfl)
set_option maxRecDepth 100000 in
theorem ev_c23 : Cond.code (ev_y 23) (ev_b 23) (ev_L 23) (ev_r 23) ∈ tables_1 := ev_t1 (List.mem_of_getElem? (i := 63) rfl)
set_option maxRecDepth 100000 in
theorem ev_c24 : Cond.code (ev_y 24) (ev_b 24) (ev_L 24) (ev_r 24) ∈ tables_1 := ev_t1 (List.mem_of_getElem? (i := 59) rfl)
set_option maxRecDepth 100000 in
theorem ev_c25 : Cond.code (ev_y 25) (ev_b 25) (ev_L 25) (ev_r 25) ∈ tables_1 := ev_t1 (List.mem_of_getElem? (i := 97) rfl)
set_option maxRecDepth 100000 in
theorem ev_c26 : Cond.code (ev_y 26) (ev_b 26) (ev_L 26) (ev_r 26) ∈ tables_1 := ev_t1 (List.mem_of_getElem? (i := 170) rfl)
set_option maxRecDepth 100000 in
theorem ev_c27 : Cond.code (ev_y 27) (ev_b 27) (ev_L 27) (ev_r 27) ∈ tables_1 := ev_t1 (List.mem_of_getElem? (i := 181) rfl)
set_option maxRecDepth 100000 in
theorem ev_c28 : Cond.code (ev_y 28) (ev_b 28) (ev_L 28) (ev_r 28) ∈ tables_1 := ev_t1 (List.mem_of_getElem? (i := 101) rfl)
set_option maxRecDepth 100000 in
theorem ev_c29 : Cond.code (ev_y 29) (ev_b 29) (ev_L 29) (ev_r 29) ∈ tables_1 := ev_t1 (List.mem_of_getElem? (i := 116) rfl)
set_option maxRecDepth 100000 in
theorem ev_c30 : Cond.code (ev_y 30) (ev_b 30) (ev_L 30) (ev_r 30) ∈ tables_1 := ev_t1 (List.mem_of_getElem? (i := 104) rfl)
set_option maxRecDepth 100000 in
theorem ev_c31 : Cond.code (ev_y 31) (ev_b 31) (ev_L 31) (ev_r 31) ∈ tables_1 := ev_t0 (List.mem_of_getElem? (i := 26) rfl)
set_option maxRecDepth 100000 in
theorem ev_c32 : Cond.code (ev_y 32) (ev_b 32) (ev_L 32) (ev_r 32) ∈ tables_1 := ev_t1 (List.mem_of_getElem? (i := 52) rfl)
set_option maxRecDepth 100000 in
theorem ev_c33 : Cond.code (ev_y 33) (ev_b 33) (ev_L 33) (ev_r 33) ∈ tables_1 := ev_t1 (List.mem_of_getElem? (i := 196) rfl)
set_option maxRecDepth 100000 in
theorem ev_c34 : Cond.code (ev_y 34) (ev_b 34) (ev_L 34) (ev_r 34) ∈ tables_1 := ev_t1 (List.mem_of_getElem? (i := 200) rfl)
set_option maxRecDepth 100000 in
theorem ev_c35 : Cond.code (ev_y 35) (ev_b 35) (ev_L 35) (ev_r 35) ∈ tables_1 := ev_t1 (List.mem_of_getElem? (i := 220) rfl)
set_option maxRecDepth 100000 in
theorem ev_c36 : Cond.code (ev_y 36) (ev_b 36) (ev_L 36) (ev_r 36) ∈ tables_1 := ev_t1 (List.mem_of_getElem? (i := 79) rfl)
set_option maxRecDepth 100000 in
theorem ev_c37 : Cond.code (ev_y 37) (ev_b 37) (ev_L 37) (ev_r 37) ∈ tables_1 := ev_t1 (List.mem_of_getElem? (i := 212) rfl)
set_option maxRecDepth 100000 in
theorem ev_c38 : Cond.code (ev_y 38) (ev_b 38) (ev_L 38) (ev_r 38) ∈ tables_1 := ev_t1 (List.mem_of_getElem? (i := 87) rfl)
set_option maxRecDepth 100000 in
theorem ev_c39 : Cond.code (ev_y 39) (ev_b 39) (ev_L 39) (ev_r 39) ∈ tables_1 := ev_t1 (List.mem_of_getElem? (i := 83) rfl)
set_option maxRecDepth 100000 in
theorem ev_c40 : Cond.code (ev_y 40) (ev_b 40) (ev_L 40) (ev_r 40) ∈ tables_1 := ev_t3 (List.mem_of_getElem? (i := 68) rfl)
set_option maxRecDepth 100000 in
theorem ev_c41 : Cond.code (ev_y 41) (ev_b 41) (ev_L 41) (ev_r 41) ∈ tables_1 := ev_t3 (List.mem_of_getElem? (i := 9) rfl)
set_option maxRecDepth 100000 in
theorem ev_c42 : Cond.code (ev_y 42) (ev_b 42) (ev_L 42) (ev_r 42) ∈ tables_1 := ev_t2 (List.mem_of_getElem? (i := 14) rfl)
set_option maxRecDepth 100000 in
theorem ev_c43 : Cond.code (ev_y 43) (ev_b 43) (ev_L 43) (ev_r 43) ∈ tables_1 := ev_t1 (List.mem_of_getElem? (i := 192) rfl)
set_option maxRecDepth 100000 in
theorem ev_c44 : Cond.code (ev_y 44) (ev_b 44) (ev_L 44) (ev_r 44) ∈ tables_1 := ev_t1 (List.mem_of_getElem? (i := 185) rfl)
set_option maxRecDepth 100000 in
theorem ev_c45 : Cond.code (ev_y 45) (ev_b 45) (ev_L 45) (ev_r 45) ∈ tables_1 := ev_t2 (List.mem_of_getElem? (i := 22) rfl)
set_option maxRecDepth 100000 in
theorem ev_c46 : Cond.code (ev_y 46) (ev_b 46) (ev_L 46) (ev_r 46) ∈ tables_1 := ev_t2 (List.mem_of_getElem? (i := 29) rfl)
set_option maxRecDepth 100000 in
theorem ev_c47 : Cond.code (ev_y 47) (ev_b 47) (ev_L 47) (ev_r 47) ∈ tables_1 := ev_t2 (List.mem_of_getElem? (i := 41) rfl)
set_option maxRecDepth 100000 in
theorem ev_c48 : Cond.code (ev_y 48) (ev_b 48) (ev_L 48) (ev_r 48) ∈ tables_1 := ev_t2 (List.mem_of_getElem? (i := 53) rfl)
set_option maxRecDepth 100000 in
theorem ev_c49 : Cond.code (ev_y 49) (ev_b 49) (ev_L 49) (ev_r 49) ∈ tables_1 := ev_t2 (List.mem_of_getElem? (i := 57) rfl)
set_option maxRecDepth 100000 in
theorem ev_c50 : Cond.code (ev_y 50) (ev_b 50) (ev_L 50) (ev_r 50) ∈ tables_1 := ev_t1 (List.mem_of_getElem? (i := 224) rfl)
set_option maxRecDepth 100000 in
theorem ev_c51 : Cond.code (ev_y 51) (ev_b 51) (ev_L 51) (ev_r 51) ∈ tables_1 := ev_t1 (List.mem_of_getElem? (i := 229) rfl)
set_option maxRecDepth 100000 in
theorem ev_c52 : Cond.code (ev_y 52) (ev_b 52) (ev_L 52) (ev_r 52) ∈ tables_1 := ev_t1 (List.mem_of_getElem? (i := 233) rfl)
set_option maxRecDepth 100000 in
theorem ev_c53 : Cond.code (ev_y 53) (ev_b 53) (ev_L 53) (ev_r 53) ∈ tables_1 := ev_t2 (List.mem_of_getElem? (i := 217) rfl)
set_option maxRecDepth 100000 in
theorem ev_c54 : Cond.code (ev_y 54) (ev_b 54) (ev_L 54) (ev_r 54) ∈ tables_1 := ev_t2 (List.mem_of_getElem? (i := 9) rfl)
set_option maxRecDepth 100000 in
theorem ev_c55 : Cond.code (ev_y 55) (ev_b 55) (ev_L 55) (ev_r 55) ∈ tables_1 := ev_t2 (List.mem_of_getElem? (i := 130) rfl)
set_option maxRecDepth 100000 in
theorem ev_c56 : Cond.code (ev_y 56) (ev_b 56) (ev_L 56) (ev_r 56) ∈ tables_1 := ev_t2 (List.mem_of_getElem? (i := 140) rfl)
set_option maxRecDepth 100000 in
theorem ev_c57 : Cond.code (ev_y 57) (ev_b 57) (ev_L 57) (ev_r 57) ∈ tables_1 := ev_t2 (List.mem_of_getElem? (i := 91) rfl)
set_option maxRecDepth 100000 in
theorem ev_c58 : Cond.code (ev_y 58) (ev_b 58) (ev_L 58) (ev_r 58) ∈ tables_1 := ev_t2 (List.mem_of_getElem? (i := 96) rfl)
set_option maxRecDepth 100000 in
theorem ev_c59 : Cond.code (ev_y 59) (ev_b 59) (ev_L 59) (ev_r 59) ∈ tables_1 := ev_t2 (List.mem_of_getElem? (i := 100) rfl)
set_option maxRecDepth 100000 in
theorem ev_c60 : Cond.code (ev_y 60) (ev_b 60) (ev_L 60) (ev_r 60) ∈ tables_1 := ev_t2 (List.mem_of_getElem? (i := 104) rfl)
set_option maxRecDepth 100000 in
theorem ev_c61 : Cond.code (ev_y 61) (ev_b 61) (ev_L 61) (ev_r 61) ∈ tables_1 := ev_t2 (List.mem_of_getElem? (i := 112) rfl)
set_option maxRecDepth 100000 in
theorem ev_c62 : Cond.code (ev_y 62) (ev_b 62) (ev_L 62) (ev_r 62) ∈ tables_1 := ev_t2 (List.mem_of_getElem? (i := 108) rfl)
set_option maxRecDepth 100000 in
theorem ev_c63 : Cond.code (ev_y 63) (ev_b 63) (ev_L 63) (ev_r 63) ∈ tables_1 := ev_t0 (List.mem_of_getElem? (i := 18) rfl)
set_option maxRecDepth 100000 in
theorem ev_c64 : Cond.code (ev_y 64) (ev_b 64) (ev_L 64) (ev_r 64) ∈ tables_1 := ev_t1 (List.mem_of_getElem? (i := 32) rfl)
set_option maxRecDepth 100000 in
theorem ev_c65 : Cond.code (ev_y 65) (ev_b 65) (ev_L 65) (ev_r 65) ∈ tables_1 := ev_t1 (List.mem_of_getElem? (i := 36) rfl)
set_option maxRecDepth 100000 in
theorem ev_c66 : Cond.code (ev_y 66) (ev_b 66) (ev_L 66) (ev_r 66) ∈ tables_1 := ev_t1 (List.mem_of_getElem? (i := 40) rfl)
set_option maxRecDepth 100000 in
theorem ev_c67 : Cond.code (ev_y 67) (ev_b 67) (ev_L 67) (ev_r 67) ∈ tables_1 := ev_t1 (List.mem_of_getElem? (i := 204) rfl)
set_option maxRecDepth 100000 in
theorem ev_c68 : Cond.code (ev_y 68) (ev_b 68) (ev_L 68) (ev_r 68) ∈ tables_1 := ev_t1 (List.mem_of_getElem? (i := 208) rfl)
set_option maxRecDepth 100000 in
theorem ev_c69 : Cond.code (ev_y 69) (ev_b 69) (ev_L 69) (ev_r 69) ∈ tables_1 := ev_t1 (List.mem_of_getElem? (i := 216) rfl)
set_option maxRecDepth 100000 in
theorem ev_c70 : Cond.code (ev_y 70) (ev_b 70) (ev_L 70) (ev_r 70) ∈ tables_1 := ev_t2 (List.mem_of_getElem? (i := 1) rfl)
set_option maxRecDepth 100000 in
theorem ev_c71 : Cond.code (ev_y 71) (ev_b 71) (ev_L 71) (ev_r 71) ∈ tables_1 := ev_t2 (List.mem_of_getElem? (i := 18) rfl)
set_option maxRecDepth 100000 in
theorem ev_c72 : Cond.code (ev_y 72) (ev_b 72) (ev_L 72) (ev_r 72) ∈ tables_1 := ev_t2 (List.mem_of_getElem? (i := 33) rfl)
set_option maxRecDepth 100000 in
theorem ev_c73 : Cond.code (ev_y 73) (ev_b 73) (ev_L 73) (ev_r 73) ∈ tables_1 := ev_t2 (List.mem_of_getElem? (i := 45) rfl)
set_option maxRecDepth 100000 in
theorem ev_c74 : Cond.code (ev_y 74) (ev_b 74) (ev_L 74) (ev_r 74) ∈ tables_1 := ev_t2 (List.mem_of_getElem? (i := 61) rfl)
set_option maxRecDepth 100000 in
theorem ev_c75 : Cond.code (ev_y 75) (ev_b 75) (ev_L 75) (ev_r 75) ∈ tables_1 := ev_t2 (List.mem_of_getElem? (i := 67) rfl)
set_option maxRecDepth 100000 in
theorem ev_c76 : Cond.code (ev_y 76) (ev_b 76) (ev_L 76) (ev_r 76) ∈ tables_1 := ev_t2 (List.mem_of_getElem? (i := 72) rfl)
set_option maxRecDepth 100000 in
theorem ev_c77 : Cond.code (ev_y 77) (ev_b 77) (ev_L 77) (ev_r 77) ∈ tables_1 := ev_t2 (List.mem_of_getElem? (i := 79) rfl)
set_option maxRecDepth 100000 in
theorem ev_c78 : Cond.code (ev_y 78) (ev_b 78) (ev_L 78) (ev_r 78) ∈ tables_1 := ev_t2 (List.mem_of_getElem? (i := 83) rfl)
set_option maxRecDepth 100000 in
theorem ev_c79 : Cond.code (ev_y 79) (ev_b 79) (ev_L 79) (ev_r 79) ∈ tables_1 := ev_t2 (List.mem_of_getElem? (i := 87) rfl)
set_option maxRecDepth 100000 in
theorem ev_c80 : Cond.code (ev_y 80) (ev_b 80) (ev_L 80) (ev_r 80) ∈ tables_1 := ev_t2 (List.mem_of_getElem? (i := 116) rfl)
set_option maxRecDepth 100000 in
theorem ev_c81 : Cond.code (ev_y 81) (ev_b 81) (ev_L 81) (ev_r 81) ∈ tables_1 := ev_t2 (List.mem_of_getElem? (i := 126) rfl)
set_option maxRecDepth 100000 in
theorem ev_c82 : Cond.code (ev_y 82) (ev_b 82) (ev_L 82) (ev_r 82) ∈ tables_1 := ev_t2 (List.mem_of_getElem? (i := 135) rfl)
set_option maxRecDepth 100000 in
theorem ev_c83 : Cond.code (ev_y 83) (ev_b 83) (ev_L 83) (ev_r 83) ∈ tables_1 := ev_t2 (List.mem_of_getElem? (i := 155) rfl)
set_option maxRecDepth 100000 in
theorem ev_c84 : Cond.code (ev_y 84) (ev_b 84) (ev_L 84) (ev_r 84) ∈ tables_1 := ev_t2 (List.mem_of_getElem? (i := 159) rfl)
set_option maxRecDepth 100000 in
theorem ev_c85 : Cond.code (ev_y 85) (ev_b 85) (ev_L 85) (ev_r 85) ∈ tables_1 := ev_t2 (List.mem_of_getElem? (i := 192) rfl)
set_option maxRecDepth 100000 in
theorem ev_c86 : Cond.code (ev_y 86) (ev_b 86) (ev_L 86) (ev_r 86) ∈ tables_1 := ev_t2 (List.mem_of_getElem? (i := 201) rfl)
set_option maxRecDepth 100000 in
theorem ev_c87 : Cond.code (ev_y 87) (ev_b 87) (ev_L 87) (ev_r 87) ∈ tables_1 := ev_t2 (List.mem_of_getElem? (i := 205) rfl)
set_option maxRecDepth 100000 in
theorem ev_c88 : Cond.code (ev_y 88) (ev_b 88) (ev_L 88) (ev_r 88) ∈ tables_1 := ev_t2 (List.mem_of_getElem? (i := 209) rfl)
set_option maxRecDepth 100000 in
theorem ev_c89 : Cond.code (ev_y 89) (ev_b 89) (ev_L 89) (ev_r 89) ∈ tables_1 := ev_t2 (List.mem_of_getElem? (i := 213) rfl)
set_option maxRecDepth 100000 in
theorem ev_c90 : Cond.code (ev_y 90) (ev_b 90) (ev_L 90) (ev_r 90) ∈ tables_1 := ev_t2 (List.mem_of_getElem? (i := 221) rfl)
set_option maxRecDepth 100000 in
theorem ev_c91 : Cond.code (ev_y 91) (ev_b 91) (ev_L 91) (ev_r 91) ∈ tables_1 := ev_t2 (List.mem_of_getElem? (i := 225) rfl)
set_option maxRecDepth 100000 in
theorem ev_c92 : Cond.code (ev_y 92) (ev_b 92) (ev_L 92) (ev_r 92) ∈ tables_1 := ev_t2 (List.mem_of_getElem? (i := 229) rfl)
set_option maxRecDepth 100000 in
theorem ev_c93 : Cond.code (ev_y 93) (ev_b 93) (ev_L 93) (ev_r 93) ∈ tables_1 := ev_t2 (List.mem_of_getElem? (i := 233) rfl)
set_option maxRecDepth 100000 in
theorem ev_c94 : Cond.code (ev_y 94) (ev_b 94) (ev_L 94) (ev_r 94) ∈ tables_1 := ev_t3 (List.mem_of_getElem? (i := 18) rfl)
set_option maxRecDepth 100000 in
theorem ev_c95 : Cond.code (ev_y 95) (ev_b 95) (ev_L 95) (ev_r 95) ∈ tables_1 := ev_t3 (List.mem_of_getElem? (i := 23) rfl)
set_option maxRecDepth 100000 in
theorem ev_c96 : Cond.code (ev_y 96) (ev_b 96) (ev_L 96) (ev_r 96) ∈ tables_1 := ev_t3 (List.mem_of_getElem? (i := 27) rfl)
set_option maxRecDepth 100000 in
theorem ev_c97 : Cond.code (ev_y 97) (ev_b 97) (ev_L 97) (ev_r 97) ∈ tables_1 := ev_t3 (List.mem_of_getElem? (i := 31) rfl)
set_option maxRecDepth 100000 in
theorem ev_c98 : Cond.code (ev_y 98) (ev_b 98) (ev_L 98) (ev_r 98) ∈ tables_1 := ev_t3 (List.mem_of_getElem? (i := 39) rfl)
set_option maxRecDepth 100000 in
theorem ev_c99 : Cond.code (ev_y 99) (ev_b 99) (ev_L 99) (ev_r 99) ∈ tables_1 := ev_t3 (List.mem_of_getElem? (i := 51) rfl)
set_option maxRecDepth 100000 in
theorem ev_c100 : Cond.code (ev_y 100) (ev_b 100) (ev_L 100) (ev_r 100) ∈ tables_1 := ev_t3 (List.mem_of_getElem? (i := 60) rfl)
set_option maxRecDepth 100000 in
theorem ev_c101 : Cond.code (ev_y 101) (ev_b 101) (ev_L 101) (ev_r 101) ∈ tables_1 := ev_t3 (List.mem_of_getElem? (i := 64) rfl)
set_option maxRecDepth 100000 in
theorem ev_c102 : Cond.code (ev_y 102) (ev_b 102) (ev_L 102) (ev_r 102) ∈ tables_1 := ev_t2 (List.mem_of_getElem? (i := 37) rfl)
set_option maxRecDepth 100000 in
theorem ev_c103 : Cond.code (ev_y 103) (ev_b 103) (ev_L 103) (ev_r 103) ∈ tables_1 := ev_t2 (List.mem_of_getElem? (i := 49) rfl)
set_option maxRecDepth 100000 in
theorem ev_c104 : Cond.code (ev_y 104) (ev_b 104) (ev_L 104) (ev_r 104) ∈ tables_1 := ev_t2 (List.mem_of_getElem? (i := 120) rfl)
set_option maxRecDepth 100000 in
theorem ev_c105 : Cond.code (ev_y 105) (ev_b 105) (ev_L 105) (ev_r 105) ∈ tables_1 := ev_t2 (List.mem_of_getElem? (i := 196) rfl)
set_option maxRecDepth 100000 in
theorem ev_c106 : Cond.code (ev_y 106) (ev_b 106) (ev_L 106) (ev_r 106) ∈ tables_1 := ev_t2 (List.mem_of_getElem? (i := 4) rfl)
set_option maxRecDepth 100000 in
theorem ev_c107 : Cond.code (ev_y 107) (ev_b 107) (ev_L 107) (ev_r 107) ∈ tables_1 := ev_t2 (List.mem_of_getElem? (i := 75) rfl)
set_option maxRecDepth 100000 in
theorem ev_c108 : Cond.code (ev_y 108) (ev_b 108) (ev_L 108) (ev_r 108) ∈ tables_1 := ev_t1 (List.mem_of_getElem? (i := 177) rfl)
set_option maxRecDepth 100000 in
theorem ev_c109 : Cond.code (ev_y 109) (ev_b 109) (ev_L 109) (ev_r 109) ∈ tables_1 := ev_t1 (List.mem_of_getElem? (i := 188) rfl)
set_option maxRecDepth 100000 in
theorem ev_c110 : Cond.code (ev_y 110) (ev_b 110) (ev_L 110) (ev_r 110) ∈ tables_1 := ev_t2 (List.mem_of_getElem? (i := 143) rfl)
set_option maxRecDepth 100000 in
theorem ev_c111 : Cond.code (ev_y 111) (ev_b 111) (ev_L 111) (ev_r 111) ∈ tables_1 := ev_t2 (List.mem_of_getElem? (i := 148) rfl)
set_option maxRecDepth 100000 in
theorem ev_c112 : Cond.code (ev_y 112) (ev_b 112) (ev_L 112) (ev_r 112) ∈ tables_1 := ev_t2 (List.mem_of_getElem? (i := 151) rfl)
set_option maxRecDepth 100000 in
theorem ev_c113 : Cond.code (ev_y 113) (ev_b 113) (ev_L 113) (ev_r 113) ∈ tables_1 := ev_t3 (List.mem_of_getElem? (i := 73) rfl)
set_option maxRecDepth 100000 in
theorem ev_c114 : Cond.code (ev_y 114) (ev_b 114) (ev_L 114) (ev_r 114) ∈ tables_1 := ev_t3 (List.mem_of_getElem? (i := 169) rfl)
set_option maxRecDepth 100000 in
theorem ev_c115 : Cond.code (ev_y 115) (ev_b 115) (ev_L 115) (ev_r 115) ∈ tables_1 := ev_t4 (List.mem_of_getElem? (i := 2) rfl)
set_option maxRecDepth 100000 in
theorem ev_c116 : Cond.code (ev_y 116) (ev_b 116) (ev_L 116) (ev_r 116) ∈ tables_1 := ev_t3 (List.mem_of_getElem? (i := 78) rfl)
set_option maxRecDepth 100000 in
theorem ev_c117 : Cond.code (ev_y 117) (ev_b 117) (ev_L 117) (ev_r 117) ∈ tables_1 := ev_t3 (List.mem_of_getElem? (i := 82) rfl)
set_option maxRecDepth 100000 in
theorem ev_c118 : Cond.code (ev_y 118) (ev_b 118) (ev_L 118) (ev_r 118) ∈ tables_1 := ev_t3 (List.mem_of_getElem? (i := 165) rfl)
set_option maxRecDepth 100000 in
theorem ev_c119 : Cond.code (ev_y 119) (ev_b 119) (ev_L 119) (ev_r 119) ∈ tables_1 := ev_t3 (List.mem_of_getElem? (i := 173) rfl)
set_option maxRecDepth 100000 in
theorem ev_c120 : Cond.code (ev_y 120) (ev_b 120) (ev_L 120) (ev_r 120) ∈ tables_1 := ev_t3 (List.mem_of_getElem? (i := 193) rfl)
set_option maxRecDepth 100000 in
theorem ev_c121 : Cond.code (ev_y 121) (ev_b 121) (ev_L 121) (ev_r 121) ∈ tables_1 := ev_t3 (List.mem_of_getElem? (i := 185) rfl)
set_option maxRecDepth 100000 in
theorem ev_c122 : Cond.code (ev_y 122) (ev_b 122) (ev_L 122) (ev_r 122) ∈ tables_1 := ev_t3 (List.mem_of_getElem? (i := 205) rfl)
set_option maxRecDepth 100000 in
theorem ev_c123 : Cond.code (ev_y 123) (ev_b 123) (ev_L 123) (ev_r 123) ∈ tables_1 := ev_t3 (List.mem_of_getElem? (i := 209) rfl)
set_option maxRecDepth 100000 in
theorem ev_c124 : Cond.code (ev_y 124) (ev_b 124) (ev_L 124) (ev_r 124) ∈ tables_1 := ev_t3 (List.mem_of_getElem? (i := 201) rfl)
set_option maxRecDepth 100000 in
theorem ev_c125 : Cond.code (ev_y 125) (ev_b 125) (ev_L 125) (ev_r 125) ∈ tables_1 := ev_t3 (List.mem_of_getElem? (i := 181) rfl)
set_option maxRecDepth 100000 in
theorem ev_c126 : Cond.code (ev_y 126) (ev_b 126) (ev_L 126) (ev_r 126) ∈ tables_1 := ev_t3 (List.mem_of_getElem? (i := 223) rfl)
set_option maxRecDepth 100000 in
theorem ev_c127 : Cond.code (ev_y 127) (ev_b 127) (ev_L 127) (ev_r 127) ∈ tables_1 := ev_t3 (List.mem_of_getElem? (i := 219) rfl)
set_option maxRecDepth 100000 in
theorem ev_c128 : Cond.code (ev_y 128) (ev_b 128) (ev_L 128) (ev_r 128) ∈ tables_1 := ev_t3 (List.mem_of_getElem? (i := 235) rfl)
set_option maxRecDepth 100000 in
theorem ev_c129 : Cond.code (ev_y 129) (ev_b 129) (ev_L 129) (ev_r 129) ∈ tables_1 := ev_t3 (List.mem_of_getElem? (i := 227) rfl)
set_option maxRecDepth 100000 in
theorem ev_c130 : Cond.code (ev_y 130) (ev_b 130) (ev_L 130) (ev_r 130) ∈ tables_1 := ev_t3 (List.mem_of_getElem? (i := 231) rfl)
set_option maxRecDepth 100000 in
theorem ev_c131 : Cond.code (ev_y 131) (ev_b 131) (ev_L 131) (ev_r 131) ∈ tables_1 := ev_t3 (List.mem_of_getElem? (i := 215) rfl)
set_option maxRecDepth 100000 in
theorem ev_c132 : Cond.code (ev_y 132) (ev_b 132) (ev_L 132) (ev_r 132) ∈ tables_1 := ev_t3 (List.mem_of_getElem? (i := 197) rfl)
set_option maxRecDepth 100000 in
theorem ev_c133 : Cond.code (ev_y 133) (ev_b 133) (ev_L 133) (ev_r 133) ∈ tables_1 := ev_t3 (List.mem_of_getElem? (i := 239) rfl)
set_option maxRecDepth 100000 in
theorem ev_c134 : Cond.code (ev_y 134) (ev_b 134) (ev_L 134) (ev_r 134) ∈ tables_1 := ev_t3 (List.mem_of_getElem? (i := 177) rfl)
set_option maxRecDepth 100000 in
theorem ev_c135 : Cond.code (ev_y 135) (ev_b 135) (ev_L 135) (ev_r 135) ∈ tables_1 := ev_t4 (List.mem_of_getElem? (i := 6) rfl)
set_option maxRecDepth 100000 in
theorem ev_c136 : Cond.code (ev_y 136) (ev_b 136) (ev_L 136) (ev_r 136) ∈ tables_1 := ev_t4 (List.mem_of_getElem? (i := 18) rfl)
set_option maxRecDepth 100000 in
theorem ev_c137 : Cond.code (ev_y 137) (ev_b 137) (ev_L 137) (ev_r 137) ∈ tables_1 := ev_t4 (List.mem_of_getElem? (i := 41) rfl)
set_option maxRecDepth 100000 in
theorem ev_c138 : Cond.code (ev_y 138) (ev_b 138) (ev_L 138) (ev_r 138) ∈ tables_1 := ev_t4 (List.mem_of_getElem? (i := 105) rfl)
set_option maxRecDepth 100000 in
theorem ev_c139 : Cond.code (ev_y 139) (ev_b 139) (ev_L 139) (ev_r 139) ∈ tables_1 := ev_t4 (List.mem_of_getElem? (i := 65) rfl)
set_option maxRecDepth 100000 in
theorem ev_c140 : Cond.code (ev_y 140) (ev_b 140) (ev_L 140) (ev_r 140) ∈ tables_1 := ev_t4 (List.mem_of_getElem? (i := 22) rfl)
set_option maxRecDepth 100000 in
theorem ev_c141 : Cond.code (ev_y 141) (ev_b 141) (ev_L 141) (ev_r 141) ∈ tables_1 := ev_t4 (List.mem_of_getElem? (i := 146) rfl)
set_option maxRecDepth 100000 in
theorem ev_c142 : Cond.code (ev_y 142) (ev_b 142) (ev_L 142) (ev_r 142) ∈ tables_1 := ev_t4 (List.mem_of_getElem? (i := 26) rfl)
set_option maxRecDepth 100000 in
theorem ev_c143 : Cond.code (ev_y 143) (ev_b 143) (ev_L 143) (ev_r 143) ∈ tables_1 := ev_t4 (List.mem_of_getElem? (i := 138) rfl)
set_option maxRecDepth 100000 in
theorem ev_c144 : Cond.code (ev_y 144) (ev_b 144) (ev_L 144) (ev_r 144) ∈ tables_1 := ev_t4 (List.mem_of_getElem? (i := 46) rfl)
set_option maxRecDepth 100000 in
theorem ev_c145 : Cond.code (ev_y 145) (ev_b 145) (ev_L 145) (ev_r 145) ∈ tables_1 := ev_t4 (List.mem_of_getElem? (i := 34) rfl)
set_option maxRecDepth 100000 in
theorem ev_c146 : Cond.code (ev_y 146) (ev_b 146) (ev_L 146) (ev_r 146) ∈ tables_1 := ev_t4 (List.mem_of_getElem? (i := 30) rfl)
set_option maxRecDepth 100000 in
theorem ev_c147 : Cond.code (ev_y 147) (ev_b 147) (ev_L 147) (ev_r 147) ∈ tables_1 := ev_t4 (List.mem_of_getElem? (i := 50) rfl)
set_option maxRecDepth 100000 in
theorem ev_c148 : Cond.code (ev_y 148) (ev_b 148) (ev_L 148) (ev_r 148) ∈ tables_1 := ev_t4 (List.mem_of_getElem? (i := 158) rfl)
set_option maxRecDepth 100000 in
theorem ev_c149 : Cond.code (ev_y 149) (ev_b 149) (ev_L 149) (ev_r 149) ∈ tables_1 := ev_t4 (List.mem_of_getElem? (i := 54) rfl)
set_option maxRecDepth 100000 in
theorem ev_c150 : Cond.code (ev_y 150) (ev_b 150) (ev_L 150) (ev_r 150) ∈ tables_1 := ev_t4 (List.mem_of_getElem? (i := 10) rfl)
set_option maxRecDepth 100000 in
theorem ev_c151 : Cond.code (ev_y 151) (ev_b 151) (ev_L 151) (ev_r 151) ∈ tables_1 := ev_t4 (List.mem_of_getElem? (i := 14) rfl)
set_option maxRecDepth 100000 in
theorem ev_c152 : Cond.code (ev_y 152) (ev_b 152) (ev_L 152) (ev_r 152) ∈ tables_1 := ev_t4 (List.mem_of_getElem? (i := 38) rfl)
set_option maxRecDepth 100000 in
theorem ev_c153 : Cond.code (ev_y 153) (ev_b 153) (ev_L 153) (ev_r 153) ∈ tables_1 := ev_t4 (List.mem_of_getElem? (i := 69) rfl)
set_option maxRecDepth 100000 in
theorem ev_c154 : Cond.code (ev_y 154) (ev_b 154) (ev_L 154) (ev_r 154) ∈ tables_1 := ev_t4 (List.mem_of_getElem? (i := 77) rfl)
set_option maxRecDepth 100000 in
theorem ev_c155 : Cond.code (ev_y 155) (ev_b 155) (ev_L 155) (ev_r 155) ∈ tables_1 := ev_t4 (List.mem_of_getElem? (i := 62) rfl)
set_option maxRecDepth 100000 in
theorem ev_c156 : Cond.code (ev_y 156) (ev_b 156) (ev_L 156) (ev_r 156) ∈ tables_1 := ev_t4 (List.mem_of_getElem? (i := 58) rfl)
set_option maxRecDepth 100000 in
theorem ev_c157 : Cond.code (ev_y 157) (ev_b 157) (ev_L 157) (ev_r 157) ∈ tables_1 := ev_t4 (List.mem_of_getElem? (i := 73) rfl)
set_option maxRecDepth 100000 in
theorem ev_c158 : Cond.code (ev_y 158) (ev_b 158) (ev_L 158) (ev_r 158) ∈ tables_1 := ev_t4 (List.mem_of_getElem? (i := 81) rfl)
set_option maxRecDepth 100000 in
theorem ev_c159 : Cond.code (ev_y 159) (ev_b 159) (ev_L 159) (ev_r 159) ∈ tables_1 := ev_t4 (List.mem_of_getElem? (i := 89) rfl)
set_option maxRecDepth 100000 in
theorem ev_c160 : Cond.code (ev_y 160) (ev_b 160) (ev_L 160) (ev_r 160) ∈ tables_1 := ev_t4 (List.mem_of_getElem? (i := 85) rfl)
set_option maxRecDepth 100000 in
theorem ev_c161 : Cond.code (ev_y 161) (ev_b 161) (ev_L 161) (ev_r 161) ∈ tables_1 := ev_t4 (List.mem_of_getElem? (i := 93) rfl)
set_option maxRecDepth 100000 in
theorem ev_c162 : Cond.code (ev_y 162) (ev_b 162) (ev_L 162) (ev_r 162) ∈ tables_1 := ev_t4 (List.mem_of_getElem? (i := 97) rfl)
set_option maxRecDepth 100000 in
theorem ev_c163 : Cond.code (ev_y 163) (ev_b 163) (ev_L 163) (ev_r 163) ∈ tables_1 := ev_t4 (List.mem_of_getElem? (i := 102) rfl)
set_option maxRecDepth 100000 in
theorem ev_c164 : Cond.code (ev_y 164) (ev_b 164) (ev_L 164) (ev_r 164) ∈ tables_1 := ev_t4 (List.mem_of_getElem? (i := 110) rfl)
set_option maxRecDepth 100000 in
theorem ev_c165 : Cond.code (ev_y 165) (ev_b 165) (ev_L 165) (ev_r 165) ∈ tables_1 := ev_t4 (List.mem_of_getElem? (i := 134) rfl)
set_option maxRecDepth 100000 in
theorem ev_c166 : Cond.code (ev_y 166) (ev_b 166) (ev_L 166) (ev_r 166) ∈ tables_1 := ev_t4 (List.mem_of_getElem? (i := 130) rfl)
set_option maxRecDepth 100000 in
theorem ev_c167 : Cond.code (ev_y 167) (ev_b 167) (ev_L 167) (ev_r 167) ∈ tables_1 := ev_t4 (List.mem_of_getElem? (i := 142) rfl)
set_option maxRecDepth 100000 in
theorem ev_c168 : Cond.code (ev_y 168) (ev_b 168) (ev_L 168) (ev_r 168) ∈ tables_1 := ev_t4 (List.mem_of_getElem? (i := 126) rfl)
set_option maxRecDepth 100000 in
theorem ev_c169 : Cond.code (ev_y 169) (ev_b 169) (ev_L 169) (ev_r 169) ∈ tables_1 := ev_t4 (List.mem_of_getElem? (i := 122) rfl)
set_option maxRecDepth 100000 in
theorem ev_c170 : Cond.code (ev_y 170) (ev_b 170) (ev_L 170) (ev_r 170) ∈ tables_1 := ev_t4 (List.mem_of_getElem? (i := 118) rfl)
set_option maxRecDepth 100000 in
theorem ev_c171 : Cond.code (ev_y 171) (ev_b 171) (ev_L 171) (ev_r 171) ∈ tables_1 := ev_t4 (List.mem_of_getElem? (i := 114) rfl)
set_option maxRecDepth 100000 in
theorem ev_c172 : Cond.code (ev_y 172) (ev_b 172) (ev_L 172) (ev_r 172) ∈ tables_1 := ev_t4 (List.mem_of_getElem? (i := 150) rfl)
set_option maxRecDepth 100000 in
theorem ev_c173 : Cond.code (ev_y 173) (ev_b 173) (ev_L 173) (ev_r 173) ∈ tables_1 := ev_t4 (List.mem_of_getElem? (i := 154) rfl)
set_option maxRecDepth 100000 in
theorem ev_c174 : Cond.code (ev_y 174) (ev_b 174) (ev_L 174) (ev_r 174) ∈ tables_1 := ev_t4 (List.mem_of_getElem? (i := 170) rfl)
set_option maxRecDepth 100000 in
theorem ev_c175 : Cond.code (ev_y 175) (ev_b 175) (ev_L 175) (ev_r 175) ∈ tables_1 := ev_t4 (List.mem_of_getElem? (i := 167) rfl)
set_option maxRecDepth 100000 in
theorem ev_c176 : Cond.code (ev_y 176) (ev_b 176) (ev_L 176) (ev_r 176) ∈ tables_1 := ev_t4 (List.mem_of_getElem? (i := 162) rfl)
set_option maxRecDepth 100000 in
theorem ev_c177 : Cond.code (ev_y 177) (ev_b 177) (ev_L 177) (ev_r 177) ∈ tables_1 := ev_t4 (List.mem_of_getElem? (i := 178) rfl)
set_option maxRecDepth 100000 in
theorem ev_c178 : Cond.code (ev_y 178) (ev_b 178) (ev_L 178) (ev_r 178) ∈ tables_1 := ev_t4 (List.mem_of_getElem? (i := 174) rfl)
set_option maxRecDepth 100000 in
theorem ev_c179 : Cond.code (ev_y 179) (ev_b 179) (ev_L 179) (ev_r 179) ∈ tables_1 := ev_t4 (List.mem_of_getElem? (i := 187) rfl)
set_option maxRecDepth 100000 in
theorem ev_c180 : Cond.code (ev_y 180) (ev_b 180) (ev_L 180) (ev_r 180) ∈ tables_1 := ev_t4 (List.mem_of_getElem? (i := 191) rfl)
set_option maxRecDepth 100000 in
theorem ev_c181 : Cond.code (ev_y 181) (ev_b 181) (ev_L 181) (ev_r 181) ∈ tables_1 := ev_t4 (List.mem_of_getElem? (i := 182) rfl)
set_option maxRecDepth 100000 in
theorem ev_c182 : Cond.code (ev_y 182) (ev_b 182) (ev_L 182) (ev_r 182) ∈ tables_1 := ev_t4 (List.mem_of_getElem? (i := 195) rfl)
set_option maxRecDepth 100000 in
theorem ev_c183 : Cond.code (ev_y 183) (ev_b 183) (ev_L 183) (ev_r 183) ∈ tables_1 := ev_t4 (List.mem_of_getElem? (i := 200) rfl)
set_option maxRecDepth 100000 in
theorem ev_c184 : Cond.code (ev_y 184) (ev_b 184) (ev_L 184) (ev_r 184) ∈ tables_1 := ev_t4 (List.mem_of_getElem? (i := 208) rfl)
set_option maxRecDepth 100000 in
theorem ev_c185 : Cond.code (ev_y 185) (ev_b 185) (ev_L 185) (ev_r 185) ∈ tables_1 := ev_t4 (List.mem_of_getElem? (i := 204) rfl)
set_option maxRecDepth 100000 in
theorem ev_c186 : Cond.code (ev_y 186) (ev_b 186) (ev_L 186) (ev_r 186) ∈ tables_1 := ev_t4 (List.mem_of_getElem? (i := 212) rfl)
set_option maxRecDepth 100000 in
theorem ev_c187 : Cond.code (ev_y 187) (ev_b 187) (ev_L 187) (ev_r 187) ∈ tables_1 := ev_t4 (List.mem_of_getElem? (i := 216) rfl)
set_option maxRecDepth 100000 in
theorem ev_c188 : Cond.code (ev_y 188) (ev_b 188) (ev_L 188) (ev_r 188) ∈ tables_1 := ev_t4 (List.mem_of_getElem? (i := 221) rfl)
set_option maxRecDepth 100000 in
theorem ev_c189 : Cond.code (ev_y 189) (ev_b 189) (ev_L 189) (ev_r 189) ∈ tables_1 := ev_t4 (List.mem_of_getElem? (i := 225) rfl)
set_option maxRecDepth 100000 in
theorem ev_c190 : Cond.code (ev_y 190) (ev_b 190) (ev_L 190) (ev_r 190) ∈ tables_1 := ev_t4 (List.mem_of_getElem? (i := 229) rfl)
set_option maxRecDepth 100000 in
theorem ev_c191 : Cond.code (ev_y 191) (ev_b 191) (ev_L 191) (ev_r 191) ∈ tables_1 := ev_t4 (List.mem_of_getElem? (i := 237) rfl)
set_option maxRecDepth 100000 in
theorem ev_c192 : Cond.code (ev_y 192) (ev_b 192) (ev_L 192) (ev_r 192) ∈ tables_1 := ev_t5 (List.mem_of_getElem? (i := 1) rfl)
set_option maxRecDepth 100000 in
theorem ev_c193 : Cond.code (ev_y 193) (ev_b 193) (ev_L 193) (ev_r 193) ∈ tables_1 := ev_t4 (List.mem_of_getElem? (i := 233) rfl)
set_option maxRecDepth 100000 in
theorem ev_c194 : Cond.code (ev_y 194) (ev_b 194) (ev_L 194) (ev_r 194) ∈ tables_1 := ev_t5 (List.mem_of_getElem? (i := 5) rfl)
set_option maxRecDepth 100000 in
theorem ev_c195 : Cond.code (ev_y 195) (ev_b 195) (ev_L 195) (ev_r 195) ∈ tables_1 := ev_t5 (List.mem_of_getElem? (i := 15) rfl)
set_option maxRecDepth 100000 in
theorem ev_c196 : Cond.code (ev_y 196) (ev_b 196) (ev_L 196) (ev_r 196) ∈ tables_1 := ev_t5 (List.mem_of_getElem? (i := 11) rfl)
set_option maxRecDepth 100000 in
theorem ev_c197 : Cond.code (ev_y 197) (ev_b 197) (ev_L 197) (ev_r 197) ∈ tables_1 := ev_t5 (List.mem_of_getElem? (i := 19) rfl)
set_option maxRecDepth 100000 in
theorem ev_c198 : Cond.code (ev_y 198) (ev_b 198) (ev_L 198) (ev_r 198) ∈ tables_1 := ev_t5 (List.mem_of_getElem? (i := 26) rfl)
set_option maxRecDepth 100000 in
theorem ev_c199 : Cond.code (ev_y 199) (ev_b 199) (ev_L 199) (ev_r 199) ∈ tables_1 := ev_t5 (List.mem_of_getElem? (i := 23) rfl)
set_option maxRecDepth 100000 in
theorem ev_c200 : Cond.code (ev_y 200) (ev_b 200) (ev_L 200) (ev_r 200) ∈ tables_1 := ev_t5 (List.mem_of_getElem? (i := 31) rfl)
set_option maxRecDepth 100000 in
theorem ev_c201 : Cond.code (ev_y 201) (ev_b 201) (ev_L 201) (ev_r 201) ∈ tables_1 := ev_t5 (List.mem_of_getElem? (i := 35) rfl)
set_option maxRecDepth 100000 in
theorem ev_c202 : Cond.code (ev_y 202) (ev_b 202) (ev_L 202) (ev_r 202) ∈ tables_1 := ev_t5 (List.mem_of_getElem? (i := 41) rfl)
set_option maxRecDepth 100000 in
theorem ev_c203 : Cond.code (ev_y 203) (ev_b 203) (ev_L 203) (ev_r 203) ∈ tables_1 := ev_t5 (List.mem_of_getElem? (i := 45) rfl)
set_option maxRecDepth 100000 in
theorem ev_c204 : Cond.code (ev_y 204) (ev_b 204) (ev_L 204) (ev_r 204) ∈ tables_1 := ev_t1 (List.mem_of_getElem? (i := 90) rfl)
set_option maxRecDepth 100000 in
theorem ev_c205 : Cond.code (ev_y 205) (ev_b 205) (ev_L 205) (ev_r 205) ∈ tables_1 := ev_t1 (List.mem_of_getElem? (i := 236) rfl)
set_option maxRecDepth 100000 in
theorem ev_c206 : Cond.code (ev_y 206) (ev_b 206) (ev_L 206) (ev_r 206) ∈ tables_1 := ev_t1 (List.mem_of_getElem? (i := 120) rfl)
set_option maxRecDepth 100000 in
theorem ev_c207 : Cond.code (ev_y 207) (ev_b 207) (ev_L 207) (ev_r 207) ∈ tables_1 := ev_t1 (List.mem_of_getElem? (i := 130) rfl)
set_option maxRecDepth 100000 in
theorem ev_c208 : Cond.code (ev_y 208) (ev_b 208) (ev_L 208) (ev_r 208) ∈ tables_1 := ev_t1 (List.mem_of_getElem? (i := 124) rfl)
set_option maxRecDepth 100000 in
theorem ev_c209 : Cond.code (ev_y 209) (ev_b 209) (ev_L 209) (ev_r 209) ∈ tables_1 := ev_t1 (List.mem_of_getElem? (i := 134) rfl)
set_option maxRecDepth 100000 in
theorem ev_c210 : Cond.code (ev_y 210) (ev_b 210) (ev_L 210) (ev_r 210) ∈ tables_1 := ev_t1 (List.mem_of_getElem? (i := 140) rfl)
set_option maxRecDepth 100000 in
theorem ev_c211 : Cond.code (ev_y 211) (ev_b 211) (ev_L 211) (ev_r 211) ∈ tables_1 := ev_t1 (List.mem_of_getElem? (i := 137) rfl)
set_option maxRecDepth 100000 in
theorem ev_c212 : Cond.code (ev_y 212) (ev_b 212) (ev_L 212) (ev_r 212) ∈ tables_1 := ev_t1 (List.mem_of_getElem? (i := 145) rfl)
theorem ev_code (mi : Nat) (h : mi < 213) : Cond.code (ev_y mi) (ev_b mi) (ev_L mi) (ev_r mi) ∈ ev_UW := by
  have key : ∀ i, i < 213 → Cond.code (ev_y i) (ev_b i) (ev_L i) (ev_r i) ∈ tables_1 := by
    intro i hi
    match i, hi with
    | 0, _ => exact ev_c0
    | 1, _ => exact ev_c1
    | 2, _ => exact ev_c2
    | 3, _ => exact ev_c3
    | 4, _ => exact ev_c4
    | 5, _ => exact ev_c5
    | 6, _ => exact ev_c6
    | 7, _ => exact ev_c7
    | 8, _ => exact ev_c8
    | 9, _ => exact ev_c9
    | 10, _ => exact ev_c10
    | 11, _ => exact ev_c11
    | 12, _ => exact ev_c12
    | 13, _ => exact ev_c13
    | 14, _ => exact ev_c14
    | 15, _ => exact ev_c15
    | 16, _ => exact ev_c16
    | 17, _ => exact ev_c17
    | 18, _ => exact ev_c18
    | 19, _ => exact ev_c19
    | 20, _ => exact ev_c20
    | 21, _ => exact ev_c21
    | 22, _ => exact ev_c22
    | 23, _ => exact ev_c23
    | 24, _ => exact ev_c24
    | 25, _ => exact ev_c25
    | 26, _ => exact ev_c26
    | 27, _ => exact ev_c27
    | 28, _ => exact ev_c28
    | 29, _ => exact ev_c29
    | 30, _ => exact ev_c30
    | 31, _ => exact ev_c31
    | 32, _ => exact ev_c32
    | 33, _ => exact ev_c33
    | 34, _ => exact ev_c34
    | 35, _ => exact ev_c35
    | 36, _ => exact ev_c36
    | 37, _ => exact ev_c37
    | 38, _ => exact ev_c38
    | 39, _ => exact ev_c39
    | 40, _ => exact ev_c40
    | 41, _ => exact ev_c41
    | 42, _ => exact ev_c42
    | 43, _ => exact ev_c43
    | 44, _ => exact ev_c44
    | 45, _ => exact ev_c45
    | 46, _ => exact ev_c46
    | 47, _ => exact ev_c47
    | 48, _ => exact ev_c48
    | 49, _ => exact ev_c49
    | 50, _ => exact ev_c50
    | 51, _ => exact ev_c51
    | 52, _ => exact ev_c52
    | 53, _ => exact ev_c53
    | 54, _ => exact ev_c54
    | 55, _ => exact ev_c55
    | 56, _ => exact ev_c56
    | 57, _ => exact ev_c57
    | 58, _ => exact ev_c58
    | 59, _ => exact ev_c59
    | 60, _ => exact ev_c60
    | 61, _ => exact ev_c61
    | 62, _ => exact ev_c62
    | 63, _ => exact ev_c63
    | 64, _ => exact ev_c64
    | 65, _ => exact ev_c65
    | 66, _ => exact ev_c66
    | 67, _ => exact ev_c67
    | 68, _ => exact ev_c68
    | 69, _ => exact ev_c69
    | 70, _ => exact ev_c70
    | 71, _ => exact ev_c71
    | 72, _ => exact ev_c72
    | 73, _ => exact ev_c73
    | 74, _ => exact ev_c74
    | 75, _ => exact ev_c75
    | 76, _ => exact ev_c76
    | 77, _ => exact ev_c77
    | 78, _ => exact ev_c78
    | 79, _ => exact ev_c79
    | 80, _ => exact ev_c80
    | 81, _ => exact ev_c81
    | 82, _ => exact ev_c82
    | 83, _ => exact ev_c83
    | 84, _ => exact ev_c84
    | 85, _ => exact ev_c85
    | 86, _ => exact ev_c86
    | 87, _ => exact ev_c87
    | 88, _ => exact ev_c88
    | 89, _ => exact ev_c89
    | 90, _ => exact ev_c90
    | 91, _ => exact ev_c91
    | 92, _ => exact ev_c92
    | 93, _ => exact ev_c93
    | 94, _ => exact ev_c94
    | 95, _ => exact ev_c95
    | 96, _ => exact ev_c96
    | 97, _ => exact ev_c97
    | 98, _ => exact ev_c98
    | 99, _ => exact ev_c99
    | 100, _ => exact ev_c100
    | 101, _ => exact ev_c101
    | 102, _ => exact ev_c102
    | 103, _ => exact ev_c103
    | 104, _ => exact ev_c104
    | 105, _ => exact ev_c105
    | 106, _ => exact ev_c106
    | 107, _ => exact ev_c107
    | 108, _ => exact ev_c108
    | 109, _ => exact ev_c109
    | 110, _ => exact ev_c110
    | 111, _ => exact ev_c111
    | 112, _ => exact ev_c112
    | 113, _ => exact ev_c113
    | 114, _ => exact ev_c114
    | 115, _ => exact ev_c115
    | 116, _ => exact ev_c116
    | 117, _ => exact ev_c117
    | 118, _ => exact ev_c118
    | 119, _ => exact ev_c119
    | 120, _ => exact ev_c120
    | 121, _ => exact ev_c121
    | 122, _ => exact ev_c122
    | 123, _ => exact ev_c123
    | 124, _ => exact ev_c124
    | 125, _ => exact ev_c125
    | 126, _ => exact ev_c126
    | 127, _ => exact ev_c127
    | 128, _ => exact ev_c128
    | 129, _ => exact ev_c129
    | 130, _ => exact ev_c130
    | 131, _ => exact ev_c131
    | 132, _ => exact ev_c132
    | 133, _ => exact ev_c133
    | 134, _ => exact ev_c134
    | 135, _ => exact ev_c135
    | 136, _ => exact ev_c136
    | 137, _ => exact ev_c137
    | 138, _ => exact ev_c138
    | 139, _ => exact ev_c139
    | 140, _ => exact ev_c140
    | 141, _ => exact ev_c141
    | 142, _ => exact ev_c142
    | 143, _ => exact ev_c143
    | 144, _ => exact ev_c144
    | 145, _ => exact ev_c145
    | 146, _ => exact ev_c146
    | 147, _ => exact ev_c147
    | 148, _ => exact ev_c148
    | 149, _ => exact ev_c149
    | 150, _ => exact ev_c150
    | 151, _ => exact ev_c151
    | 152, _ => exact ev_c152
    | 153, _ => exact ev_c153
    | 154, _ => exact ev_c154
    | 155, _ => exact ev_c155
    | 156, _ => exact ev_c156
    | 157, _ => exact ev_c157
    | 158, _ => exact ev_c158
    | 159, _ => exact ev_c159
    | 160, _ => exact ev_c160
    | 161, _ => exact ev_c161
    | 162, _ => exact ev_c162
    | 163, _ => exact ev_c163
    | 164, _ => exact ev_c164
    | 165, _ => exact ev_c165
    | 166, _ => exact ev_c166
    | 167, _ => exact ev_c167
    | 168, _ => exact ev_c168
    | 169, _ => exact ev_c169
    | 170, _ => exact ev_c170
    | 171, _ => exact ev_c171
    | 172, _ => exact ev_c172
    | 173, _ => exact ev_c173
    | 174, _ => exact ev_c174
    | 175, _ => exact ev_c175
    | 176, _ => exact ev_c176
    | 177, _ => exact ev_c177
    | 178, _ => exact ev_c178
    | 179, _ => exact ev_c179
    | 180, _ => exact ev_c180
    | 181, _ => exact ev_c181
    | 182, _ => exact ev_c182
    | 183, _ => exact ev_c183
    | 184, _ => exact ev_c184
    | 185, _ => exact ev_c185
    | 186, _ => exact ev_c186
    | 187, _ => exact ev_c187
    | 188, _ => exact ev_c188
    | 189, _ => exact ev_c189
    | 190, _ => exact ev_c190
    | 191, _ => exact ev_c191
    | 192, _ => exact ev_c192
    | 193, _ => exact ev_c193
    | 194, _ => exact ev_c194
    | 195, _ => exact ev_c195
    | 196, _ => exact ev_c196
    | 197, _ => exact ev_c197
    | 198, _ => exact ev_c198
    | 199, _ => exact ev_c199
    | 200, _ => exact ev_c200
    | 201, _ => exact ev_c201
    | 202, _ => exact ev_c202
    | 203, _ => exact ev_c203
    | 204, _ => exact ev_c204
    | 205, _ => exact ev_c205
    | 206, _ => exact ev_c206
    | 207, _ => exact ev_c207
    | 208, _ => exact ev_c208
    | 209, _ => exact ev_c209
    | 210, _ => exact ev_c210
    | 211, _ => exact ev_c211
    | 212, _ => exact ev_c212
    | n + 213, hi => exact absurd hi (by omega)
  exact List.mem_filter.mpr ⟨List.mem_append_right _ (key mi h), rfl⟩
end
section
/-! What a resolved instruction owes to the bytes. -/
def ev_rt (t : Nat) : FieldType := match t with
  | 0 => .boolean
  | 1 => .byte
  | _ => .char
def ev_fin (i : Nat) : Bool := (ev_T (i / 32) (i % 32)).2.2.2
def ev_pok (oi : Nat) (ini : Bool) (i : Nat) : Bool := decide (i / 32 < 7) && decide (i % 32 < ev_N (i / 32)) && (!ev_fin i || (ini && decide ((ev_T (i / 32) (i % 32)).1 = ev_cn oi)))
def ev_isR (t : FieldType) : Bool := match t with
  | .object _ => true
  | .array _ => true
  | _ => false
def ev_tg (pb : List Nat) (t : Int) : Int := (pb.getD t.toNat 0 : Int)
def ev_okR (oi : Nat) (ini : Bool) (ret : Option FieldType) (pb : List Nat) (pc nx len : Nat) (res : ev_I) (raw : Instr) : Bool := match res with
  | .inr v => decide (nx = pc + len) && (match raw with
    | .iconst n => decide (v = .int (Int32.ofInt n)) && decide (len = 1)
    | .bipush n => decide (v = .int (Int8.ofInt n).toInt32) && decide (len = 2)
    | .sipush n => decide (v = .int (Int16.ofInt n).toInt32) && decide (len = 3)
    | .lconst n => decide (v = .long (Int64.ofNat n.val)) && decide (len = 1)
    | .ldc ix => decide (len = 2) && (match v with
      | .int x => decide ((oi, ix, x) ∈ ev_cons)
      | .retAddr k => decide (oi = 3) && decide ((ix, k) ∈ ev_strs)
      | _ => false)
    | .ldc_w ix => decide (len = 3) && (match v with
      | .int x => decide ((oi, ix, x) ∈ ev_cons)
      | _ => false)
    | .ldc2_w ix => decide (len = 3) && (match v with
      | .long x => decide ((oi, ix, x) ∈ ev_lcons)
      | _ => false)
    | .getstatic ix => decide (len = 3) && ev_stats.any (fun e => decide (e.1 = oi) && decide (e.2.1 = ix) && decide (ev_sv e.2.2 = v))
    | _ => false)
  | .inl ins => match ins with
    | .iload k => decide (nx = pc + len) && (match raw with
      | .iload_n n => decide (n.val = k) && decide (len = 1)
      | .iload n => decide (n = k) && decide (len = 2)
      | _ => false)
    | .lload k => decide (nx = pc + len) && (match raw with
      | .lload_n n => decide (n.val = k) && decide (len = 1)
      | .lload n => decide (n = k) && decide (len = 2)
      | _ => false)
    | .aload k => decide (nx = pc + len) && (match raw with
      | .aload_n n => decide (n.val = k) && decide (len = 1)
      | .aload n => decide (n = k) && decide (len = 2)
      | _ => false)
    | .istore k => decide (nx = pc + len) && (match raw with
      | .istore_n n => decide (n.val = k) && decide (len = 1)
      | .istore n => decide (n = k) && decide (len = 2)
      | _ => false)
    | .lstore k => decide (nx = pc + len) && (match raw with
      | .lstore_n n => decide (n.val = k) && decide (len = 1)
      | .lstore n => decide (n = k) && decide (len = 2)
      | _ => false)
    | .astore k => decide (nx = pc + len) && (match raw with
      | .astore_n n => decide (n.val = k) && decide (len = 1)
      | .astore n => decide (n = k) && decide (len = 2)
      | _ => false)
    | .iinc k n => decide (raw = .iinc k n) && decide (len = 3) && decide (nx = pc + 3)
    | .goto t => match raw with
      | .goto off => decide ((pc : Int) + off = ev_tg pb t) && decide (len = 3)
      | _ => false
    | .if_icmp c t => match raw with
      | .if_icmp c' off => decide (c' = c) && decide ((pc : Int) + off = ev_tg pb t) && decide (len = 3) && decide (nx = pc + 3)
      | _ => false
    | .ifCond c t => match raw with
      | .ifCond c' off => decide (c' = c) && decide ((pc : Int) + off = ev_tg pb t) && decide (len = 3) && decide (nx = pc + 3)
      | _ => false
    | .tableswitch d lo hi offs => match raw with
      | .tableswitch d' lo' hi' offs' => decide (lo' = lo) && decide (hi' = hi) && decide ((pc : Int) + d' = ev_tg pb d) && decide (offs'.toList.map (fun o => (pc : Int) + o) = offs.toList.map (ev_tg pb)) && decide (hi < lo + offs.size)
      | _ => false
    | .lookupswitch d ps => match raw with
      | .lookupswitch d' ps' => decide ((pc : Int) + d' = ev_tg pb d) && decide (ps'.toList.map (fun o => (o.1, (pc : Int) + o.2)) = ps.toList.map (fun t => (t.1, ev_tg pb t.2))) && (ps'.toList.zip (ps'.toList.drop 1)).all (fun (a, next) => decide (a.1 < next.1))
      | _ => false
    | .getfield i => match raw with
      | .getfield ix => decide (len = 3) && decide (nx = pc + 3) && decide ((oi, ix, i) ∈ ev_fls) && decide (i / 32 < 7) && decide (i % 32 < ev_N (i / 32))
      | _ => false
    | .putfield i => match raw with
      | .putfield ix => decide (len = 3) && decide (nx = pc + 3) && decide ((oi, ix, i) ∈ ev_fls) && ev_pok oi ini i && decide (ev_ty (i / 32) (i % 32) = .int)
      | _ => false
    | .multianewarray i _ => match raw with
      | .putfield ix => decide (len = 3) && decide (nx = pc + 3) && decide ((oi, ix, i) ∈ ev_fls) && ev_pok oi ini i && decide (ev_ty (i / 32) (i % 32) = .boolean)
      | _ => false
    | .putstatic i => match raw with
      | .putfield ix => decide (len = 3) && decide (nx = pc + 3) && decide ((oi, ix, i) ∈ ev_fls) && ev_pok oi ini i && ev_isR (ev_ty (i / 32) (i % 32))
      | _ => false
    | .dload k => match raw with
      | .getfield ix => decide (len = 3) && decide (nx = pc + 3) && decide ((oi, ix, k) ∈ ev_sfs)
      | _ => false
    | .faload => decide (raw = .iaload) && decide (len = 1) && decide (nx = pc + 1)
    | .caload => decide (raw = .baload) && decide (len = 1) && decide (nx = pc + 1)
    | .new c => match raw with
      | .new ix => decide (len = 3) && decide (nx = pc + 3) && decide ((oi, ix, c) ∈ ev_cls) && decide (c < 7)
      | _ => false
    | .newarray t => decide (raw = .newarray t) && decide (len = 2) && decide (nx = pc + 2)
    | .anewarray c => match raw with
      | .anewarray ix => decide (len = 3) && decide (nx = pc + 3) && decide ((oi, ix, c) ∈ ev_cls) && (decide (c = 4) || decide (c = 2))
      | _ => false
    | .invokevirtual k => match raw with
      | .invokevirtual ix => decide (len = 3) && decide (nx = pc + 3) && decide ((0, oi, ix, k) ∈ ev_mls)
      | _ => false
    | .invokestatic k => match raw with
      | .invokestatic ix => decide (len = 3) && decide (nx = pc + 3) && (decide ((1, oi, ix, k) ∈ ev_mls) || decide ((2, oi, ix, k) ∈ ev_mns))
      | _ => false
    | .invokespecial k => match raw with
      | .invokespecial ix => decide (len = 3) && decide (nx = pc + 3) && (decide ((3, oi, ix, k) ∈ ev_mls) || decide ((4, oi, ix, k) ∈ ev_mns))
      | _ => false
    | .monitorexit => match raw with
      | .invokespecial ix => decide (len = 3) && decide (nx = pc + 3) && decide ((oi, ix) ∈ ev_mos)
      | _ => false
    | .ireturn => decide (raw = .ireturn) && decide (len = 1) && decide (ret = some .int)
    | .ret t => decide (raw = .ireturn) && decide (len = 1) && decide (ret = some (ev_rt t))
    | .lreturn => decide (raw = .lreturn) && decide (len = 1) && decide (ret = some .long)
    | .areturn => decide (raw = .areturn) && decide (len = 1) && decide (ret = some (.object "java/lang/String"))
    | .return_ => decide (raw = .return_) && decide (len = 1) && decide (ret = none)
    | ins => decide (raw = ins) && decide (len = 1) && decide (nx = pc + 1)
def ev_okI (oi : Nat) (ini : Bool) (ret : Option FieldType) (b : ByteArray) (pb : List Nat) (pc nx : Nat) (res : ev_I) : Bool := match res with
  | .inl .nop => decide (nx = pc)
  | .inl .athrow => true
  | res => match decode b pc with
    | .ok (raw, len) => ev_okR oi ini ret pb pc nx len res raw
    | _ => false
def ev_okL (oi : Nat) (ini : Bool) (ret : Option FieldType) (b : ByteArray) (pb : List Nat) : List ev_I → List Nat → Bool
  | [], _ => true
  | i :: cd, p :: ps => ev_okI oi ini ret b pb p (ps.getD 0 0) i && ev_okL oi ini ret b pb cd ps
  | _ :: _, [] => false
def ev_ini (mi : Nat) : Bool := decide ((ev_y mi).name = "<init>")
abbrev ev_okM (mi : Nat) : Prop := ev_okL (ev_o mi) (ev_ini mi) (ev_r mi) (ev_b mi) (ev_pb mi) (ev_cd mi) (ev_pb mi) = true
theorem ev_okL_cut (oi : Nat) (ini : Bool) (ret : Option FieldType) (b : ByteArray) (pb : List Nat) : ∀ (n : Nat) (cd : List ev_I) (ps : List Nat), ev_okL oi ini ret b pb (cd.take n) ps = true → ev_okL oi ini ret b pb (cd.drop n) (ps.drop n) = true → ev_okL oi ini ret b pb cd ps = true
  | 0, cd, ps, _, h2 => h2
  | n + 1, [], ps, _, _ => rfl
  | n + 1, i :: cd, [], h1, _ => by cases h1
  | n + 1, i :: cd, p :: ps, h1, h2 => by
    simp only [List.take_succ_cons, ev_okL, Bool.and_eq_true] at h1 ⊢
    exact ⟨h1.1, ev_okL_cut oi ini ret b pb n cd ps h1.2 h2⟩
theorem ev_k0 : ev_okM 0 := by decide +kernel
theorem ev_k1 : ev_okM 1 := by decide +kernel
theorem ev_k2 : ev_okM 2 := by decide +kernel
theorem ev_k3 : ev_okM 3 := by decide +kernel
theorem ev_k4 : ev_okM 4 := by decide +kernel
theorem ev_k5 : ev_okM 5 := by decide +kernel
theorem ev_k6 : ev_okM 6 := by decide +kernel
theorem ev_k7 : ev_okM 7 := by decide +kernel
theorem ev_k8 : ev_okM 8 := by decide +kernel
theorem ev_k9 : ev_okM 9 := by decide +kernel
theorem ev_k10 : ev_okM 10 := by decide +kernel
theorem ev_k11 : ev_okM 11 := by decide +kernel
theorem ev_k12 : ev_okM 12 := by decide +kernel
theorem ev_k13 : ev_okM 13 := by decide +kernel
theorem ev_k14 : ev_okM 14 := by decide +kernel
theorem ev_k15 : ev_okM 15 := by decide +kernel
theorem ev_k16 : ev_okM 16 := by decide +kernel
theorem ev_k17 : ev_okM 17 := by decide +kernel
theorem ev_k18 : ev_okM 18 := by decide +kernel
theorem ev_k19 : ev_okM 19 := by decide +kernel
theorem ev_k20 : ev_okM 20 := by decide +kernel
theorem ev_k21 : ev_okM 21 := by decide +kernel
theorem ev_k22 : ev_okM 22 := by decide +kernel
theorem ev_k23 : ev_okM 23 := by decide +kernel
theorem ev_k24 : ev_okM 24 := by decide +kernel
theorem ev_k25 : ev_okM 25 := by decide +kernel
theorem ev_k26 : ev_okM 26 := by decide +kernel
theorem ev_k27 : ev_okM 27 := by decide +kernel
theorem ev_k28 : ev_okM 28 := by decide +kernel
theorem ev_k29 : ev_okM 29 := by decide +kernel
theorem ev_k30 : ev_okM 30 := by decide +kernel
theorem ev_k31 : ev_okM 31 := by decide +kernel
theorem ev_k32 : ev_okM 32 := by decide +kernel
theorem ev_k33 : ev_okM 33 := by decide +kernel
theorem ev_k34 : ev_okM 34 := by decide +kernel
theorem ev_k35 : ev_okM 35 := by decide +kernel
theorem ev_k36 : ev_okM 36 := by decide +kernel
theorem ev_k37 : ev_okM 37 := by decide +kernel
theorem ev_k38 : ev_okM 38 := by decide +kernel
theorem ev_k39 : ev_okM 39 := by decide +kernel
theorem ev_k40 : ev_okM 40 := by decide +kernel
theorem ev_k41 : ev_okM 41 := by decide +kernel
theorem ev_k42 : ev_okM 42 := by decide +kernel
theorem ev_k43 : ev_okM 43 := by decide +kernel
theorem ev_k44 : ev_okM 44 := by decide +kernel
theorem ev_k45 : ev_okM 45 := by decide +kernel
theorem ev_k46 : ev_okM 46 := by decide +kernel
theorem ev_k47 : ev_okM 47 := by decide +kernel
theorem ev_k48 : ev_okM 48 := by decide +kernel
theorem ev_k49 : ev_okM 49 := by decide +kernel
theorem ev_k50 : ev_okM 50 := by decide +kernel
theorem ev_k51 : ev_okM 51 := by decide +kernel
theorem ev_k52 : ev_okM 52 := by decide +kernel
theorem ev_k53 : ev_okM 53 := by decide +kernel
theorem ev_k54 : ev_okM 54 := by decide +kernel
theorem ev_k55 : ev_okM 55 := by decide +kernel
theorem ev_k56 : ev_okM 56 := by decide +kernel
theorem ev_k57 : ev_okM 57 := by decide +kernel
theorem ev_k58 : ev_okM 58 := by decide +kernel
theorem ev_k59 : ev_okM 59 := by decide +kernel
theorem ev_k60 : ev_okM 60 := by decide +kernel
theorem ev_k61 : ev_okM 61 := by decide +kernel
theorem ev_k62 : ev_okM 62 := by decide +kernel
theorem ev_k63 : ev_okM 63 := by decide +kernel
theorem ev_k64 : ev_okM 64 := by decide +kernel
theorem ev_k65 : ev_okM 65 := by decide +kernel
theorem ev_k66 : ev_okM 66 := by decide +kernel
theorem ev_k67 : ev_okM 67 := by decide +kernel
theorem ev_k68 : ev_okM 68 := by decide +kernel
theorem ev_k69 : ev_okM 69 := by decide +kernel
theorem ev_k70 : ev_okM 70 := by decide +kernel
theorem ev_k71 : ev_okM 71 := by decide +kernel
theorem ev_k72 : ev_okM 72 := by decide +kernel
theorem ev_k73 : ev_okM 73 := by decide +kernel
theorem ev_k74 : ev_okM 74 := by decide +kernel
theorem ev_k75 : ev_okM 75 := by decide +kernel
theorem ev_k76 : ev_okM 76 := by decide +kernel
theorem ev_k77 : ev_okM 77 := by decide +kernel
theorem ev_k78 : ev_okM 78 := by decide +kernel
theorem ev_k79 : ev_okM 79 := by decide +kernel
theorem ev_k80 : ev_okM 80 := by decide +kernel
theorem ev_k81 : ev_okM 81 := by decide +kernel
theorem ev_k82 : ev_okM 82 := by decide +kernel
theorem ev_k83 : ev_okM 83 := by decide +kernel
theorem ev_k84 : ev_okM 84 := by decide +kernel
theorem ev_k85 : ev_okM 85 := by decide +kernel
theorem ev_k86 : ev_okM 86 := by decide +kernel
theorem ev_k87 : ev_okM 87 := by decide +kernel
theorem ev_k88 : ev_okM 88 := by decide +kernel
theorem ev_k89 : ev_okM 89 := by decide +kernel
theorem ev_k90 : ev_okM 90 := by decide +kernel
theorem ev_k91 : ev_okM 91 := by decide +kernel
theorem ev_k92 : ev_okM 92 := by decide +kernel
theorem ev_k93 : ev_okM 93 := by decide +kernel
theorem ev_k94 : ev_okM 94 := by decide +kernel
theorem ev_k95 : ev_okM 95 := by decide +kernel
theorem ev_k96 : ev_okM 96 := by decide +kernel
theorem ev_k97 : ev_okM 97 := by decide +kernel
theorem ev_k98 : ev_okM 98 := by decide +kernel
theorem ev_k99 : ev_okM 99 := by decide +kernel
theorem ev_k100 : ev_okM 100 := by decide +kernel
theorem ev_k101 : ev_okM 101 := by decide +kernel
theorem ev_k102 : ev_okM 102 := by decide +kernel
theorem ev_k103 : ev_okM 103 := by decide +kernel
theorem ev_k104 : ev_okM 104 := by decide +kernel
theorem ev_k105 : ev_okM 105 := by decide +kernel
theorem ev_k106 : ev_okM 106 := by decide +kernel
theorem ev_k107 : ev_okM 107 := by decide +kernel
theorem ev_k108 : ev_okM 108 := by decide +kernel
theorem ev_k109 : ev_okM 109 := by decide +kernel
theorem ev_k110 : ev_okM 110 := by decide +kernel
theorem ev_k111 : ev_okM 111 := by decide +kernel
theorem ev_k112 : ev_okM 112 := by decide +kernel
theorem ev_k113 : ev_okM 113 := by decide +kernel
theorem ev_k114 : ev_okM 114 := by decide +kernel
theorem ev_k115 : ev_okM 115 := by decide +kernel
theorem ev_k116 : ev_okM 116 := by decide +kernel
theorem ev_k117 : ev_okM 117 := by decide +kernel
theorem ev_k118 : ev_okM 118 := by decide +kernel
theorem ev_k119 : ev_okM 119 := by decide +kernel
theorem ev_k120 : ev_okM 120 := by decide +kernel
theorem ev_k121 : ev_okM 121 := by decide +kernel
theorem ev_k122 : ev_okM 122 := by decide +kernel
theorem ev_k123 : ev_okM 123 := by decide +kernel
theorem ev_k124 : ev_okM 124 := by decide +kernel
theorem ev_k125 : ev_okM 125 := by decide +kernel
theorem ev_k126 : ev_okM 126 := by decide +kernel
theorem ev_k127 : ev_okM 127 := by decide +kernel
theorem ev_k128 : ev_okM 128 := by decide +kernel
theorem ev_k129 : ev_okM 129 := by decide +kernel
theorem ev_k130 : ev_okM 130 := by decide +kernel
theorem ev_k131 : ev_okM 131 := by decide +kernel
theorem ev_k132 : ev_okM 132 := by decide +kernel
theorem ev_k133 : ev_okM 133 := by decide +kernel
theorem ev_k134 : ev_okM 134 := by decide +kernel
theorem ev_k135 : ev_okM 135 := by decide +kernel
theorem ev_k136 : ev_okM 136 := by decide +kernel
theorem ev_k137 : ev_okM 137 := by decide +kernel
theorem ev_k138 : ev_okM 138 := by decide +kernel
theorem ev_k139 : ev_okM 139 := by decide +kernel
theorem ev_k140 : ev_okM 140 := by decide +kernel
theorem ev_k141 : ev_okM 141 := by decide +kernel
theorem ev_k142 : ev_okM 142 := by decide +kernel
theorem ev_k143 : ev_okM 143 := by decide +kernel
theorem ev_k144 : ev_okM 144 := by decide +kernel
theorem ev_k145 : ev_okM 145 := by decide +kernel
theorem ev_k146 : ev_okM 146 := by decide +kernel
theorem ev_k147 : ev_okM 147 := by decide +kernel
theorem ev_k148 : ev_okM 148 := by decide +kernel
theorem ev_k149 : ev_okM 149 := by decide +kernel
theorem ev_k150 : ev_okM 150 := by decide +kernel
theorem ev_k151 : ev_okM 151 := by decide +kernel
theorem ev_k152 : ev_okM 152 := by decide +kernel
theorem ev_k153 : ev_okM 153 := by decide +kernel
theorem ev_k154 : ev_okM 154 := by decide +kernel
theorem ev_k155 : ev_okM 155 := by decide +kernel
theorem ev_k156 : ev_okM 156 := by decide +kernel
theorem ev_k157 : ev_okM 157 := by decide +kernel
theorem ev_k158 : ev_okM 158 := by decide +kernel
theorem ev_k159 : ev_okM 159 := by decide +kernel
theorem ev_k160 : ev_okM 160 := by decide +kernel
theorem ev_k161 : ev_okM 161 := by decide +kernel
theorem ev_k162 : ev_okM 162 := by decide +kernel
theorem ev_k163 : ev_okM 163 := by decide +kernel
theorem ev_k164 : ev_okM 164 := by decide +kernel
theorem ev_k165 : ev_okM 165 := by decide +kernel
theorem ev_k166 : ev_okM 166 := by decide +kernel
theorem ev_k167 : ev_okM 167 := by decide +kernel
theorem ev_k168 : ev_okM 168 := by decide +kernel
theorem ev_k169 : ev_okM 169 := by decide +kernel
theorem ev_k170 : ev_okM 170 := by decide +kernel
theorem ev_k171 : ev_okM 171 := by decide +kernel
theorem ev_k172 : ev_okM 172 := by decide +kernel
theorem ev_k173 : ev_okM 173 := by decide +kernel
theorem ev_k174 : ev_okM 174 := by decide +kernel
theorem ev_k175 : ev_okM 175 := by decide +kernel
theorem ev_k176 : ev_okM 176 := by decide +kernel
theorem ev_k177 : ev_okM 177 := by decide +kernel
theorem ev_k178 : ev_okM 178 := by decide +kernel
theorem ev_k179 : ev_okM 179 := by decide +kernel
theorem ev_k180 : ev_okM 180 := by decide +kernel
theorem ev_k181 : ev_okM 181 := by decide +kernel
theorem ev_k182 : ev_okM 182 := by decide +kernel
theorem ev_k183 : ev_okM 183 := by decide +kernel
theorem ev_k184 : ev_okM 184 := by decide +kernel
theorem ev_k185 : ev_okM 185 := by decide +kernel
theorem ev_k186 : ev_okM 186 := by decide +kernel
theorem ev_k187 : ev_okM 187 := by decide +kernel
theorem ev_k188 : ev_okM 188 := by decide +kernel
theorem ev_k189 : ev_okM 189 := by decide +kernel
theorem ev_k190 : ev_okM 190 := by decide +kernel
theorem ev_k191 : ev_okM 191 := by decide +kernel
theorem ev_k192 : ev_okM 192 := by decide +kernel
theorem ev_k193 : ev_okM 193 := by decide +kernel
theorem ev_k194 : ev_okM 194 := by decide +kernel
theorem ev_k195 : ev_okM 195 := by decide +kernel
theorem ev_k196 : ev_okM 196 := by decide +kernel
theorem ev_k197 : ev_okM 197 := by decide +kernel
theorem ev_k198 : ev_okM 198 := by decide +kernel
theorem ev_k199 : ev_okM 199 := by decide +kernel
theorem ev_k200 : ev_okM 200 := by decide +kernel
theorem ev_k201 : ev_okM 201 := by decide +kernel
theorem ev_k202 : ev_okM 202 := by decide +kernel
theorem ev_k203 : ev_okM 203 := by decide +kernel
theorem ev_k204 : ev_okM 204 := by decide +kernel
theorem ev_k205 : ev_okM 205 := by decide +kernel
theorem ev_k206 : ev_okM 206 := by decide +kernel
theorem ev_k207 : ev_okM 207 := by decide +kernel
theorem ev_k208 : ev_okM 208 := by decide +kernel
theorem ev_k209 : ev_okM 209 := by decide +kernel
theorem ev_k210 : ev_okM 210 := by decide +kernel
theorem ev_k211 : ev_okM 211 := by decide +kernel
theorem ev_k212 : ev_okM 212 := by decide +kernel
theorem ev_kl0 : ev_okL (ev_o 213) (ev_ini 213) (ev_r 213) (ev_b 213) (ev_pb 213) ((cd_L_law.drop 0).take 40) (pb_L_law.drop 0) = true := by decide +kernel
theorem ev_kl40 : ev_okL (ev_o 213) (ev_ini 213) (ev_r 213) (ev_b 213) (ev_pb 213) ((cd_L_law.drop 40).take 40) (pb_L_law.drop 40) = true := by decide +kernel
theorem ev_kl80 : ev_okL (ev_o 213) (ev_ini 213) (ev_r 213) (ev_b 213) (ev_pb 213) ((cd_L_law.drop 80).take 40) (pb_L_law.drop 80) = true := by decide +kernel
theorem ev_kl120 : ev_okL (ev_o 213) (ev_ini 213) (ev_r 213) (ev_b 213) (ev_pb 213) ((cd_L_law.drop 120).take 40) (pb_L_law.drop 120) = true := by decide +kernel
theorem ev_kl160 : ev_okL (ev_o 213) (ev_ini 213) (ev_r 213) (ev_b 213) (ev_pb 213) ((cd_L_law.drop 160).take 40) (pb_L_law.drop 160) = true := by decide +kernel
theorem ev_kl200 : ev_okL (ev_o 213) (ev_ini 213) (ev_r 213) (ev_b 213) (ev_pb 213) ((cd_L_law.drop 200).take 40) (pb_L_law.drop 200) = true := by decide +kernel
theorem ev_kl240 : ev_okL (ev_o 213) (ev_ini 213) (ev_r 213) (ev_b 213) (ev_pb 213) ((cd_L_law.drop 240).take 40) (pb_L_law.drop 240) = true := by decide +kernel
theorem ev_kl280 : ev_okL (ev_o 213) (ev_ini 213) (ev_r 213) (ev_b 213) (ev_pb 213) ((cd_L_law.drop 280).take 40) (pb_L_law.drop 280) = true := by decide +kernel
theorem ev_kl320 : ev_okL (ev_o 213) (ev_ini 213) (ev_r 213) (ev_b 213) (ev_pb 213) ((cd_L_law.drop 320).take 40) (pb_L_law.drop 320) = true := by decide +kernel
theorem ev_kl360 : ev_okL (ev_o 213) (ev_ini 213) (ev_r 213) (ev_b 213) (ev_pb 213) ((cd_L_law.drop 360).take 40) (pb_L_law.drop 360) = true := by decide +kernel
theorem ev_kl400 : ev_okL (ev_o 213) (ev_ini 213) (ev_r 213) (ev_b 213) (ev_pb 213) ((cd_L_law.drop 400).take 40) (pb_L_law.drop 400) = true := by decide +kernel
theorem ev_kl440 : ev_okL (ev_o 213) (ev_ini 213) (ev_r 213) (ev_b 213) (ev_pb 213) ((cd_L_law.drop 440).take 40) (pb_L_law.drop 440) = true := by decide +kernel
theorem ev_kl480 : ev_okL (ev_o 213) (ev_ini 213) (ev_r 213) (ev_b 213) (ev_pb 213) ((cd_L_law.drop 480).take 40) (pb_L_law.drop 480) = true := by decide +kernel
theorem ev_kl520 : ev_okL (ev_o 213) (ev_ini 213) (ev_r 213) (ev_b 213) (ev_pb 213) ((cd_L_law.drop 520).take 40) (pb_L_law.drop 520) = true := by decide +kernel
theorem ev_kl560 : ev_okL (ev_o 213) (ev_ini 213) (ev_r 213) (ev_b 213) (ev_pb 213) ((cd_L_law.drop 560).take 40) (pb_L_law.drop 560) = true := by decide +kernel
theorem ev_kl600 : ev_okL (ev_o 213) (ev_ini 213) (ev_r 213) (ev_b 213) (ev_pb 213) ((cd_L_law.drop 600).take 40) (pb_L_law.drop 600) = true := by decide +kernel
theorem ev_kl640 : ev_okL (ev_o 213) (ev_ini 213) (ev_r 213) (ev_b 213) (ev_pb 213) ((cd_L_law.drop 640).take 40) (pb_L_law.drop 640) = true := by decide +kernel
theorem ev_kl680 : ev_okL (ev_o 213) (ev_ini 213) (ev_r 213) (ev_b 213) (ev_pb 213) ((cd_L_law.drop 680).take 40) (pb_L_law.drop 680) = true := by decide +kernel
theorem ev_kl720 : ev_okL (ev_o 213) (ev_ini 213) (ev_r 213) (ev_b 213) (ev_pb 213) ((cd_L_law.drop 720).take 40) (pb_L_law.drop 720) = true := by decide +kernel
theorem ev_kl760 : ev_okL (ev_o 213) (ev_ini 213) (ev_r 213) (ev_b 213) (ev_pb 213) ((cd_L_law.drop 760).take 40) (pb_L_law.drop 760) = true := by decide +kernel
theorem ev_kl800 : ev_okL (ev_o 213) (ev_ini 213) (ev_r 213) (ev_b 213) (ev_pb 213) ((cd_L_law.drop 800).take 40) (pb_L_law.drop 800) = true := by decide +kernel
theorem ev_kl840 : ev_okL (ev_o 213) (ev_ini 213) (ev_r 213) (ev_b 213) (ev_pb 213) ((cd_L_law.drop 840).take 40) (pb_L_law.drop 840) = true := by decide +kernel
theorem ev_kl880 : ev_okL (ev_o 213) (ev_ini 213) (ev_r 213) (ev_b 213) (ev_pb 213) ((cd_L_law.drop 880).take 40) (pb_L_law.drop 880) = true := by decide +kernel
theorem ev_kd920 : ev_okL (ev_o 213) (ev_ini 213) (ev_r 213) (ev_b 213) (ev_pb 213) (cd_L_law.drop 920) (pb_L_law.drop 920) = true := by decide +kernel
theorem ev_kd880 : ev_okL (ev_o 213) (ev_ini 213) (ev_r 213) (ev_b 213) (ev_pb 213) (cd_L_law.drop 880) (pb_L_law.drop 880) = true := ev_okL_cut _ _ _ _ _ 40 _ _ ev_kl880 (by rw [List.drop_drop, List.drop_drop]; exact ev_kd920)
theorem ev_kd840 : ev_okL (ev_o 213) (ev_ini 213) (ev_r 213) (ev_b 213) (ev_pb 213) (cd_L_law.drop 840) (pb_L_law.drop 840) = true := ev_okL_cut _ _ _ _ _ 40 _ _ ev_kl840 (by rw [List.drop_drop, List.drop_drop]; exact ev_kd880)
theorem ev_kd800 : ev_okL (ev_o 213) (ev_ini 213) (ev_r 213) (ev_b 213) (ev_pb 213) (cd_L_law.drop 800) (pb_L_law.drop 800) = true := ev_okL_cut _ _ _ _ _ 40 _ _ ev_kl800 (by rw [List.drop_drop, List.drop_drop]; exact ev_kd840)
theorem ev_kd760 : ev_okL (ev_o 213) (ev_ini 213) (ev_r 213) (ev_b 213) (ev_pb 213) (cd_L_law.drop 760) (pb_L_law.drop 760) = true := ev_okL_cut _ _ _ _ _ 40 _ _ ev_kl760 (by rw [List.drop_drop, List.drop_drop]; exact ev_kd800)
theorem ev_kd720 : ev_okL (ev_o 213) (ev_ini 213) (ev_r 213) (ev_b 213) (ev_pb 213) (cd_L_law.drop 720) (pb_L_law.drop 720) = true := ev_okL_cut _ _ _ _ _ 40 _ _ ev_kl720 (by rw [List.drop_drop, List.drop_drop]; exact ev_kd760)
theorem ev_kd680 : ev_okL (ev_o 213) (ev_ini 213) (ev_r 213) (ev_b 213) (ev_pb 213) (cd_L_law.drop 680) (pb_L_law.drop 680) = true := ev_okL_cut _ _ _ _ _ 40 _ _ ev_kl680 (by rw [List.drop_drop, List.drop_drop]; exact ev_kd720)
theorem ev_kd640 : ev_okL (ev_o 213) (ev_ini 213) (ev_r 213) (ev_b 213) (ev_pb 213) (cd_L_law.drop 640) (pb_L_law.drop 640) = true := ev_okL_cut _ _ _ _ _ 40 _ _ ev_kl640 (by rw [List.drop_drop, List.drop_drop]; exact ev_kd680)
theorem ev_kd600 : ev_okL (ev_o 213) (ev_ini 213) (ev_r 213) (ev_b 213) (ev_pb 213) (cd_L_law.drop 600) (pb_L_law.drop 600) = true := ev_okL_cut _ _ _ _ _ 40 _ _ ev_kl600 (by rw [List.drop_drop, List.drop_drop]; exact ev_kd640)
theorem ev_kd560 : ev_okL (ev_o 213) (ev_ini 213) (ev_r 213) (ev_b 213) (ev_pb 213) (cd_L_law.drop 560) (pb_L_law.drop 560) = true := ev_okL_cut _ _ _ _ _ 40 _ _ ev_kl560 (by rw [List.drop_drop, List.drop_drop]; exact ev_kd600)
theorem ev_kd520 : ev_okL (ev_o 213) (ev_ini 213) (ev_r 213) (ev_b 213) (ev_pb 213) (cd_L_law.drop 520) (pb_L_law.drop 520) = true := ev_okL_cut _ _ _ _ _ 40 _ _ ev_kl520 (by rw [List.drop_drop, List.drop_drop]; exact ev_kd560)
theorem ev_kd480 : ev_okL (ev_o 213) (ev_ini 213) (ev_r 213) (ev_b 213) (ev_pb 213) (cd_L_law.drop 480) (pb_L_law.drop 480) = true := ev_okL_cut _ _ _ _ _ 40 _ _ ev_kl480 (by rw [List.drop_drop, List.drop_drop]; exact ev_kd520)
theorem ev_kd440 : ev_okL (ev_o 213) (ev_ini 213) (ev_r 213) (ev_b 213) (ev_pb 213) (cd_L_law.drop 440) (pb_L_law.drop 440) = true := ev_okL_cut _ _ _ _ _ 40 _ _ ev_kl440 (by rw [List.drop_drop, List.drop_drop]; exact ev_kd480)
theorem ev_kd400 : ev_okL (ev_o 213) (ev_ini 213) (ev_r 213) (ev_b 213) (ev_pb 213) (cd_L_law.drop 400) (pb_L_law.drop 400) = true := ev_okL_cut _ _ _ _ _ 40 _ _ ev_kl400 (by rw [List.drop_drop, List.drop_drop]; exact ev_kd440)
theorem ev_kd360 : ev_okL (ev_o 213) (ev_ini 213) (ev_r 213) (ev_b 213) (ev_pb 213) (cd_L_law.drop 360) (pb_L_law.drop 360) = true := ev_okL_cut _ _ _ _ _ 40 _ _ ev_kl360 (by rw [List.drop_drop, List.drop_drop]; exact ev_kd400)
theorem ev_kd320 : ev_okL (ev_o 213) (ev_ini 213) (ev_r 213) (ev_b 213) (ev_pb 213) (cd_L_law.drop 320) (pb_L_law.drop 320) = true := ev_okL_cut _ _ _ _ _ 40 _ _ ev_kl320 (by rw [List.drop_drop, List.drop_drop]; exact ev_kd360)
theorem ev_kd280 : ev_okL (ev_o 213) (ev_ini 213) (ev_r 213) (ev_b 213) (ev_pb 213) (cd_L_law.drop 280) (pb_L_law.drop 280) = true := ev_okL_cut _ _ _ _ _ 40 _ _ ev_kl280 (by rw [List.drop_drop, List.drop_drop]; exact ev_kd320)
theorem ev_kd240 : ev_okL (ev_o 213) (ev_ini 213) (ev_r 213) (ev_b 213) (ev_pb 213) (cd_L_law.drop 240) (pb_L_law.drop 240) = true := ev_okL_cut _ _ _ _ _ 40 _ _ ev_kl240 (by rw [List.drop_drop, List.drop_drop]; exact ev_kd280)
theorem ev_kd200 : ev_okL (ev_o 213) (ev_ini 213) (ev_r 213) (ev_b 213) (ev_pb 213) (cd_L_law.drop 200) (pb_L_law.drop 200) = true := ev_okL_cut _ _ _ _ _ 40 _ _ ev_kl200 (by rw [List.drop_drop, List.drop_drop]; exact ev_kd240)
theorem ev_kd160 : ev_okL (ev_o 213) (ev_ini 213) (ev_r 213) (ev_b 213) (ev_pb 213) (cd_L_law.drop 160) (pb_L_law.drop 160) = true := ev_okL_cut _ _ _ _ _ 40 _ _ ev_kl160 (by rw [List.drop_drop, List.drop_drop]; exact ev_kd200)
theorem ev_kd120 : ev_okL (ev_o 213) (ev_ini 213) (ev_r 213) (ev_b 213) (ev_pb 213) (cd_L_law.drop 120) (pb_L_law.drop 120) = true := ev_okL_cut _ _ _ _ _ 40 _ _ ev_kl120 (by rw [List.drop_drop, List.drop_drop]; exact ev_kd160)
theorem ev_kd80 : ev_okL (ev_o 213) (ev_ini 213) (ev_r 213) (ev_b 213) (ev_pb 213) (cd_L_law.drop 80) (pb_L_law.drop 80) = true := ev_okL_cut _ _ _ _ _ 40 _ _ ev_kl80 (by rw [List.drop_drop, List.drop_drop]; exact ev_kd120)
theorem ev_kd40 : ev_okL (ev_o 213) (ev_ini 213) (ev_r 213) (ev_b 213) (ev_pb 213) (cd_L_law.drop 40) (pb_L_law.drop 40) = true := ev_okL_cut _ _ _ _ _ 40 _ _ ev_kl40 (by rw [List.drop_drop, List.drop_drop]; exact ev_kd80)
theorem ev_kd0 : ev_okL (ev_o 213) (ev_ini 213) (ev_r 213) (ev_b 213) (ev_pb 213) (cd_L_law.drop 0) (pb_L_law.drop 0) = true := ev_okL_cut _ _ _ _ _ 40 _ _ ev_kl0 (by rw [List.drop_drop, List.drop_drop]; exact ev_kd40)
theorem ev_k213 : ev_okM 213 := ev_kd0
theorem ev_ok (mi : Nat) (h : mi < 214) : ev_okM mi := by
  match mi, h with
  | 0, _ => exact ev_k0
  | 1, _ => exact ev_k1
  | 2, _ => exact ev_k2
  | 3, _ => exact ev_k3
  | 4, _ => exact ev_k4
  | 5, _ => exact ev_k5
  | 6, _ => exact ev_k6
  | 7, _ => exact ev_k7
  | 8, _ => exact ev_k8
  | 9, _ => exact ev_k9
  | 10, _ => exact ev_k10
  | 11, _ => exact ev_k11
  | 12, _ => exact ev_k12
  | 13, _ => exact ev_k13
  | 14, _ => exact ev_k14
  | 15, _ => exact ev_k15
  | 16, _ => exact ev_k16
  | 17, _ => exact ev_k17
  | 18, _ => exact ev_k18
  | 19, _ => exact ev_k19
  | 20, _ => exact ev_k20
  | 21, _ => exact ev_k21
  | 22, _ => exact ev_k22
  | 23, _ => exact ev_k23
  | 24, _ => exact ev_k24
  | 25, _ => exact ev_k25
  | 26, _ => exact ev_k26
  | 27, _ => exact ev_k27
  | 28, _ => exact ev_k28
  | 29, _ => exact ev_k29
  | 30, _ => exact ev_k30
  | 31, _ => exact ev_k31
  | 32, _ => exact ev_k32
  | 33, _ => exact ev_k33
  | 34, _ => exact ev_k34
  | 35, _ => exact ev_k35
  | 36, _ => exact ev_k36
  | 37, _ => exact ev_k37
  | 38, _ => exact ev_k38
  | 39, _ => exact ev_k39
  | 40, _ => exact ev_k40
  | 41, _ => exact ev_k41
  | 42, _ => exact ev_k42
  | 43, _ => exact ev_k43
  | 44, _ => exact ev_k44
  | 45, _ => exact ev_k45
  | 46, _ => exact ev_k46
  | 47, _ => exact ev_k47
  | 48, _ => exact ev_k48
  | 49, _ => exact ev_k49
  | 50, _ => exact ev_k50
  | 51, _ => exact ev_k51
  | 52, _ => exact ev_k52
  | 53, _ => exact ev_k53
  | 54, _ => exact ev_k54
  | 55, _ => exact ev_k55
  | 56, _ => exact ev_k56
  | 57, _ => exact ev_k57
  | 58, _ => exact ev_k58
  | 59, _ => exact ev_k59
  | 60, _ => exact ev_k60
  | 61, _ => exact ev_k61
  | 62, _ => exact ev_k62
  | 63, _ => exact ev_k63
  | 64, _ => exact ev_k64
  | 65, _ => exact ev_k65
  | 66, _ => exact ev_k66
  | 67, _ => exact ev_k67
  | 68, _ => exact ev_k68
  | 69, _ => exact ev_k69
  | 70, _ => exact ev_k70
  | 71, _ => exact ev_k71
  | 72, _ => exact ev_k72
  | 73, _ => exact ev_k73
  | 74, _ => exact ev_k74
  | 75, _ => exact ev_k75
  | 76, _ => exact ev_k76
  | 77, _ => exact ev_k77
  | 78, _ => exact ev_k78
  | 79, _ => exact ev_k79
  | 80, _ => exact ev_k80
  | 81, _ => exact ev_k81
  | 82, _ => exact ev_k82
  | 83, _ => exact ev_k83
  | 84, _ => exact ev_k84
  | 85, _ => exact ev_k85
  | 86, _ => exact ev_k86
  | 87, _ => exact ev_k87
  | 88, _ => exact ev_k88
  | 89, _ => exact ev_k89
  | 90, _ => exact ev_k90
  | 91, _ => exact ev_k91
  | 92, _ => exact ev_k92
  | 93, _ => exact ev_k93
  | 94, _ => exact ev_k94
  | 95, _ => exact ev_k95
  | 96, _ => exact ev_k96
  | 97, _ => exact ev_k97
  | 98, _ => exact ev_k98
  | 99, _ => exact ev_k99
  | 100, _ => exact ev_k100
  | 101, _ => exact ev_k101
  | 102, _ => exact ev_k102
  | 103, _ => exact ev_k103
  | 104, _ => exact ev_k104
  | 105, _ => exact ev_k105
  | 106, _ => exact ev_k106
  | 107, _ => exact ev_k107
  | 108, _ => exact ev_k108
  | 109, _ => exact ev_k109
  | 110, _ => exact ev_k110
  | 111, _ => exact ev_k111
  | 112, _ => exact ev_k112
  | 113, _ => exact ev_k113
  | 114, _ => exact ev_k114
  | 115, _ => exact ev_k115
  | 116, _ => exact ev_k116
  | 117, _ => exact ev_k117
  | 118, _ => exact ev_k118
  | 119, _ => exact ev_k119
  | 120, _ => exact ev_k120
  | 121, _ => exact ev_k121
  | 122, _ => exact ev_k122
  | 123, _ => exact ev_k123
  | 124, _ => exact ev_k124
  | 125, _ => exact ev_k125
  | 126, _ => exact ev_k126
  | 127, _ => exact ev_k127
  | 128, _ => exact ev_k128
  | 129, _ => exact ev_k129
  | 130, _ => exact ev_k130
  | 131, _ => exact ev_k131
  | 132, _ => exact ev_k132
  | 133, _ => exact ev_k133
  | 134, _ => exact ev_k134
  | 135, _ => exact ev_k135
  | 136, _ => exact ev_k136
  | 137, _ => exact ev_k137
  | 138, _ => exact ev_k138
  | 139, _ => exact ev_k139
  | 140, _ => exact ev_k140
  | 141, _ => exact ev_k141
  | 142, _ => exact ev_k142
  | 143, _ => exact ev_k143
  | 144, _ => exact ev_k144
  | 145, _ => exact ev_k145
  | 146, _ => exact ev_k146
  | 147, _ => exact ev_k147
  | 148, _ => exact ev_k148
  | 149, _ => exact ev_k149
  | 150, _ => exact ev_k150
  | 151, _ => exact ev_k151
  | 152, _ => exact ev_k152
  | 153, _ => exact ev_k153
  | 154, _ => exact ev_k154
  | 155, _ => exact ev_k155
  | 156, _ => exact ev_k156
  | 157, _ => exact ev_k157
  | 158, _ => exact ev_k158
  | 159, _ => exact ev_k159
  | 160, _ => exact ev_k160
  | 161, _ => exact ev_k161
  | 162, _ => exact ev_k162
  | 163, _ => exact ev_k163
  | 164, _ => exact ev_k164
  | 165, _ => exact ev_k165
  | 166, _ => exact ev_k166
  | 167, _ => exact ev_k167
  | 168, _ => exact ev_k168
  | 169, _ => exact ev_k169
  | 170, _ => exact ev_k170
  | 171, _ => exact ev_k171
  | 172, _ => exact ev_k172
  | 173, _ => exact ev_k173
  | 174, _ => exact ev_k174
  | 175, _ => exact ev_k175
  | 176, _ => exact ev_k176
  | 177, _ => exact ev_k177
  | 178, _ => exact ev_k178
  | 179, _ => exact ev_k179
  | 180, _ => exact ev_k180
  | 181, _ => exact ev_k181
  | 182, _ => exact ev_k182
  | 183, _ => exact ev_k183
  | 184, _ => exact ev_k184
  | 185, _ => exact ev_k185
  | 186, _ => exact ev_k186
  | 187, _ => exact ev_k187
  | 188, _ => exact ev_k188
  | 189, _ => exact ev_k189
  | 190, _ => exact ev_k190
  | 191, _ => exact ev_k191
  | 192, _ => exact ev_k192
  | 193, _ => exact ev_k193
  | 194, _ => exact ev_k194
  | 195, _ => exact ev_k195
  | 196, _ => exact ev_k196
  | 197, _ => exact ev_k197
  | 198, _ => exact ev_k198
  | 199, _ => exact ev_k199
  | 200, _ => exact ev_k200
  | 201, _ => exact ev_k201
  | 202, _ => exact ev_k202
  | 203, _ => exact ev_k203
  | 204, _ => exact ev_k204
  | 205, _ => exact ev_k205
  | 206, _ => exact ev_k206
  | 207, _ => exact ev_k207
  | 208, _ => exact ev_k208
  | 209, _ => exact ev_k209
  | 210, _ => exact ev_k210
  | 211, _ => exact ev_k211
  | 212, _ => exact ev_k212
  | 213, _ => exact ev_k213
  | n + 214, hi => exact absurd hi (by omega)
end
section
/-! A machine of our own: it runs resolved code over numbered cells. A cell: an array of numbers (kind, what it holds), or an object or an array of references (class, what it holds). '.ref k' is the cell k, '.retAddr k' a thing that was there before, '.float 0' a local that nobody has set, '.double 0' a long's second half. -/
abbrev ev_C : Type := (Nat × List Int32) ⊕ (Nat × List Value)
abbrev ev_H : Type := List ev_C
def ev_ft : List ev_I → Nat → Option ev_I
  | [], _ => none
  | a :: _, 0 => some a
  | _ :: l, n + 1 => ev_ft l n
def ev_lg : List Value → Nat → Option Value
  | [], _ => none
  | a :: _, 0 => some a
  | _ :: l, n + 1 => ev_lg l n
def ev_half : Value → Bool
  | .double _ => true
  | _ => false
def ev_isL : Value → Bool
  | .long _ => true
  | _ => false
def ev_ok1 : List Value → Nat → Bool
  | [], _ => false
  | a :: _, 0 => !ev_half a
  | _ :: l, n + 1 => ev_ok1 l n
def ev_ok2 : List Value → Nat → Bool
  | a :: _ :: _, 0 => !ev_half a
  | _ :: l, n + 1 => ev_ok2 l n
  | _, _ => false
def ev_un : List Value → List Value
  | [] => []
  | _ :: l => .float 0 :: l
def ev_s1 : List Value → Nat → Value → List Value
  | [], _, _ => []
  | a :: l, 0, v => match ev_isL a with
    | true => v :: ev_un l
    | false => v :: l
  | a :: l, n + 1, v => a :: ev_s1 l n v
def ev_s2 : List Value → Nat → Value → List Value
  | _ :: _ :: l, 0, v => v :: .double 0 :: l
  | a :: l, n + 1, v => a :: ev_s2 l n v
  | l, _, _ => l
def ev_lay : List Value → Nat → List Value
  | [], n => List.replicate n (.float 0)
  | v :: l, n => match ev_half v, ev_isL v, n with
    | false, true, n + 2 => v :: .double 0 :: ev_lay l n
    | false, false, n + 1 => v :: ev_lay l n
    | _, _, _ => []
def ev_ii (st : List Value) (f : Int32 → Int32 → Int32) : Option (List Value) := match st with
  | .int y :: .int x :: r => some (.int (f x y) :: r)
  | _ => none
def ev_ll (st : List Value) (f : Int64 → Int64 → Int64) : Option (List Value) := match st with
  | .long y :: .long x :: r => some (.long (f x y) :: r)
  | _ => none
def ev_i1 (st : List Value) (f : Int32 → Value) : Option (List Value) := match st with
  | .int x :: r => some (f x :: r)
  | _ => none
def ev_inc (n : Int) (x : Int32) : Int32 := match n with
  | .ofNat 1 => x + 1
  | n => x + Int32.ofInt n
def ev_nx (pc : Nat) (ls : List Value) (o : Option (List Value)) : Option (Nat × List Value × List Value) := match o with
  | some st => some (pc + 1, ls, st)
  | none => none
/-- what needs no cells, and does not turn off -/
def ev_xP (i : ev_I) (pc : Nat) (ls st : List Value) : Option (Nat × List Value × List Value) := match i with
  | .inr v => some (pc + 1, ls, v :: st)
  | .inl ins => match ins with
    | .iload k => match ev_lg ls k with
      | some (.int x) => some (pc + 1, ls, .int x :: st)
      | _ => none
    | .lload k => match ev_lg ls k with
      | some (.long x) => some (pc + 1, ls, .long x :: st)
      | _ => none
    | .aload k => match ev_lg ls k with
      | some (.ref x) => some (pc + 1, ls, .ref x :: st)
      | some (.retAddr x) => match x with
        | 4 => none
        | x => some (pc + 1, ls, .retAddr x :: st)
      | _ => none
    | .istore k => match st with
      | .int x :: r => match ev_ok1 ls k with
        | true => some (pc + 1, ev_s1 ls k (.int x), r)
        | false => none
      | _ => none
    | .astore k => match st with
      | .ref x :: r => match ev_ok1 ls k with
        | true => some (pc + 1, ev_s1 ls k (.ref x), r)
        | false => none
      | _ => none
    | .lstore k => match st with
      | .long x :: r => match ev_ok2 ls k with
        | true => some (pc + 1, ev_s2 ls k (.long x), r)
        | false => none
      | _ => none
    | .iinc k n => match ev_lg ls k with
      | some (.int x) => match ev_ok1 ls k with
        | true => some (pc + 1, ev_s1 ls k (.int (ev_inc n x)), st)
        | false => none
      | _ => none
    | .iadd => ev_nx pc ls (ev_ii st (fun x y => x + y))
    | .isub => ev_nx pc ls (ev_ii st (fun x y => x - y))
    | .imul => ev_nx pc ls (ev_ii st (fun x y => x * y))
    | .iand => ev_nx pc ls (ev_ii st (fun x y => x &&& y))
    | .ior => ev_nx pc ls (ev_ii st (fun x y => x ||| y))
    | .ixor => ev_nx pc ls (ev_ii st (fun x y => x ^^^ y))
    | .ishl => ev_nx pc ls (ev_ii st (fun x y => x <<< (y &&& 31)))
    | .ishr => ev_nx pc ls (ev_ii st (fun x y => x >>> (y &&& 31)))
    | .iushr => ev_nx pc ls (ev_ii st (fun x y => (x.toUInt32 >>> (y.toUInt32 &&& Int32.toUInt32 31)).toInt32))
    | .ladd => ev_nx pc ls (ev_ll st (fun x y => x + y))
    | .lmul => ev_nx pc ls (ev_ll st (fun x y => x * y))
    | .lcmp => match st with
      | .long y :: .long x :: r => some (pc + 1, ls, .int (lg_cmp x y) :: r)
      | _ => none
    | .i2l => ev_nx pc ls (ev_i1 st (fun x => .long x.toInt64))
    | .i2b => ev_nx pc ls (ev_i1 st (fun x => .int x.toInt8.toInt32))
    | .i2s => ev_nx pc ls (ev_i1 st (fun x => .int x.toInt16.toInt32))
    | .i2c => ev_nx pc ls (ev_i1 st (fun x => .int (x.toUInt32 % 65536).toInt32))
    | .dup => match st with
      | .int x :: r => some (pc + 1, ls, .int x :: .int x :: r)
      | .ref x :: r => some (pc + 1, ls, .ref x :: .ref x :: r)
      | _ => none
    | .dup2 => match st with
      | .int y :: .ref x :: r => some (pc + 1, ls, .int y :: .ref x :: .int y :: .ref x :: r)
      | _ => none
    | .pop => match st with
      | .int _ :: r => some (pc + 1, ls, r)
      | _ => none
    | .goto t => some (t.toNat, ls, st)
    | _ => none
def ev_cb (c : ClassFile.Cond) (x y : Int32) : Bool := match c with
  | .eq => decide (x = y)
  | .ne => decide (¬ x = y)
  | .lt => decide (x < y)
  | .ge => decide (y ≤ x)
  | .gt => decide (y < x)
  | .le => decide (x ≤ y)
def ev_br (b : Bool) (t f : Nat) : Nat := match b with
  | true => t
  | false => f
/-- what turns off, and what may divide by 0 -/
def ev_xB (i : ev_I) (pc : Nat) (st : List Value) : Option (Nat × List Value) := match i with
  | .inr _ => none
  | .inl ins => match ins with
    | .if_icmp c t => match st with
      | .int y :: .int x :: r => some (ev_br (ev_cb c x y) t.toNat (pc + 1), r)
      | _ => none
    | .ifCond c t => match st with
      | .int x :: r => some (ev_br (ev_cb c x 0) t.toNat (pc + 1), r)
      | _ => none
    | .tableswitch d lo hi offs => match st with
      | .int x :: r => some (if x.toInt < lo ∨ hi < x.toInt then d.toNat else (offs.toList.getD (x.toInt - lo).toNat d).toNat, r)
      | _ => none
    | .lookupswitch d ps => match st with
      | .int x :: r => some ((Op.lookupswitch.offset ps.toList d x.toInt).toNat, r)
      | _ => none
    | .idiv => match st with
      | .int y :: .int x :: r => if y = 0 then none else some (pc + 1, .int (x / y) :: r)
      | _ => none
    | .irem => match st with
      | .int y :: .int x :: r => if y = 0 then none else some (pc + 1, .int (x - x / y * y) :: r)
      | _ => none
    | .ldiv => match st with
      | .long y :: .long x :: r => if y = 0 then none else some (pc + 1, .long (x / y) :: r)
      | _ => none
    | .lrem => match st with
      | .long y :: .long x :: r => if y = 0 then none else some (pc + 1, .long (x - x / y * y) :: r)
      | _ => none
    | _ => none
def ev_ro (scr : List Int32) (k : Nat) : Option (List Int32) := match k with
  | 0 => some scr
  | 1 => some [3, 3, 2, 2, 1, 1, 2, 2]
  | 2 => some [0, 0, 0, 0, 0, 0, 0, 0, 0, 0, 0, 0, 0, 0, 0, 0, 0, 0, 0, 1, 0, 0, 0, 0]
  | 3 => some [9, 99, 3, 9, 99, 3, 99, 3, 0, 9, 99, 0, 99, 0, 0, 9, 0, 0, 3, 5, 0, 7, 7, 0]
  | 20 => some [99, 97, 108, 109]
  | 21 => some [113, 117, 97, 114, 114, 101, 108]
  | 22 => some [115, 97, 105, 110, 116]
  | 23 => some [119, 97, 110, 100, 101, 114]
  | 24 => some [102, 105, 110, 101]
  | 25 => some [119, 97, 116, 99, 104]
  | 26 => some [109, 111, 115, 116]
  | 27 => some [107, 105, 110]
  | _ => none
def ev_df (c : Nat) : List Value := match c with
  | 0 => [.int 0, .int 0, .int 0, .int 0, .int 0]
  | 1 => [.null, .int 0, .null, .null, .null, .null]
  | 2 => [.int 0, .int 0, .null]
  | 3 => [.int 0, .int 0, .int 0, .null, .null, .int 0, .int 0, .int 0, .int 0, .int 0, .null, .int 0, .int 0, .int 0, .int 0]
  | 4 => [.int 0, .int 0, .int 0, .int 0, .int 0, .int 0, .null, .null, .null, .null, .null, .null, .null, .null]
  | 5 => [.null, .null, .null, .null, .null, .null, .null, .null, .null, .int 0, .int 0, .int 0]
  | 6 => [.null, .null, .null, .int 0, .null, .null, .int 0, .null, .int 0, .int 0, .int 0, .null, .int 0, .int 0, .int 0, .int 0, .int 0, .int 0, .int 0, .null, .null, .null, .null, .null, .int 0, .null]
  | _ => []
def ev_in (j : Int32) (n : Nat) : Bool := !(decide (j < 0) || decide (n ≤ j.toNatClampNeg))
def ev_bz (x : Int32) : Bool := decide (x = 0) || decide (x = 1)
/-- what reads, writes or makes cells -/
def ev_xH (scr : List Int32) (i : ev_I) (st : List Value) (h : ev_H) : Option (List Value × ev_H) := match i with
  | .inr _ => none
  | .inl ins => match ins with
    | .nop => some (st, h)
    | .getfield i => match st with
      | .ref a :: r => match h[a]? with
        | some (.inr (c, vs)) => match Nat.beq c (i / 32), vs[i % 32]? with
          | true, some v => some (v :: r, h)
          | _, _ => none
        | _ => none
      | _ => none
    | .putfield i => match st with
      | .int x :: .ref a :: r => match h[a]? with
        | some (.inr (c, vs)) => match Nat.beq c (i / 32), Nat.blt (i % 32) vs.length with
          | true, true => some (r, h.set a (.inr (c, vs.set (i % 32) (.int x))))
          | _, _ => none
        | _ => none
      | _ => none
    | .multianewarray i _ => match st with
      | .int x :: .ref a :: r => match h[a]? with
        | some (.inr (c, vs)) => match Nat.beq c (i / 32), Nat.blt (i % 32) vs.length, ev_bz x with
          | true, true, true => some (r, h.set a (.inr (c, vs.set (i % 32) (.int x))))
          | _, _, _ => none
        | _ => none
      | _ => none
    | .putstatic i => match st with
      | .ref b :: .ref a :: r => match h[a]? with
        | some (.inr (c, vs)) => match Nat.beq c (i / 32), Nat.blt (i % 32) vs.length with
          | true, true => some (r, h.set a (.inr (c, vs.set (i % 32) (.ref b))))
          | _, _ => none
        | _ => none
      | _ => none
    | .iaload => match st with
      | .int j :: .ref a :: r => match h[a]? with
        | some (.inl (0, xs)) => match ev_in j xs.length with
          | true => some (.int (xs.getD j.toNatClampNeg 0) :: r, h)
          | false => none
        | _ => none
      | _ => none
    | .baload => match st with
      | .int j :: .ref a :: r => match h[a]? with
        | some (.inl (1, xs)) => match ev_in j xs.length with
          | true => some (.int (xs.getD j.toNatClampNeg 0) :: r, h)
          | false => none
        | some (.inl (2, xs)) => match ev_in j xs.length with
          | true => some (.int (xs.getD j.toNatClampNeg 0) :: r, h)
          | false => none
        | _ => none
      | _ => none
    | .iastore => match st with
      | .int x :: .int j :: .ref a :: r => match h[a]? with
        | some (.inl (0, xs)) => match ev_in j xs.length with
          | true => some (r, h.set a (.inl (0, xs.set j.toNatClampNeg x)))
          | false => none
        | _ => none
      | _ => none
    | .bastore => match st with
      | .int x :: .int j :: .ref a :: r => match h[a]? with
        | some (.inl (1, xs)) => match ev_in j xs.length with
          | true => some (r, h.set a (.inl (1, xs.set j.toNatClampNeg (vp_nar .byte x))))
          | false => none
        | some (.inl (2, xs)) => match ev_in j xs.length with
          | true => some (r, h.set a (.inl (2, xs.set j.toNatClampNeg (vp_nar .boolean x))))
          | false => none
        | _ => none
      | _ => none
    | .aaload => match st with
      | .int j :: .ref a :: r => match h[a]? with
        | some (.inr (c, vs)) => match (Nat.beq c 14 || Nat.beq c 12), ev_in j vs.length, vs[j.toNatClampNeg]? with
          | true, true, some (.ref b) => some (.ref b :: r, h)
          | _, _, _ => none
        | _ => none
      | _ => none
    | .aastore => match st with
      | .ref b :: .int j :: .ref a :: r => match h[a]?, h[b]? with
        | some (.inr (c, vs)), some (.inr (cb, _)) => match Nat.beq c (10 + cb), (Nat.beq cb 4 || Nat.beq cb 2), ev_in j vs.length with
          | true, true, true => some (r, h.set a (.inr (c, vs.set j.toNatClampNeg (.ref b))))
          | _, _, _ => none
        | _, _ => none
      | _ => none
    | .new c => match Nat.blt c 7 with
      | true => some (.ref h.length :: st, h ++ [.inr (c, ev_df c)])
      | false => none
    | .newarray t => match st with
      | .int n :: r => match ev_in n 201, t with
        | true, .int => some (.ref h.length :: r, h ++ [.inl (0, List.replicate n.toNatClampNeg 0)])
        | true, .byte => some (.ref h.length :: r, h ++ [.inl (1, List.replicate n.toNatClampNeg 0)])
        | true, .boolean => some (.ref h.length :: r, h ++ [.inl (2, List.replicate n.toNatClampNeg 0)])
        | _, _ => none
      | _ => none
    | .anewarray c => match st with
      | .int n :: r => match ev_in n 201, (Nat.beq c 4 || Nat.beq c 2) with
        | true, true => some (.ref h.length :: r, h ++ [.inr (10 + c, List.replicate n.toNatClampNeg .null)])
        | _, _ => none
      | _ => none
    | .faload => match st with
      | .int j :: .retAddr a :: r => match Nat.blt a 4, ev_ro scr a with
        | true, some xs => match ev_in j xs.length with
          | true => some (.int (xs.getD j.toNatClampNeg 0) :: r, h)
          | false => none
        | _, _ => none
      | _ => none
    | .caload => match st with
      | .int j :: .retAddr a :: r => match Nat.blt a 20, ev_ro scr a with
        | false, some xs => match ev_in j xs.length with
          | true => some (.int (xs.getD j.toNatClampNeg 0) :: r, h)
          | false => none
        | _, _ => none
      | _ => none
    | .arraylength => match st with
      | .retAddr a :: r => match ev_ro scr a with
        | some xs => some (.int (Int32.ofNat xs.length) :: r, h)
        | none => none
      | _ => none
    | .dload k => match st with
      | .retAddr a :: r => match Nat.blt 9 a, Nat.blt a 18, k with
        | true, true, 0 => some (.retAddr (a + 10) :: r, h)
        | true, true, 1 => some (.int 0 :: r, h)
        | _, _, _ => none
      | _ => none
    | _ => none
def ev_nrw (t : Nat) (x : Int32) : Bool := match t with
  | 0 => ev_bz x
  | 1 => decide (narrow .byte (.int x) = .int x)
  | _ => decide (narrow .char (.int x) = .int x)
/-- a method's end -/
def ev_xR (i : ev_I) (st : List Value) : Option (Option Value) := match i with
  | .inr _ => none
  | .inl ins => match ins with
    | .return_ => match st with
      | [] => some none
      | _ => none
    | .ireturn => match st with
      | [.int x] => some (some (.int x))
      | _ => none
    | .ret t => match st with
      | [.int x] => match ev_nrw t x with
        | true => some (some (.int x))
        | false => none
      | _ => none
    | .lreturn => match st with
      | [.long x] => some (some (.long x))
      | _ => none
    | .areturn => match st with
      | [.retAddr x] => match Nat.beq x 4 with
        | true => none
        | false => some (some (.retAddr x))
      | _ => none
    | _ => none
def ev_xC (i : ev_I) : Option Nat := match i with
  | .inr _ => none
  | .inl ins => match ins with
    | .invokevirtual k => some k
    | .invokestatic k => some k
    | .invokespecial k => some k
    | .monitorexit => some 999
    | _ => none
def ev_rec (own : Nat) (v : Option Value) (h : ev_H) : Bool := match v with
  | some (.ref b) => match h[b]? with
    | some (.inr (c, _)) => Nat.beq c own && Nat.blt own 7
    | _ => false
  | some (.retAddr k) => Nat.beq own 10 && Nat.blt 9 k && Nat.blt k 18
  | _ => false
def ev_cok (i : ev_I) (st : List Value) (np own : Nat) (h : ev_H) : Bool := match i with
  | .inr _ => false
  | .inl ins => Nat.ble np st.length && Nat.ble (st.drop np).length 4 && (match ins with
    | .invokevirtual _ => ev_rec own (ev_lg (st.take np).reverse 0) h
    | .invokespecial _ => match ev_lg (st.take np).reverse 0 with
      | some (.ref _) => true
      | _ => false
    | _ => true)
def ev_wd : List Value → Nat
  | [] => 0
  | v :: l => v.category + ev_wd l
abbrev ev_Q : Type := (Nat × List Value × List Value × ev_H) ⊕ (Option Value ⊕ Nat)
def ev_S (scr : List Int32) (i : ev_I) (pc : Nat) (ls st : List Value) (h : ev_H) : Option ev_Q :=
  match ev_xP i pc ls st with
  | some (pc', ls', st') => some (.inl (pc', ls', st', h))
  | none => match ev_xB i pc st with
    | some (pc', st') => some (.inl (pc', ls, st', h))
    | none => match ev_xH scr i st h with
      | some (st', h') => some (.inl (pc + 1, ls, st', h'))
      | none => match ev_xR i st with
        | some v => some (.inr (.inl v))
        | none => match ev_xC i with
          | some k => some (.inr (.inr k))
          | none => none
def ev_pr (k : Nat) : Option (List ev_I × Nat × Nat × Nat) := match ev_ml[k]? with
  | some (_, _, mL, _, np, own, cd, _) => some (cd, mL, np, own)
  | none => none
def ev_E (scr : List Int32) : Nat → Nat → List ev_I → Nat → List Value → List Value → ev_H → Option (Option Value × ev_H)
  | 0, _, _, _, _, _, _ => none
  | n + 1, d, cd, pc, ls, st, h => match ev_ft cd pc with
    | none => none
    | some i => match ev_S scr i pc ls st h with
      | none => none
      | some (.inl (pc', ls', st', h')) => ev_E scr n d cd pc' ls' st' h'
      | some (.inr (.inl v)) => some (v, h)
      | some (.inr (.inr k)) => match d with
        | 0 => none
        | d' + 1 => match ev_pr k with
          | none => match (Nat.beq k 999 && Nat.ble st.length 5), st with
            | true, .ref _ :: r => ev_E scr n (d' + 1) cd (pc + 1) ls r h
            | _, _ => none
          | some (cd', mL, np, own) => match (ev_cok i st np own h && Nat.ble (ev_wd (st.take np)) mL) with
            | false => none
            | true => match ev_E scr n d' cd' 0 (ev_lay (st.take np).reverse mL) [] h with
              | none => none
              | some (v, h') => ev_E scr n (d' + 1) cd (pc + 1) ls (v.toList ++ st.drop np) h'
/-- it comes to an end, with r -/
def ev_V (scr : List Int32) (d : Nat) (cd : List ev_I) (pc : Nat) (ls st : List Value) (h : ev_H) (r : Option Value × ev_H) : Prop := ∃ n, ev_E scr n d cd pc ls st h = some r
theorem ev_mono (scr : List Int32) : ∀ (n d : Nat) (cd : List ev_I) (pc : Nat) (ls st : List Value) (h : ev_H) (r : Option Value × ev_H), ev_E scr n d cd pc ls st h = some r → ∀ n' d', n ≤ n' → d ≤ d' → ev_E scr n' d' cd pc ls st h = some r := by
  intro n
  induction n with
  | zero => intro d cd pc ls st h r hr; cases hr
  | succ n ih =>
    intro d cd pc ls st h r hr n' d' hn hd
    obtain ⟨m, rfl⟩ : ∃ m, n' = m + 1 := ⟨n' - 1, by omega⟩
    have hm : n ≤ m := by omega
    unfold ev_E at hr ⊢
    cases hf : ev_ft cd pc with
    | none => rw [hf] at hr; cases hr
    | some i =>
      rw [hf] at hr
      dsimp only at hr ⊢
      cases hs : ev_S scr i pc ls st h with
      | none => rw [hs] at hr; cases hr
      | some q =>
        rw [hs] at hr
        match q, hr with
        | .inl (pc', ls', st', h'), hr => exact ih _ _ _ _ _ _ _ hr _ _ hm hd
        | .inr (.inl v), hr => exact hr
        | .inr (.inr k), hr =>
          dsimp only at hr ⊢
          cases d with
          | zero => cases hr
          | succ d0 =>
            obtain ⟨e, rfl⟩ : ∃ e, d' = e + 1 := ⟨d' - 1, by omega⟩
            dsimp only at hr ⊢
            cases hp : ev_pr k with
            | none =>
              rw [hp] at hr
              dsimp only at hr ⊢
              split at hr
              next => exact ih _ _ _ _ _ _ _ hr _ _ hm hd
              next => cases hr
            | some M =>
              obtain ⟨cd', mL, np, own⟩ := M
              rw [hp] at hr
              dsimp only at hr ⊢
              cases hc : (ev_cok i st np own h && Nat.ble (ev_wd (st.take np)) mL) with
              | false => rw [hc] at hr; cases hr
              | true =>
                rw [hc] at hr
                dsimp only at hr ⊢
                cases he : ev_E scr n d0 cd' 0 (ev_lay (st.take np).reverse mL) [] h with
                | none => rw [he] at hr; cases hr
                | some w =>
                  obtain ⟨v, h'⟩ := w
                  rw [he] at hr
                  rw [ih _ _ _ _ _ _ _ he m e hm (by omega)]
                  exact ih _ _ _ _ _ _ _ hr _ _ hm hd
section EV
variable {scr : List Int32} {d : Nat} {cd : List ev_I} {pc : Nat} {ls st : List Value} {h : ev_H} {r : Option Value × ev_H}
theorem ev_V.more {d' : Nat} (hd : d ≤ d') (H : ev_V scr d cd pc ls st h r) : ev_V scr d' cd pc ls st h r := by
  obtain ⟨n, e⟩ := H
  exact ⟨n, ev_mono scr _ _ _ _ _ _ _ _ e _ _ (Nat.le_refl n) hd⟩
theorem ev_step {i : ev_I} {pc' : Nat} {ls' st' : List Value} {h' : ev_H} (hf : ev_ft cd pc = some i) (hs : ev_S scr i pc ls st h = some (.inl (pc', ls', st', h'))) (K : ev_V scr d cd pc' ls' st' h' r) : ev_V scr d cd pc ls st h r := by
  obtain ⟨n, e⟩ := K
  refine ⟨n + 1, ?_⟩
  unfold ev_E
  rw [hf]
  dsimp only
  rw [hs]
  exact e
theorem ev_ret {i : ev_I} {v : Option Value} (hf : ev_ft cd pc = some i) (hs : ev_S scr i pc ls st h = some (.inr (.inl v))) : ev_V scr d cd pc ls st h (v, h) := by
  refine ⟨1, ?_⟩
  unfold ev_E
  rw [hf]
  dsimp only
  rw [hs]
theorem ev_call {i : ev_I} {k d' : Nat} {cd' : List ev_I} {mL np own : Nat} {v : Option Value} {h' : ev_H} (hf : ev_ft cd pc = some i) (hs : ev_S scr i pc ls st h = some (.inr (.inr k))) (hp : ev_pr k = some (cd', mL, np, own)) (hc : (ev_cok i st np own h && Nat.ble (ev_wd (st.take np)) mL) = true) (hd : d' < d)
    (C : ev_V scr d' cd' 0 (ev_lay (st.take np).reverse mL) [] h (v, h')) (K : ev_V scr d cd (pc + 1) ls (v.toList ++ st.drop np) h' r) : ev_V scr d cd pc ls st h r := by
  obtain ⟨d0, rfl⟩ : ∃ d0, d = d0 + 1 := ⟨d - 1, by omega⟩
  obtain ⟨n1, e1⟩ := C
  obtain ⟨n2, e2⟩ := K
  refine ⟨max n1 n2 + 1, ?_⟩
  unfold ev_E
  rw [hf]
  dsimp only
  rw [hs]
  dsimp only
  rw [hp]
  dsimp only
  rw [hc]
  dsimp only
  rw [ev_mono scr _ _ _ _ _ _ _ _ e1 (max n1 n2) d0 (by omega) (by omega)]
  exact ev_mono scr _ _ _ _ _ _ _ _ e2 _ _ (by omega) (Nat.le_refl _)
/-- as far as it goes without cells and without turning off -/
def ev_run : Nat → List ev_I → Nat → List Value → List Value → Nat × List Value × List Value
  | 0, _, pc, ls, st => (pc, ls, st)
  | n + 1, cd, pc, ls, st => match ev_ft cd pc with
    | none => (pc, ls, st)
    | some i => match ev_xP i pc ls st with
      | none => (pc, ls, st)
      | some (pc', ls', st') => ev_run n cd pc' ls' st'
theorem ev_go (n : Nat) {pc' : Nat} {ls' st' : List Value} (hr : ev_run n cd pc ls st = (pc', ls', st')) (K : ev_V scr d cd pc' ls' st' h r) : ev_V scr d cd pc ls st h r := by
  induction n generalizing pc ls st with
  | zero => cases hr; exact K
  | succ n ih =>
    unfold ev_run at hr
    cases hf : ev_ft cd pc with
    | none => rw [hf] at hr; cases hr; exact K
    | some i =>
      rw [hf] at hr
      dsimp only at hr
      cases hx : ev_xP i pc ls st with
      | none => rw [hx] at hr; cases hr; exact K
      | some q =>
        obtain ⟨p1, l1, s1⟩ := q
        rw [hx] at hr
        refine ev_step (pc' := p1) (ls' := l1) (st' := s1) (h' := h) hf ?_ (ih hr)
        unfold ev_S
        rw [hx]
end EV
end
section
section ER
variable {scr : List Int32} {d : Nat} {cd : List ev_I} {pc : Nat} {ls st : List Value} {h : ev_H} {r : Option Value × ev_H}
theorem ev_nop (hf : ev_ft cd pc = some (.inl .nop)) (K : ev_V scr d cd (pc + 1) ls st h r) : ev_V scr d cd pc ls st h r := ev_step hf rfl K
theorem ev_getf {i a c : Nat} {vs : List Value} {v : Value} (hf : ev_ft cd pc = some (.inl (.getfield i))) (hh : h[a]? = some (.inr (c, vs))) (hc : Nat.beq c (i / 32) = true) (hv : vs[i % 32]? = some v) (K : ev_V scr d cd (pc + 1) ls (v :: st) h r) : ev_V scr d cd pc ls (.ref a :: st) h r := by
  refine ev_step hf (pc' := pc + 1) (ls' := ls) (st' := v :: st) (h' := h) ?_ K
  simp only [ev_S, ev_xP, ev_xB, ev_xH, hh, hc, hv]
theorem ev_putf {i a c : Nat} {vs : List Value} {x : Int32} (hf : ev_ft cd pc = some (.inl (.putfield i))) (hh : h[a]? = some (.inr (c, vs))) (hc : Nat.beq c (i / 32) = true) (hl : Nat.blt (i % 32) vs.length = true) (K : ev_V scr d cd (pc + 1) ls st (h.set a (.inr (c, vs.set (i % 32) (.int x)))) r) : ev_V scr d cd pc ls (.int x :: .ref a :: st) h r := by
  refine ev_step hf ?_ K
  simp only [ev_S, ev_xP, ev_xB, ev_xH, hh, hc, hl]
theorem ev_putz {i a c n : Nat} {vs : List Value} {x : Int32} (hf : ev_ft cd pc = some (.inl (.multianewarray i n))) (hh : h[a]? = some (.inr (c, vs))) (hc : Nat.beq c (i / 32) = true) (hl : Nat.blt (i % 32) vs.length = true) (hz : ev_bz x = true) (K : ev_V scr d cd (pc + 1) ls st (h.set a (.inr (c, vs.set (i % 32) (.int x)))) r) : ev_V scr d cd pc ls (.int x :: .ref a :: st) h r := by
  refine ev_step hf ?_ K
  simp only [ev_S, ev_xP, ev_xB, ev_xH, hh, hc, hl, hz]
theorem ev_putr {i a c b : Nat} {vs : List Value} (hf : ev_ft cd pc = some (.inl (.putstatic i))) (hh : h[a]? = some (.inr (c, vs))) (hc : Nat.beq c (i / 32) = true) (hl : Nat.blt (i % 32) vs.length = true) (K : ev_V scr d cd (pc + 1) ls st (h.set a (.inr (c, vs.set (i % 32) (.ref b)))) r) : ev_V scr d cd pc ls (.ref b :: .ref a :: st) h r := by
  refine ev_step hf ?_ K
  simp only [ev_S, ev_xP, ev_xB, ev_xH, hh, hc, hl]
theorem ev_in_of {j : Int32} {n L : Nat} (hj : j = nI n) (hn : n < L) (hb : n < 1000) : ev_in j L = true ∧ j.toNatClampNeg = n := by
  subst hj
  have hc : (nI n).toNatClampNeg = n := nI_clamp (by omega)
  refine ⟨?_, hc⟩
  simp only [ev_in, hc, Bool.not_eq_true', Bool.or_eq_false_iff, decide_eq_false_iff_not]
  exact ⟨nI_pos (by omega), by omega⟩
theorem ev_iald (n : Nat) {a : Nat} {j x : Int32} {xs : List Int32} (hf : ev_ft cd pc = some (.inl .iaload)) (hh : h[a]? = some (.inl (0, xs))) (hj : j = nI n) (hn : n < xs.length) (hb : n < 1000) (hx : xs.getD n 0 = x) (K : ev_V scr d cd (pc + 1) ls (.int x :: st) h r) : ev_V scr d cd pc ls (.int j :: .ref a :: st) h r := by
  obtain ⟨h1, h2⟩ := ev_in_of hj hn hb
  refine ev_step hf (pc' := pc + 1) (ls' := ls) (st' := .int x :: st) (h' := h) ?_ K
  simp only [ev_S, ev_xP, ev_xB, ev_xH, hh, h1, h2, hx]
theorem ev_bald (n : Nat) {a : Nat} {j x : Int32} {xs : List Int32} (hf : ev_ft cd pc = some (.inl .baload)) (hh : h[a]? = some (.inl (1, xs)) ∨ h[a]? = some (.inl (2, xs))) (hj : j = nI n) (hn : n < xs.length) (hb : n < 1000) (hx : xs.getD n 0 = x) (K : ev_V scr d cd (pc + 1) ls (.int x :: st) h r) : ev_V scr d cd pc ls (.int j :: .ref a :: st) h r := by
  obtain ⟨h1, h2⟩ := ev_in_of hj hn hb
  refine ev_step hf (pc' := pc + 1) (ls' := ls) (st' := .int x :: st) (h' := h) ?_ K
  rcases hh with hh | hh <;> simp only [ev_S, ev_xP, ev_xB, ev_xH, hh, h1, h2, hx]
theorem ev_iast (n : Nat) {a : Nat} {j x : Int32} {xs : List Int32} (hf : ev_ft cd pc = some (.inl .iastore)) (hh : h[a]? = some (.inl (0, xs))) (hj : j = nI n) (hn : n < xs.length) (hb : n < 1000) (K : ev_V scr d cd (pc + 1) ls st (h.set a (.inl (0, xs.set n x))) r) : ev_V scr d cd pc ls (.int x :: .int j :: .ref a :: st) h r := by
  obtain ⟨h1, h2⟩ := ev_in_of hj hn hb
  refine ev_step hf (pc' := pc + 1) (ls' := ls) (st' := st) (h' := h.set a (.inl (0, xs.set n x))) ?_ K
  simp only [ev_S, ev_xP, ev_xB, ev_xH, hh, h1, h2]
theorem ev_bast1 (n : Nat) {a : Nat} {j x : Int32} {xs : List Int32} (hf : ev_ft cd pc = some (.inl .bastore)) (hh : h[a]? = some (.inl (1, xs))) (hj : j = nI n) (hn : n < xs.length) (hb : n < 1000) (K : ev_V scr d cd (pc + 1) ls st (h.set a (.inl (1, xs.set n (vp_nar .byte x)))) r) : ev_V scr d cd pc ls (.int x :: .int j :: .ref a :: st) h r := by
  obtain ⟨h1, h2⟩ := ev_in_of hj hn hb
  refine ev_step hf (pc' := pc + 1) (ls' := ls) (st' := st) (h' := h.set a (.inl (1, xs.set n (vp_nar .byte x)))) ?_ K
  simp only [ev_S, ev_xP, ev_xB, ev_xH, hh, h1, h2]
theorem ev_bast2 (n : Nat) {a : Nat} {j x : Int32} {xs : List Int32} (hf : ev_ft cd pc = some (.inl .bastore)) (hh : h[a]? = some (.inl (2, xs))) (hj : j = nI n) (hn : n < xs.length) (hb : n < 1000) (K : ev_V scr d cd (pc + 1) ls st (h.set a (.inl (2, xs.set n (vp_nar .boolean x)))) r) : ev_V scr d cd pc ls (.int x :: .int j :: .ref a :: st) h r := by
  obtain ⟨h1, h2⟩ := ev_in_of hj hn hb
  refine ev_step hf (pc' := pc + 1) (ls' := ls) (st' := st) (h' := h.set a (.inl (2, xs.set n (vp_nar .boolean x)))) ?_ K
  simp only [ev_S, ev_xP, ev_xB, ev_xH, hh, h1, h2]
theorem ev_aald (n : Nat) {a b c : Nat} {j : Int32} {vs : List Value} (hf : ev_ft cd pc = some (.inl .aaload)) (hh : h[a]? = some (.inr (c, vs))) (hc : (Nat.beq c 14 || Nat.beq c 12) = true) (hj : j = nI n) (hn : n < vs.length) (hb : n < 1000) (hx : vs[n]? = some (.ref b)) (K : ev_V scr d cd (pc + 1) ls (.ref b :: st) h r) : ev_V scr d cd pc ls (.int j :: .ref a :: st) h r := by
  obtain ⟨h1, h2⟩ := ev_in_of hj hn hb
  refine ev_step hf (pc' := pc + 1) (ls' := ls) (st' := .ref b :: st) (h' := h) ?_ K
  simp only [ev_S, ev_xP, ev_xB, ev_xH, hh, hc, h1, h2, hx]
/-- out of the script, out of rows that nobody writes -/
theorem ev_fald (n : Nat) {a : Nat} {j x : Int32} {xs : List Int32} (hf : ev_ft cd pc = some (.inl .faload)) (ha : Nat.blt a 4 = true) (hh : ev_ro scr a = some xs) (hj : j = nI n) (hn : n < xs.length) (hb : n < 1000) (hx : xs.getD n 0 = x) (K : ev_V scr d cd (pc + 1) ls (.int x :: st) h r) : ev_V scr d cd pc ls (.int j :: .retAddr a :: st) h r := by
  obtain ⟨h1, h2⟩ := ev_in_of hj hn hb
  refine ev_step hf (pc' := pc + 1) (ls' := ls) (st' := .int x :: st) (h' := h) ?_ K
  simp only [ev_S, ev_xP, ev_xB, ev_xH, ha, hh, h1, h2, hx]
theorem ev_cald (n : Nat) {a : Nat} {j x : Int32} {xs : List Int32} (hf : ev_ft cd pc = some (.inl .caload)) (ha : Nat.blt a 20 = false) (hh : ev_ro scr a = some xs) (hj : j = nI n) (hn : n < xs.length) (hb : n < 1000) (hx : xs.getD n 0 = x) (K : ev_V scr d cd (pc + 1) ls (.int x :: st) h r) : ev_V scr d cd pc ls (.int j :: .retAddr a :: st) h r := by
  obtain ⟨h1, h2⟩ := ev_in_of hj hn hb
  refine ev_step hf (pc' := pc + 1) (ls' := ls) (st' := .int x :: st) (h' := h) ?_ K
  simp only [ev_S, ev_xP, ev_xB, ev_xH, ha, hh, h1, h2, hx]
theorem ev_alen {a : Nat} {xs : List Int32} (hf : ev_ft cd pc = some (.inl .arraylength)) (hh : ev_ro scr a = some xs) (K : ev_V scr d cd (pc + 1) ls (.int (Int32.ofNat xs.length) :: st) h r) : ev_V scr d cd pc ls (.retAddr a :: st) h r := by
  refine ev_step hf (pc' := pc + 1) (ls' := ls) (st' := .int (Int32.ofNat xs.length) :: st) (h' := h) ?_ K
  simp only [ev_S, ev_xP, ev_xB, ev_xH, hh]
theorem ev_cbr {c : ClassFile.Cond} {x y : Int32} {t : Int} (b : Bool) (hb : ev_cb c x y = b) (hf : ev_ft cd pc = some (.inl (.if_icmp c t))) (K : ev_V scr d cd (ev_br b t.toNat (pc + 1)) ls st h r) : ev_V scr d cd pc ls (.int y :: .int x :: st) h r := by
  refine ev_step hf ?_ K
  simp only [ev_S, ev_xP, ev_xB, hb]
theorem ev_cbr0 {c : ClassFile.Cond} {x : Int32} {t : Int} (b : Bool) (hb : ev_cb c x 0 = b) (hf : ev_ft cd pc = some (.inl (.ifCond c t))) (K : ev_V scr d cd (ev_br b t.toNat (pc + 1)) ls st h r) : ev_V scr d cd pc ls (.int x :: st) h r := by
  refine ev_step hf ?_ K
  simp only [ev_S, ev_xP, ev_xB, hb]
theorem ev_ieq {x y : Int32} {t : Int} (hf : ev_ft cd pc = some (.inl (.if_icmp .eq t))) (kt : x = y → ev_V scr d cd t.toNat ls st h r) (kf : ¬ x = y → ev_V scr d cd (pc + 1) ls st h r) : ev_V scr d cd pc ls (.int y :: .int x :: st) h r := by
  by_cases hc : x = y
  · exact ev_cbr (c := .eq) true (decide_eq_true hc) hf (kt hc)
  · exact ev_cbr (c := .eq) false (decide_eq_false hc) hf (kf hc)
theorem ev_zeq {x : Int32} {t : Int} (hf : ev_ft cd pc = some (.inl (.ifCond .eq t))) (kt : x = 0 → ev_V scr d cd t.toNat ls st h r) (kf : ¬ x = 0 → ev_V scr d cd (pc + 1) ls st h r) : ev_V scr d cd pc ls (.int x :: st) h r := by
  by_cases hc : x = 0
  · exact ev_cbr0 (c := .eq) true (decide_eq_true hc) hf (kt hc)
  · exact ev_cbr0 (c := .eq) false (decide_eq_false hc) hf (kf hc)
theorem ev_ine {x y : Int32} {t : Int} (hf : ev_ft cd pc = some (.inl (.if_icmp .ne t))) (kt : ¬ x = y → ev_V scr d cd t.toNat ls st h r) (kf : x = y → ev_V scr d cd (pc + 1) ls st h r) : ev_V scr d cd pc ls (.int y :: .int x :: st) h r := by
  by_cases hc : ¬ x = y
  · exact ev_cbr (c := .ne) true (decide_eq_true hc) hf (kt hc)
  · exact ev_cbr (c := .ne) false (decide_eq_false hc) hf (kf (Decidable.not_not.mp hc))
theorem ev_zne {x : Int32} {t : Int} (hf : ev_ft cd pc = some (.inl (.ifCond .ne t))) (kt : ¬ x = 0 → ev_V scr d cd t.toNat ls st h r) (kf : x = 0 → ev_V scr d cd (pc + 1) ls st h r) : ev_V scr d cd pc ls (.int x :: st) h r := by
  by_cases hc : ¬ x = 0
  · exact ev_cbr0 (c := .ne) true (decide_eq_true hc) hf (kt hc)
  · exact ev_cbr0 (c := .ne) false (decide_eq_false hc) hf (kf (Decidable.not_not.mp hc))
theorem ev_ilt {x y : Int32} {t : Int} (hf : ev_ft cd pc = some (.inl (.if_icmp .lt t))) (kt : x < y → ev_V scr d cd t.toNat ls st h r) (kf : ¬ x < y → ev_V scr d cd (pc + 1) ls st h r) : ev_V scr d cd pc ls (.int y :: .int x :: st) h r := by
  by_cases hc : x < y
  · exact ev_cbr (c := .lt) true (decide_eq_true hc) hf (kt hc)
  · exact ev_cbr (c := .lt) false (decide_eq_false hc) hf (kf hc)
theorem ev_zlt {x : Int32} {t : Int} (hf : ev_ft cd pc = some (.inl (.ifCond .lt t))) (kt : x < 0 → ev_V scr d cd t.toNat ls st h r) (kf : ¬ x < 0 → ev_V scr d cd (pc + 1) ls st h r) : ev_V scr d cd pc ls (.int x :: st) h r := by
  by_cases hc : x < 0
  · exact ev_cbr0 (c := .lt) true (decide_eq_true hc) hf (kt hc)
  · exact ev_cbr0 (c := .lt) false (decide_eq_false hc) hf (kf hc)
theorem ev_ige {x y : Int32} {t : Int} (hf : ev_ft cd pc = some (.inl (.if_icmp .ge t))) (kt : y ≤ x → ev_V scr d cd t.toNat ls st h r) (kf : ¬ y ≤ x → ev_V scr d cd (pc + 1) ls st h r) : ev_V scr d cd pc ls (.int y :: .int x :: st) h r := by
  by_cases hc : y ≤ x
  · exact ev_cbr (c := .ge) true (decide_eq_true hc) hf (kt hc)
  · exact ev_cbr (c := .ge) false (decide_eq_false hc) hf (kf hc)
theorem ev_zge {x : Int32} {t : Int} (hf : ev_ft cd pc = some (.inl (.ifCond .ge t))) (kt : 0 ≤ x → ev_V scr d cd t.toNat ls st h r) (kf : ¬ 0 ≤ x → ev_V scr d cd (pc + 1) ls st h r) : ev_V scr d cd pc ls (.int x :: st) h r := by
  by_cases hc : 0 ≤ x
  · exact ev_cbr0 (c := .ge) true (decide_eq_true hc) hf (kt hc)
  · exact ev_cbr0 (c := .ge) false (decide_eq_false hc) hf (kf hc)
theorem ev_igt {x y : Int32} {t : Int} (hf : ev_ft cd pc = some (.inl (.if_icmp .gt t))) (kt : y < x → ev_V scr d cd t.toNat ls st h r) (kf : ¬ y < x → ev_V scr d cd (pc + 1) ls st h r) : ev_V scr d cd pc ls (.int y :: .int x :: st) h r := by
  by_cases hc : y < x
  · exact ev_cbr (c := .gt) true (decide_eq_true hc) hf (kt hc)
  · exact ev_cbr (c := .gt) false (decide_eq_false hc) hf (kf hc)
theorem ev_zgt {x : Int32} {t : Int} (hf : ev_ft cd pc = some (.inl (.ifCond .gt t))) (kt : 0 < x → ev_V scr d cd t.toNat ls st h r) (kf : ¬ 0 < x → ev_V scr d cd (pc + 1) ls st h r) : ev_V scr d cd pc ls (.int x :: st) h r := by
  by_cases hc : 0 < x
  · exact ev_cbr0 (c := .gt) true (decide_eq_true hc) hf (kt hc)
  · exact ev_cbr0 (c := .gt) false (decide_eq_false hc) hf (kf hc)
theorem ev_ile {x y : Int32} {t : Int} (hf : ev_ft cd pc = some (.inl (.if_icmp .le t))) (kt : x ≤ y → ev_V scr d cd t.toNat ls st h r) (kf : ¬ x ≤ y → ev_V scr d cd (pc + 1) ls st h r) : ev_V scr d cd pc ls (.int y :: .int x :: st) h r := by
  by_cases hc : x ≤ y
  · exact ev_cbr (c := .le) true (decide_eq_true hc) hf (kt hc)
  · exact ev_cbr (c := .le) false (decide_eq_false hc) hf (kf hc)
theorem ev_zle {x : Int32} {t : Int} (hf : ev_ft cd pc = some (.inl (.ifCond .le t))) (kt : x ≤ 0 → ev_V scr d cd t.toNat ls st h r) (kf : ¬ x ≤ 0 → ev_V scr d cd (pc + 1) ls st h r) : ev_V scr d cd pc ls (.int x :: st) h r := by
  by_cases hc : x ≤ 0
  · exact ev_cbr0 (c := .le) true (decide_eq_true hc) hf (kt hc)
  · exact ev_cbr0 (c := .le) false (decide_eq_false hc) hf (kf hc)
theorem ev_idiv {x y v : Int32} (hf : ev_ft cd pc = some (.inl .idiv)) (hy : ¬ y = 0) (hv : x / y = v) (K : ev_V scr d cd (pc + 1) ls (.int v :: st) h r) : ev_V scr d cd pc ls (.int y :: .int x :: st) h r := by
  refine ev_step hf (pc' := pc + 1) (ls' := ls) (st' := .int v :: st) (h' := h) ?_ K
  simp only [ev_S, ev_xP, ev_xB, hy, if_false, hv]
theorem ev_irem {x y v : Int32} (hf : ev_ft cd pc = some (.inl .irem)) (hy : ¬ y = 0) (hv : x - x / y * y = v) (K : ev_V scr d cd (pc + 1) ls (.int v :: st) h r) : ev_V scr d cd pc ls (.int y :: .int x :: st) h r := by
  refine ev_step hf (pc' := pc + 1) (ls' := ls) (st' := .int v :: st) (h' := h) ?_ K
  simp only [ev_S, ev_xP, ev_xB, hy, if_false, hv]
theorem ev_ldiv {x y v : Int64} (hf : ev_ft cd pc = some (.inl .ldiv)) (hy : ¬ y = 0) (hv : x / y = v) (K : ev_V scr d cd (pc + 1) ls (.long v :: st) h r) : ev_V scr d cd pc ls (.long y :: .long x :: st) h r := by
  refine ev_step hf (pc' := pc + 1) (ls' := ls) (st' := .long v :: st) (h' := h) ?_ K
  simp only [ev_S, ev_xP, ev_xB, hy, if_false, hv]
theorem ev_lrem {x y v : Int64} (hf : ev_ft cd pc = some (.inl .lrem)) (hy : ¬ y = 0) (hv : x - x / y * y = v) (K : ev_V scr d cd (pc + 1) ls (.long v :: st) h r) : ev_V scr d cd pc ls (.long y :: .long x :: st) h r := by
  refine ev_step hf (pc' := pc + 1) (ls' := ls) (st' := .long v :: st) (h' := h) ?_ K
  simp only [ev_S, ev_xP, ev_xB, hy, if_false, hv]
theorem ev_tsw {x : Int32} {d0 lo hi : Int} {offs : Array Int} {t : Nat} (hf : ev_ft cd pc = some (.inl (.tableswitch d0 lo hi offs))) (ht : (if x.toInt < lo ∨ hi < x.toInt then d0.toNat else (offs.toList.getD (x.toInt - lo).toNat d0).toNat) = t) (K : ev_V scr d cd t ls st h r) : ev_V scr d cd pc ls (.int x :: st) h r := by
  refine ev_step hf ?_ K
  simp only [ev_S, ev_xP, ev_xB, ht]
theorem ev_lsw {x : Int32} {d0 : Int} {ps : Array (Int × Int)} {t : Nat} (hf : ev_ft cd pc = some (.inl (.lookupswitch d0 ps))) (ht : (Op.lookupswitch.offset ps.toList d0 x.toInt).toNat = t) (K : ev_V scr d cd t ls st h r) : ev_V scr d cd pc ls (.int x :: st) h r := by
  refine ev_step hf ?_ K
  simp only [ev_S, ev_xP, ev_xB, ht]
theorem ev_iret {x : Int32} (hf : ev_ft cd pc = some (.inl .ireturn)) : ev_V scr d cd pc ls [.int x] h (some (.int x), h) := ev_ret hf rfl
theorem ev_lret {x : Int64} (hf : ev_ft cd pc = some (.inl .lreturn)) : ev_V scr d cd pc ls [.long x] h (some (.long x), h) := ev_ret hf rfl
theorem ev_vret (hf : ev_ft cd pc = some (.inl .return_)) : ev_V scr d cd pc ls [] h (none, h) := ev_ret hf rfl
theorem ev_tret {x : Int32} {t : Nat} (hf : ev_ft cd pc = some (.inl (.ret t))) (hn : ev_nrw t x = true) : ev_V scr d cd pc ls [.int x] h (some (.int x), h) := by
  refine ev_ret hf ?_
  simp only [ev_S, ev_xP, ev_xB, ev_xH, ev_xR, hn]
theorem ev_aret {x : Nat} (hf : ev_ft cd pc = some (.inl .areturn)) (hx : Nat.beq x 4 = false) : ev_V scr d cd pc ls [.retAddr x] h (some (.retAddr x), h) := by
  refine ev_ret hf ?_
  simp only [ev_S, ev_xP, ev_xB, ev_xH, ev_xR, hx]
theorem ev_cs {k d' : Nat} {cd' : List ev_I} {mL np own : Nat} {v : Option Value} {h' : ev_H} (hf : ev_ft cd pc = some (.inl (.invokestatic k))) (hp : ev_pr k = some (cd', mL, np, own)) (hl : (Nat.ble np st.length && Nat.ble (st.drop np).length 4 && Nat.ble (ev_wd (st.take np)) mL) = true) (hd : d' < d)
    (C : ev_V scr d' cd' 0 (ev_lay (st.take np).reverse mL) [] h (v, h')) (K : ev_V scr d cd (pc + 1) ls (v.toList ++ st.drop np) h' r) : ev_V scr d cd pc ls st h r := by
  refine ev_call hf (k := k) ?_ hp ?_ hd C K
  · simp only [ev_S, ev_xP, ev_xB, ev_xH, ev_xR, ev_xC]
  · rw [Bool.and_eq_true] at hl
    simp only [ev_cok, hl.1, hl.2, Bool.and_true]
theorem ev_cv {k d' b : Nat} {cd' : List ev_I} {mL np own : Nat} {vs : List Value} {v : Option Value} {h' : ev_H} (hf : ev_ft cd pc = some (.inl (.invokevirtual k))) (hp : ev_pr k = some (cd', mL, np, own)) (hl : (Nat.ble np st.length && Nat.ble (st.drop np).length 4 && Nat.ble (ev_wd (st.take np)) mL) = true) (hb : ev_lg (st.take np).reverse 0 = some (.ref b)) (hh : h[b]? = some (.inr (own, vs))) (ho : Nat.blt own 7 = true) (hd : d' < d)
    (C : ev_V scr d' cd' 0 (ev_lay (st.take np).reverse mL) [] h (v, h')) (K : ev_V scr d cd (pc + 1) ls (v.toList ++ st.drop np) h' r) : ev_V scr d cd pc ls st h r := by
  refine ev_call hf (k := k) ?_ hp ?_ hd C K
  · simp only [ev_S, ev_xP, ev_xB, ev_xH, ev_xR, ev_xC]
  · have e : Nat.beq own own = true := Nat.beq_refl own
    rw [Bool.and_eq_true] at hl
    simp only [ev_cok, hl.1, hl.2, hb, ev_rec, hh, ho, e, Bool.and_self]
theorem ev_ct {k d' b : Nat} {cd' : List ev_I} {mL np : Nat} {v : Option Value} {h' : ev_H} (hf : ev_ft cd pc = some (.inl (.invokevirtual k))) (hp : ev_pr k = some (cd', mL, np, 10)) (hl : (Nat.ble np st.length && Nat.ble (st.drop np).length 4 && Nat.ble (ev_wd (st.take np)) mL) = true) (hb : ev_lg (st.take np).reverse 0 = some (.retAddr b)) (hh : (Nat.blt 9 b && Nat.blt b 18) = true) (hd : d' < d)
    (C : ev_V scr d' cd' 0 (ev_lay (st.take np).reverse mL) [] h (v, h')) (K : ev_V scr d cd (pc + 1) ls (v.toList ++ st.drop np) h' r) : ev_V scr d cd pc ls st h r := by
  refine ev_call hf (k := k) ?_ hp ?_ hd C K
  · simp only [ev_S, ev_xP, ev_xB, ev_xH, ev_xR, ev_xC]
  · simp only [Bool.and_eq_true] at hh
    rw [Bool.and_eq_true] at hl
    simp only [ev_cok, hl.1, hl.2, hb, ev_rec, hh.1, hh.2, show Nat.beq 10 10 = true from rfl, Bool.and_self]
end ER
end
section
/-! The machine of our own and the kit's: how the one's cells lie in the other's heap. -/
theorem ev_plain : ((List.range 214).all (fun i => plainFor (ev_y i))) = true := by decide +kernel
theorem ev_desc : ((List.range 214).all (fun i => decide ((ev_y i).cls = ev_cn (ev_o i)) && decide ((ev_y i).cls ≠ "java/lang/invoke/MethodHandle") && decide ((ev_y i).cls ≠ "java/lang/invoke/VarHandle") && decide (ev_L i ≤ 40) && decide ((ev_pb i).getD 0 0 = 0) && decide (ev_o i < 13))) = true := by decide +kernel
def ev_isSt (mi : Nat) : Bool := ev_stm.any (fun e => Nat.beq e.1 mi)
theorem ev_desc2 : ((List.range 213).all (fun i => decide ((parseMethodDescriptor (ev_y i).desc).map (fun d => d.parameters.length) = some (if ev_isSt i then ev_np i else ev_np i - 1)))) = true := by decide +kernel
theorem ev_len : ev_ml.length = 214 := by decide +kernel
theorem ev_all {n : Nat} {f : Nat → Bool} (h : (List.range n).all f = true) {i : Nat} (hi : i < n) : f i = true := List.all_eq_true.mp h i (List.mem_range.mpr hi)
theorem ev_pr_of {k : Nat} {cd' : List ev_I} {mL np own : Nat} (h : ev_pr k = some (cd', mL, np, own)) : k < 214 ∧ cd' = ev_cd k ∧ mL = ev_L k ∧ np = ev_np k ∧ own = ev_o k := by
  unfold ev_pr at h
  cases hm : ev_ml[k]? with
  | none => rw [hm] at h; cases h
  | some M =>
    obtain ⟨y, b, mL0, rt, np0, own0, cd0, pb0⟩ := M
    rw [hm] at h
    cases h
    have hl := (List.getElem?_eq_some_iff.mp hm).1
    have hM : ev_M k = (y, b, mL, rt, np, own, cd', pb0) := by
      unfold ev_M
      rw [List.getD_eq_getElem?_getD, hm]
      rfl
    exact ⟨by rw [← ev_len]; exact hl, by rw [ev_cd, hM], by rw [ev_L, hM], by rw [ev_np, hM], by rw [ev_o, hM]⟩
section WORLD
variable (base : Nat) (ra : Nat → Nat) (fv : Value) (aC : Nat → ClassId)
def ev_vl : Value → Value
  | .ref k => .ref (base + k)
  | .retAddr k => if k = 4 then fv else .ref (ra k)
  | v => v
def ev_rf : Value → Option Nat
  | .ref k => some (base + k)
  | _ => none
def ev_ce (c : ev_C) : va_E := match c with
  | .inl (t, xs) => .inl (aC t, xs.length, .inl (fun j => xs.getD j 0))
  | .inr (c, vs) => if c < 7 then .inr (c, vs.map (ev_vl base ra fv)) else .inl (aC c, vs.length, .inr (.inr (.inr (.inr (fun j => ev_rf base (vs.getD j .null))))))
def ev_cw (h : ev_H) : va_W := h.mapIdx (fun k c => (base + k, ev_ce base ra fv aC c))
def ev_A : Nat → Prop := fun q => base ≤ q
abbrev ev_tys : List (ClassId × FieldType) := [(aC 0, .int), (aC 1, .byte), (aC 2, .boolean), (aC 14, .object RX4), (aC 12, .object RX2)]
theorem ev_cw_get {h : ev_H} {k : Nat} {c : ev_C} (hk : h[k]? = some c) : (ev_cw base ra fv aC h)[k]? = some (base + k, ev_ce base ra fv aC c) := by
  unfold ev_cw
  rw [List.getElem?_mapIdx, hk]
  rfl
theorem ev_cw_set (h : ev_H) (k : Nat) (c : ev_C) : ev_cw base ra fv aC (h.set k c) = (ev_cw base ra fv aC h).set k (base + k, ev_ce base ra fv aC c) := by
  apply List.ext_getElem?
  intro i
  unfold ev_cw
  rw [List.getElem?_mapIdx, List.getElem?_set, List.getElem?_set, List.getElem?_mapIdx, List.length_mapIdx]
  by_cases hi : k = i
  · subst hi
    rw [if_pos rfl, if_pos rfl]
    split <;> rfl
  · rw [if_neg hi, if_neg hi]
theorem ev_cw_app (h : ev_H) (c : ev_C) : ev_cw base ra fv aC (h ++ [c]) = ev_cw base ra fv aC h ++ [(base + h.length, ev_ce base ra fv aC c)] := by
  unfold ev_cw
  rw [List.mapIdx_concat]
theorem ev_cw_D (h : ev_H) : va_D (ev_A base) (ev_cw base ra fv aC h) := by
  have key : ∀ (i : Nat) (q : Nat × va_E), (ev_cw base ra fv aC h)[i]? = some q → q.1 = base + i := by
    intro i q hq
    unfold ev_cw at hq
    rw [List.getElem?_mapIdx] at hq
    cases hi : h[i]? with
    | none => rw [hi] at hq; cases hq
    | some c => rw [hi] at hq; cases hq; rfl
  refine ⟨fun i j p q hp hq e => ?_, fun k q hk => ?_⟩
  · have h1 := key i p hp
    have h2 := key j q hq
    omega
  · show base ≤ q.1
    rw [key k q hk]
    omega
variable (D : va_G) (scr : List Int32)
/-- what was there before, and nobody writes -/
def ev_RO (U : State) (H : Heap) : Prop :=
  (∀ k xs, ev_ro scr k = some xs → va_T (if k < 4 then .int else .byte) (ra k) xs.length (fun j => .int (xs.getD j 0)) (ev_A base) U H) ∧
  (∀ i, i < 8 → va_O "java/lang/String" (ra (10 + i)) (ev_A base) U H ∧ va_OF "java/lang/String" "coder" "B" (.int 0) (ra (10 + i)) (ev_A base) U H ∧ va_OF "java/lang/String" "value" "[B" (.ref (ra (20 + i))) (ra (10 + i)) (ev_A base) U H) ∧
  (∀ e ∈ ev_strs, vk_R RX3 e.1 (ev_txt (e.2 - 10)) (ra e.2) U) ∧
  (∀ j, j < 5 → va_Z (ev_sf j).1 (ev_sf j).2.1 (ev_sf j).2.2 (ev_vl base ra fv (ev_sv j)) (ev_A base) U H) ∧
  (∀ e ∈ ev_mns, va_Nw (.methodLinkNest (ev_cn e.2.1) e.2.2.1 (ev_y e.2.2.2) "TenPledges") U) ∧
  va_AO RX4 U ∧ va_AO RX2 U
theorem ev_RO.kept {U : State} {H H1 : Heap} (h : ev_RO base ra fv scr U H) (hq : ∀ a : Nat, a < H.size → ¬ ev_A base a → H1[a]? = H[a]?) : ev_RO base ra fv scr U H1 := by
  obtain ⟨h1, h2, h3, h4, h5⟩ := h
  exact ⟨fun k xs e => (h1 k xs e).kept hq, fun i hi => ⟨(h2 i hi).1.kept hq, (h2 i hi).2.1.kept hq, (h2 i hi).2.2.kept hq⟩, h3, fun j hj => (h4 j hj).kept hq, h5⟩
theorem ev_RO.same {u U : State} {H : Heap} (hv : U.vm = u.vm) (h : ev_RO base ra fv scr u H) : ev_RO base ra fv scr U H := by
  have hal : u.vm.Alike U.vm := by rw [hv]; exact Vm.Alike.refl _
  obtain ⟨h1, h2, h3, h4, h5, h6, h7⟩ := h
  exact ⟨fun k xs e => (h1 k xs e).moved hal, fun i hi => ⟨(h2 i hi).1.moved hal, (h2 i hi).2.1.moved hal, (h2 i hi).2.2.moved hal⟩, fun e he => (h3 e he).same hv, fun j hj => (h4 j hj).moved hal, fun e he => (h5 e he).same rfl hv.symm, h6.moved hal, h7.moved hal⟩
theorem ev_RO.warm {s U : State} {H : Heap} (hW : s.WarmedH U.vm) (h : ev_RO base ra fv scr s H) : ev_RO base ra fv scr U H := by
  have hal : s.vm.Alike U.vm := hW.alike
  obtain ⟨h1, h2, h3, h4, h5, h6, h7⟩ := h
  exact ⟨fun k xs e => (h1 k xs e).moved hal, fun i hi => ⟨(h2 i hi).1.moved hal, (h2 i hi).2.1.moved hal, (h2 i hi).2.2.moved hal⟩, fun e he => (h3 e he).warm hW, fun j hj => (h4 j hj).moved hal, fun e he => (h5 e he).warmM hW, h6.moved hal, h7.moved hal⟩
/-- what holds in a method's frame -/
def ev_F (p : Program) (s : State) (m : MethodId) (args : Array Value) (meth : Method) (c : Code) (mi : Nat) : Prop :=
  p.tables.exec = Jvm.exec ∧ c.code = ev_b mi ∧ meth.sig.returnType = ev_r mi ∧ c.maxLocals = ev_L mi ∧ s.vm.findClass (ev_cn (ev_o mi)) = some m.cls ∧ (∀ w ∈ ev_UW, w.before args s = true) ∧ meth.locks = false ∧ ((ev_y mi).name = "<init>" → meth.name = "<init>") ∧ va_K D ev_cl (ev_tys aC) s ∧ ev_RO base ra fv scr s s.heap ∧ base ≤ s.heap.size
def ev_kn : Value → Bool
  | .int _ => true
  | .long _ => true
  | .ref _ => true
  | .retAddr _ => true
  | _ => false
def ev_kl (ls : List Value) : List (Nat × Value) := (List.range ls.length).filterMap (fun i => match ev_lg ls i with
  | some v => if ev_kn v = true then some (i, ev_vl base ra fv v) else none
  | none => none)
def ev_LH (lsC : Array Slot) (nL : Nat) (ls : List Value) : Prop := lsC.size = nL ∧ lv_wf lsC ∧ ls.length ≤ nL ∧ (∀ i v, ev_lg ls i = some v → ev_kn v = true → lsC[i]? = some (.val (ev_vl base ra fv v))) ∧ ∀ i x, ev_lg ls i = some (.long x) → ev_lg ls (i + 1) = some (.double 0)
end WORLD
theorem ev_lg_get (ls : List Value) (i : Nat) : ev_lg ls i = ls[i]? := by
  induction ls generalizing i with
  | nil => cases i <;> rfl
  | cons a l ih =>
    cases i with
    | zero => rfl
    | succ i => exact (ih i).trans (List.getElem?_cons_succ).symm
theorem ev_lg_lt {ls : List Value} {i : Nat} {v : Value} (h : ev_lg ls i = some v) : i < ls.length := by
  rw [ev_lg_get] at h
  exact (List.getElem?_eq_some_iff.mp h).1
theorem ev_un_lg : ∀ (l : List Value) (i : Nat), ev_lg (ev_un l) i = if i = 0 then (if l.length = 0 then none else some (.float 0)) else ev_lg l i
  | [], i => by cases i <;> rfl
  | a :: l, 0 => by simp [ev_un, ev_lg]
  | a :: l, i + 1 => by simp [ev_un, ev_lg]
theorem ev_un_len (l : List Value) : (ev_un l).length = l.length := by cases l <;> rfl
theorem ev_s1_len : ∀ (l : List Value) (k : Nat) (v : Value), (ev_s1 l k v).length = l.length
  | [], _, _ => rfl
  | a :: l, 0, v => by
    unfold ev_s1
    cases ev_isL a
    · rfl
    · simp [ev_un_len]
  | a :: l, k + 1, v => by simp [ev_s1, ev_s1_len l k v]
theorem ev_s2_len : ∀ (l : List Value) (k : Nat) (v : Value), (ev_s2 l k v).length = l.length
  | [], k, v => by cases k <;> rfl
  | [a], 0, v => rfl
  | [a], k + 1, v => by simp [ev_s2, ev_s2_len [] k v]
  | a :: b :: l, 0, v => rfl
  | a :: b :: l, k + 1, v => by simp [ev_s2, ev_s2_len (b :: l) k v]
/-- what a place holds behind a store of one word -/
theorem ev_s1_lg : ∀ (l : List Value) (k : Nat) (v : Value) (j : Nat), k < l.length → ev_lg (ev_s1 l k v) j = if j = k then some v else if j = k + 1 ∧ (ev_lg l k).any ev_isL = true ∧ j < l.length then some (.float 0) else ev_lg l j
  | [], k, v, j, h => absurd h (Nat.not_lt_zero _)
  | a :: l, 0, v, j, h => by
    unfold ev_s1
    cases ha : ev_isL a with
    | false =>
      dsimp only
      cases j with
      | zero => rfl
      | succ j =>
        rw [if_neg (by omega), if_neg]
        · rfl
        · rintro ⟨-, hx, -⟩
          have hx : ev_isL a = true := hx
          rw [ha] at hx
          cases hx
    | true =>
      dsimp only
      have hL : ∃ x, a = .long x := by
        cases a <;> first | exact ⟨_, rfl⟩ | cases ha
      obtain ⟨x, rfl⟩ := hL
      cases j with
      | zero => rfl
      | succ j =>
        rw [if_neg (by omega)]
        show ev_lg (ev_un l) j = _
        rw [ev_un_lg]
        by_cases hj : j = 0
        · subst hj
          by_cases hl : l.length = 0
          · rw [if_pos rfl, if_pos hl, if_neg]
            · cases l with
              | nil => rfl
              | cons => cases hl
            · rintro ⟨-, -, q⟩
              simp at q
              omega
          · rw [if_pos rfl, if_neg hl, if_pos (show 0 + 1 = 0 + 1 ∧ (ev_lg (Value.long x :: l) 0).any ev_isL = true ∧ 0 + 1 < (Value.long x :: l).length from ⟨rfl, rfl, by simp; omega⟩)]
        · rw [if_neg hj, if_neg (fun q => by omega)]
          rfl
  | a :: l, k + 1, v, 0, h => by
    rw [if_neg (by omega), if_neg (fun q => by omega)]
    rfl
  | a :: l, k + 1, v, j + 1, h => by
    have ih := ev_s1_lg l k v j (by simpa using h)
    show ev_lg (ev_s1 l k v) j = _
    rw [ih]
    by_cases hj : j = k
    · rw [if_pos hj, if_pos (by omega)]
    · rw [if_neg hj, if_neg (show ¬ j + 1 = k + 1 by omega)]
      by_cases hc : j = k + 1 ∧ (ev_lg l k).any ev_isL = true ∧ j < l.length
      · rw [if_pos hc, if_pos (show j + 1 = k + 1 + 1 ∧ (ev_lg (a :: l) (k + 1)).any ev_isL = true ∧ j + 1 < (a :: l).length from ⟨by omega, hc.2.1, by simpa using hc.2.2⟩)]
      · rw [if_neg hc, if_neg (show ¬ (j + 1 = k + 1 + 1 ∧ (ev_lg (a :: l) (k + 1)).any ev_isL = true ∧ j + 1 < (a :: l).length) from fun q => hc ⟨by omega, q.2.1, by simpa using q.2.2⟩)]
        rfl
theorem ev_s2_lg : ∀ (l : List Value) (k : Nat) (v : Value) (j : Nat), k + 1 < l.length → ev_lg (ev_s2 l k v) j = if j = k then some v else if j = k + 1 then some (.double 0) else ev_lg l j
  | [], k, v, j, h => absurd h (Nat.not_lt_zero _)
  | [a], k, v, j, h => absurd h (by simp)
  | a :: b :: l, 0, v, j, h => by
    match j with
    | 0 => rfl
    | 1 => rfl
    | j + 2 => rw [if_neg (by omega), if_neg (by omega)]; rfl
  | a :: b :: l, k + 1, v, 0, h => by
    rw [if_neg (by omega), if_neg (by omega)]
    rfl
  | a :: b :: l, k + 1, v, j + 1, h => by
    have ih := ev_s2_lg (b :: l) k v j (by simpa using h)
    show ev_lg (ev_s2 (b :: l) k v) j = _
    rw [ih]
    by_cases hj : j = k
    · rw [if_pos hj, if_pos (by omega)]
    · rw [if_neg hj, if_neg (show ¬ j + 1 = k + 1 by omega)]
      by_cases hc : j = k + 1
      · rw [if_pos hc, if_pos (show j + 1 = k + 1 + 1 by omega)]
      · rw [if_neg hc, if_neg (show ¬ j + 1 = k + 1 + 1 by omega)]
        rfl
theorem ev_ok1_lt : ∀ (l : List Value) (k : Nat), ev_ok1 l k = true → k < l.length ∧ ev_lg l k ≠ some (.double 0)
  | [], k, h => by cases h
  | a :: l, 0, h => by
    refine ⟨by simp, fun e => ?_⟩
    cases e
    cases h
  | a :: l, k + 1, h => by
    obtain ⟨h1, h2⟩ := ev_ok1_lt l k h
    exact ⟨by simpa using h1, h2⟩
theorem ev_ok2_lt : ∀ (l : List Value) (k : Nat), ev_ok2 l k = true → k + 1 < l.length ∧ ev_lg l k ≠ some (.double 0)
  | [], k, h => by cases k <;> cases h
  | [a], 0, h => by cases h
  | [a], k + 1, h => by
    have h' : ev_ok2 [] k = true := h
    cases k <;> cases h'
  | a :: b :: l, 0, h => by
    refine ⟨by simp, fun e => ?_⟩
    cases e
    cases h
  | a :: b :: l, k + 1, h => by
    obtain ⟨h1, h2⟩ := ev_ok2_lt (b :: l) k h
    exact ⟨by simpa using h1, h2⟩
section WL
variable {base : Nat} {ra : Nat → Nat} {fv : Value}
theorem ev_vl_cat (hfv : fv = .null ∨ ∃ t, fv = .ref t) (v : Value) : (ev_vl base ra fv v).category = v.category := by
  cases v <;> try rfl
  rename_i k
  unfold ev_vl
  dsimp only
  split
  · rcases hfv with rfl | ⟨t, rfl⟩ <;> rfl
  · rfl
theorem ev_kl_mem {ls : List Value} {i : Nat} {v : Value} (h : ev_lg ls i = some v) (hk : ev_kn v = true) : (i, ev_vl base ra fv v) ∈ ev_kl base ra fv ls := by
  refine List.mem_filterMap.mpr ⟨i, List.mem_range.mpr (ev_lg_lt h), ?_⟩
  rw [h]
  simp only [hk, if_true]
theorem ev_LH.has {lsC : Array Slot} {nL : Nat} {ls : List Value} (h : ev_LH base ra fv lsC nL ls) : lv_has lsC nL (ev_kl base ra fv ls) := by
  obtain ⟨h1, h2, h3, h4, h5⟩ := h
  refine ⟨h1, h2, fun q hq => ?_⟩
  obtain ⟨i, -, hi⟩ := List.mem_filterMap.mp hq
  cases hg : ev_lg ls i with
  | none => rw [hg] at hi; cases hi
  | some v =>
    rw [hg] at hi
    by_cases hk : ev_kn v = true
    · simp only [hk, if_true] at hi
      cases hi
      exact h4 i v hg hk
    · simp only [hk] at hi
      cases hi
theorem ev_LH.st1 (hfv : fv = .null ∨ ∃ t, fv = .ref t) {lsC ls' : Array Slot} {nL k : Nat} {ls : List Value} {v : Value} (h : ev_LH base ra fv lsC nL ls) (hk : ev_ok1 ls k = true) (hL : ∀ x, v ≠ .long x)
    (h' : lv_has ls' nL ((k, ev_vl base ra fv v) :: (ev_kl base ra fv ls).filter (fun q => !(q.1 == k) && !(q.1 + 1 == k && q.2.category == 2)))) : ev_LH base ra fv ls' nL (ev_s1 ls k v) := by
  obtain ⟨h1, h2, h3, h4, h5⟩ := h
  obtain ⟨g1, g2, g3⟩ := h'
  obtain ⟨o1, o2⟩ := ev_ok1_lt ls k hk
  refine ⟨g1, g2, by rw [ev_s1_len]; exact h3, fun i w hw hkn => ?_, fun i x hx => ?_⟩
  · rw [ev_s1_lg ls k v i o1] at hw
    by_cases hi : i = k
    · rw [if_pos hi] at hw
      cases hw
      subst hi
      exact g3 (i, _) List.mem_cons_self
    · rw [if_neg hi] at hw
      split at hw
      · cases hw
        cases hkn
      · refine g3 (i, ev_vl base ra fv w) (List.mem_cons_of_mem _ (List.mem_filter.mpr ⟨ev_kl_mem hw hkn, ?_⟩))
        have e1 : (i == k) = false := by simpa using hi
        simp only [e1, Bool.not_false, Bool.true_and, Bool.not_eq_true']
        by_cases hi2 : i + 1 = k
        · by_cases hc : w.category = 2
          · have hw2 : ∃ x, w = .long x := by
              cases w <;> first | exact ⟨_, rfl⟩ | (simp [Value.category, ev_kn] at hc hkn)
            obtain ⟨x, rfl⟩ := hw2
            have := h5 i x hw
            rw [hi2] at this
            exact absurd this o2
          · have e2 : ((ev_vl base ra fv w).category == 2) = false := by
              rw [ev_vl_cat hfv]
              simpa using hc
            rw [e2, Bool.and_false]
        · have e2 : (i + 1 == k) = false := by simpa using hi2
          rw [e2, Bool.false_and]
  · rw [ev_s1_lg ls k v i o1] at hx
    by_cases hi : i = k
    · rw [if_pos hi] at hx
      cases hx
      exact absurd rfl (hL x)
    · rw [if_neg hi] at hx
      split at hx
      · cases hx
      · have h6 := h5 i x hx
        rw [ev_s1_lg ls k v (i + 1) o1]
        by_cases hi2 : i + 1 = k
        · rw [hi2] at h6
          exact absurd h6 o2
        · rw [if_neg hi2, if_neg]
          · exact h6
          · rintro ⟨q, -, -⟩
            omega
theorem ev_LH.st2 (hfv : fv = .null ∨ ∃ t, fv = .ref t) {lsC ls' : Array Slot} {nL k : Nat} {ls : List Value} {x0 : Int64} (h : ev_LH base ra fv lsC nL ls) (hk : ev_ok2 ls k = true)
    (h' : lv_has ls' nL ((k, Value.long x0) :: (ev_kl base ra fv ls).filter (fun q => !(q.1 == k) && (!(q.1 == k + 1) && !(q.1 + 1 == k && q.2.category == 2))))) : ev_LH base ra fv ls' nL (ev_s2 ls k (.long x0)) := by
  obtain ⟨h1, h2, h3, h4, h5⟩ := h
  obtain ⟨g1, g2, g3⟩ := h'
  obtain ⟨o1, o2⟩ := ev_ok2_lt ls k hk
  refine ⟨g1, g2, by rw [ev_s2_len]; exact h3, fun i w hw hkn => ?_, fun i x hx => ?_⟩
  · rw [ev_s2_lg ls k _ i o1] at hw
    by_cases hi : i = k
    · rw [if_pos hi] at hw
      cases hw
      subst hi
      exact g3 (i, _) List.mem_cons_self
    · rw [if_neg hi] at hw
      by_cases hi3 : i = k + 1
      · rw [if_pos hi3] at hw
        cases hw
        cases hkn
      · rw [if_neg hi3] at hw
        refine g3 (i, ev_vl base ra fv w) (List.mem_cons_of_mem _ (List.mem_filter.mpr ⟨ev_kl_mem hw hkn, ?_⟩))
        have e1 : (i == k) = false := by simpa using hi
        have e3 : (i == k + 1) = false := by simpa using hi3
        simp only [e1, e3, Bool.not_false, Bool.true_and, Bool.not_eq_true']
        by_cases hi2 : i + 1 = k
        · by_cases hc : w.category = 2
          · have hw2 : ∃ x, w = .long x := by
              cases w <;> first | exact ⟨_, rfl⟩ | (simp [Value.category, ev_kn] at hc hkn)
            obtain ⟨x, rfl⟩ := hw2
            have := h5 i x hw
            rw [hi2] at this
            exact absurd this o2
          · have e2 : ((ev_vl base ra fv w).category == 2) = false := by
              rw [ev_vl_cat hfv]
              simpa using hc
            rw [e2, Bool.and_false]
        · have e2 : (i + 1 == k) = false := by simpa using hi2
          rw [e2, Bool.false_and]
  · rw [ev_s2_lg ls k _ i o1] at hx
    by_cases hi : i = k
    · rw [ev_s2_lg ls k _ (i + 1) o1, if_neg (by omega), if_pos (by omega)]
    · rw [if_neg hi] at hx
      by_cases hi3 : i = k + 1
      · rw [if_pos hi3] at hx
        cases hx
      · rw [if_neg hi3] at hx
        have h6 := h5 i x hx
        rw [ev_s2_lg ls k _ (i + 1) o1]
        by_cases hi2 : i + 1 = k
        · rw [hi2] at h6
          exact absurd h6 o2
        · rw [if_neg hi2, if_neg (by omega)]
          exact h6
/-- a method's first locals -/
theorem ev_lay_at : ∀ (vs : List Value) (n i0 : Nat) (i : Nat) (v : Value), ev_lg (ev_lay vs n) i = some v → ev_kn v = true → (i0 + i, v) ∈ lv_args i0 vs
  | [], n, i0, i, v, h, hk => by
    unfold ev_lay at h
    rw [ev_lg_get] at h
    have := List.eq_of_mem_replicate (List.mem_of_getElem? h)
    rw [this] at hk
    cases hk
  | w :: vs, n, i0, i, v, h, hk => by
    unfold ev_lay at h
    cases hh : ev_half w with
    | true => rw [hh] at h; cases i <;> cases h
    | false =>
      rw [hh] at h
      cases hw : ev_isL w with
      | true =>
        rw [hw] at h
        have hL : ∃ x, w = .long x := by
          cases w <;> first | exact ⟨_, rfl⟩ | cases hw
        obtain ⟨x, rfl⟩ := hL
        match n, h with
        | n + 2, h =>
          match i, h with
          | 0, h => cases h; exact List.mem_cons_self
          | 1, h => cases h; cases hk
          | i + 2, h =>
            have ih := ev_lay_at vs n (i0 + 2) i v h hk
            refine List.mem_cons_of_mem _ ?_
            rw [show i0 + (i + 2) = i0 + 2 + i by omega]
            exact ih
        | 0, h => cases i <;> cases h
        | 1, h => cases i <;> cases h
      | false =>
        rw [hw] at h
        match n, h with
        | 0, h => cases i <;> cases h
        | n + 1, h =>
          match i, h with
          | 0, h => cases h; exact List.mem_cons_self
          | i + 1, h =>
            have ih := ev_lay_at vs n (i0 + 1) i v h hk
            have hc : ¬ w.category = 2 := by
              intro hc
              cases w <;> simp [Value.category, ev_isL, ev_half] at hc hw hh
            refine List.mem_cons_of_mem _ ?_
            rw [if_neg hc, show i0 + (i + 1) = i0 + 1 + i by omega]
            exact ih
theorem ev_lay_long : ∀ (vs : List Value) (n i : Nat) (x : Int64), ev_lg (ev_lay vs n) i = some (.long x) → ev_lg (ev_lay vs n) (i + 1) = some (.double 0)
  | [], n, i, x, h => by
    unfold ev_lay at h
    rw [ev_lg_get] at h
    have := List.eq_of_mem_replicate (List.mem_of_getElem? h)
    cases this
  | w :: vs, n, i, x, h => by
    unfold ev_lay at h ⊢
    cases hh : ev_half w with
    | true => rw [hh] at h; cases i <;> cases h
    | false =>
      rw [hh] at h
      cases hw : ev_isL w with
      | true =>
        rw [hw] at h
        match n, h with
        | n + 2, h =>
          match i, h with
          | 0, h => rfl
          | 1, h => cases h
          | i + 2, h => exact ev_lay_long vs n i x h
        | 0, h => cases i <;> cases h
        | 1, h => cases i <;> cases h
      | false =>
        rw [hw] at h
        match n, h with
        | 0, h => cases i <;> cases h
        | n + 1, h =>
          match i, h with
          | 0, h => cases h; cases hw
          | i + 1, h => exact ev_lay_long vs n i x h
theorem ev_lay_len : ∀ (vs : List Value) (n : Nat), (ev_lay vs n).length ≤ n
  | [], n => by unfold ev_lay; simp
  | w :: vs, n => by
    unfold ev_lay
    cases ev_half w with
    | true => simp
    | false =>
      cases ev_isL w with
      | true =>
        match n with
        | 0 => simp
        | 1 => simp
        | n + 2 => have := ev_lay_len vs n; simp; omega
      | false =>
        match n with
        | 0 => simp
        | n + 1 => have := ev_lay_len vs n; simp; omega
end WL
end
section
theorem ev_zip_in {α : Type} {β : Type} {xs : List α} {ys : List β} (hl : xs.length ≤ ys.length) {x : α} (h : x ∈ xs) : ∃ y, (x, y) ∈ xs.zip ys := by
  obtain ⟨i, hi⟩ := List.getElem?_of_mem h
  have h1 := (List.getElem?_eq_some_iff.mp hi).1
  refine ⟨ys[i]'(by omega), List.mem_of_getElem? (i := i) ?_⟩
  rw [List.getElem?_zip_eq_some]
  exact ⟨hi, List.getElem?_eq_getElem (by omega)⟩
theorem ev_word {i : Nat} {w : Cond} (h : (decide (tables_1[i]? = some w) && goodWord w) = true) : w ∈ ev_UW := by
  simp only [Bool.and_eq_true, decide_eq_true_eq] at h
  exact ev_mem i h.1 h.2
theorem ev_cons_in {e : Nat × Nat × Int32} (h : e ∈ ev_cons) : Cond.constant (ev_cn e.1) e.2.1 e.2.2 ∈ ev_UW := by
  obtain ⟨q, hq⟩ := ev_zip_in (ys := ev_conp) (by decide) h
  exact ev_word (List.all_eq_true.mp ev_cons_ok _ hq)
theorem ev_lcons_in {e : Nat × Nat × Int64} (h : e ∈ ev_lcons) : Cond.constantLong (ev_cn e.1) e.2.1 e.2.2 ∈ ev_UW := by
  obtain ⟨q, hq⟩ := ev_zip_in (ys := ev_lconp) (by decide) h
  exact ev_word (List.all_eq_true.mp ev_lcons_ok _ hq)
theorem ev_stats_in {e : Nat × Nat × Nat} (h : e ∈ ev_stats) : ev_stw e ∈ ev_UW := by
  obtain ⟨q, hq⟩ := ev_zip_in (ys := ev_statp) (by decide) h
  exact ev_word (List.all_eq_true.mp ev_stats_ok _ hq)
theorem ev_stats_lt {e : Nat × Nat × Nat} (h : e ∈ ev_stats) : e.2.2 < 5 := by
  have h0 : ev_stats.all (fun e => decide (e.2.2 < 5)) = true := by decide
  simpa using List.all_eq_true.mp h0 e h
theorem ev_strs_n4 (e : Nat × Nat) (h : e ∈ ev_strs) : ¬ e.2 = 4 := by
  have h0 : ev_strs.all (fun e => decide (¬ e.2 = 4)) = true := by decide
  simpa using List.all_eq_true.mp h0 e h
theorem ev_sfs_in {e : Nat × Nat × Nat} (h : e ∈ ev_sfs) : ev_sfw e ∈ ev_UW := by
  obtain ⟨q, hq⟩ := ev_zip_in (ys := ev_sfp) (by decide) h
  exact ev_word (List.all_eq_true.mp ev_sfs_ok _ hq)
theorem ev_fls_in {e : Nat × Nat × Nat} (h : e ∈ ev_fls) : ev_flw e ∈ ev_UW := by
  obtain ⟨q, hq⟩ := ev_zip_in (ys := ev_flp) (by decide) h
  exact ev_word (List.all_eq_true.mp ev_fls_ok _ hq)
theorem ev_cls_in {e : Nat × Nat × Nat} (h : e ∈ ev_cls) : Cond.classLink (ev_cn e.1) e.2.1 (ev_cn e.2.2) ∈ ev_UW := by
  obtain ⟨q, hq⟩ := ev_zip_in (ys := ev_clp) (by decide) h
  exact ev_word (List.all_eq_true.mp ev_cls_ok _ hq)
theorem ev_mos_in {e : Nat × Nat} (h : e ∈ ev_mos) : Cond.methodLink (ev_cn e.1) e.2 Lib.objectInit ∈ ev_UW := by
  obtain ⟨q, hq⟩ := ev_zip_in (ys := ev_mop) (by decide) h
  exact ev_word (List.all_eq_true.mp ev_mos_ok _ hq)
theorem ev_init_in {c : Nat} (h : c < 13) : Cond.initialized (ev_cn c) ∈ ev_UW := by
  have h1 : c ∈ [0, 1, 2, 3, 4, 5, 6, 7, 8, 9, 10, 11, 12] := by
    rcases c with _ | _ | _ | _ | _ | _ | _ | _ | _ | _ | _ | _ | _ | c <;> first | decide | omega
  have h2 := ev_init_ok
  obtain ⟨i, hi⟩ := List.getElem?_of_mem h1
  have h3 := (List.getElem?_eq_some_iff.mp hi).1
  have h4 : ∀ (xs : List Nat), xs.length = 13 → (xs.zip [0, 1, 2, 3, 4, 5, 6, 7, 8, 9, 10, 11, 12]).all (fun e => decide (tables_1[e.1]? = some (Cond.initialized (ev_cn e.2))) && goodWord (Cond.initialized (ev_cn e.2))) = true → Cond.initialized (ev_cn c) ∈ ev_UW := by
    intro xs hxs hall
    have hm : (xs[i]'(by rw [hxs]; exact h3), c) ∈ xs.zip [0, 1, 2, 3, 4, 5, 6, 7, 8, 9, 10, 11, 12] := by
      refine List.mem_of_getElem? (i := i) ?_
      rw [List.getElem?_zip_eq_some]
      exact ⟨List.getElem?_eq_getElem (by rw [hxs]; exact h3), hi⟩
    exact ev_word (List.all_eq_true.mp hall _ hm)
  exact h4 _ rfl h2
theorem ev_inst_in {c : Nat} (h : c < 7) : Cond.instantiable (ev_cn c) (ev_N c) ∈ ev_UW := by
  have h1 : c ∈ [0, 1, 2, 3, 4, 5, 6] := by
    rcases c with _ | _ | _ | _ | _ | _ | _ | c <;> first | decide | omega
  have h2 := ev_inst_ok
  obtain ⟨i, hi⟩ := List.getElem?_of_mem h1
  have h3 := (List.getElem?_eq_some_iff.mp hi).1
  have h4 : ∀ (xs : List Nat), xs.length = 7 → (xs.zip [0, 1, 2, 3, 4, 5, 6]).all (fun e => decide (tables_1[e.1]? = some (Cond.instantiable (ev_cn e.2) (ev_N e.2))) && goodWord (Cond.instantiable (ev_cn e.2) (ev_N e.2))) = true → Cond.instantiable (ev_cn c) (ev_N c) ∈ ev_UW := by
    intro xs hxs hall
    have hm : (xs[i]'(by rw [hxs]; exact h3), c) ∈ xs.zip [0, 1, 2, 3, 4, 5, 6] := by
      refine List.mem_of_getElem? (i := i) ?_
      rw [List.getElem?_zip_eq_some]
      exact ⟨List.getElem?_eq_getElem (by rw [hxs]; exact h3), hi⟩
    exact ev_word (List.all_eq_true.mp hall _ hm)
  exact h4 _ rfl h2
theorem ev_inc_eq (n : Int) (x : Int32) : x + Int32.ofInt n = ev_inc n x := by
  unfold ev_inc
  split
  · rfl
  · rfl
/-! A step of the machine of our own is a walk of the kit's machine. -/
theorem ev_okL_at (oi : Nat) (ini : Bool) (ret : Option FieldType) (b : ByteArray) (pb : List Nat) : ∀ (cd : List ev_I) (ps : List Nat) (i : Nat) (ins : ev_I), ev_okL oi ini ret b pb cd ps = true → ev_ft cd i = some ins → ev_okI oi ini ret b pb (ps.getD i 0) (ps.getD (i + 1) 0) ins = true
  | [], _, i, ins, _, h2 => by cases i <;> cases h2
  | a :: cd, [], i, ins, h1, _ => by cases h1
  | a :: cd, p :: ps, 0, ins, h1, h2 => by
    cases h2
    simp only [ev_okL, Bool.and_eq_true] at h1
    exact h1.1
  | a :: cd, p :: ps, i + 1, ins, h1, h2 => by
    simp only [ev_okL, Bool.and_eq_true] at h1
    exact ev_okL_at oi ini ret b pb cd ps i ins h1.2 h2
theorem ev_okI_dec {oi : Nat} {ini : Bool} {ret : Option FieldType} {b : ByteArray} {pb : List Nat} {pc nx : Nat} {i : ev_I} (h : ev_okI oi ini ret b pb pc nx i = true) (h1 : i ≠ .inl .nop) (h2 : i ≠ .inl .athrow) : ∃ raw len, decode b pc = .ok (raw, len) ∧ ev_okR oi ini ret pb pc nx len i raw = true := by
  unfold ev_okI at h
  split at h
  · exact absurd rfl h1
  · exact absurd rfl h2
  · split at h
    next raw len e => exact ⟨raw, len, e, h⟩
    next => cases h
section STEP
variable {base : Nat} {ra : Nat → Nat} {fv : Value} {aC : Nat → ClassId} {D : va_G} {scr : List Int32}
variable {p : Program} {l : Launch} {e : Env} {R : Room} {s : State} {m : MethodId} {args : Array Value} {below : List Frame} {meth : Method} {c : Code} {H : Heap} {locs : List Loc} {cells slots : Nat} {Q : State → Prop} {mi : Nat}
set_option maxHeartbeats 4000000 in
theorem ev_wP (hfv : fv = .null ∨ ∃ t, fv = .ref t) (Fr : ev_F base ra fv aC D scr p s m args meth c mi) (hmi : mi < 214) {i : ev_I} {pc pc' : Nat} {ls st ls' st' : List Value} (hf : ev_ft (ev_cd mi) pc = some i) (hx : ev_xP i pc ls st = some (pc', ls', st')) {lsC : Array Slot} (hLH : ev_LH base ra fv lsC (ev_L mi) ls) (hS : va_S (ev_A base) s.heap H locs)
    (K : ∀ lsC1, ev_LH base ra fv lsC1 (ev_L mi) ls' → W p l e R s m args below meth c H locs cells slots Q (F0 m ((ev_pb mi).getD pc' 0) lsC1 (st'.map (ev_vl base ra fv)))) :
    W p l e R s m args below meth c H locs cells slots Q (F0 m ((ev_pb mi).getD pc 0) lsC (st.map (ev_vl base ra fv))) := by
  have hok := ev_okL_at _ _ _ _ _ _ _ _ _ (ev_ok mi hmi) hf
  obtain ⟨Fx, Fb, Fr1, Fl, Fo, Fw, -, -, FK, FR, -⟩ := Fr
  cases i with
  | inr v =>
    cases hx
    obtain ⟨raw, len, hd, hr⟩ := ev_okI_dec hok (by intro h; cases h) (by intro h; cases h)
    simp only [ev_okR, Bool.and_eq_true, decide_eq_true_eq] at hr
    obtain ⟨hnx, hr⟩ := hr
    have K := K lsC hLH
    rw [hnx] at K
    split at hr
    · simp only [Bool.and_eq_true, decide_eq_true_eq] at hr
      obtain ⟨rfl, rfl⟩ := hr
      exact lv_iconst Fx Fb hd rfl K
    · simp only [Bool.and_eq_true, decide_eq_true_eq] at hr
      obtain ⟨rfl, rfl⟩ := hr
      exact lv_bipush Fx Fb hd rfl K
    · simp only [Bool.and_eq_true, decide_eq_true_eq] at hr
      obtain ⟨rfl, rfl⟩ := hr
      exact lv_sipush Fx Fb hd rfl K
    · simp only [Bool.and_eq_true, decide_eq_true_eq] at hr
      obtain ⟨rfl, rfl⟩ := hr
      exact lv_lconst Fx Fb hd rfl K
    · simp only [Bool.and_eq_true, decide_eq_true_eq] at hr
      obtain ⟨rfl, hr⟩ := hr
      split at hr
      · exact lv_ldc Fx Fb Fo (Fw _ (ev_cons_in (of_decide_eq_true hr))) hd K
      · simp only [Bool.and_eq_true, decide_eq_true_eq] at hr
        obtain ⟨ho, hm⟩ := hr
        have h4 := ev_strs_n4 _ hm
        have hR := FR.2.2.1 _ hm
        rw [ho] at Fo
        refine va_ldcS Fx Fb (own := RX3) Fo hR hd ?_
        have e1 : ev_vl base ra fv (.retAddr _) = .ref (ra _) := if_neg h4
        simp only [List.map_cons, e1] at K
        exact K
      · cases hr
    · simp only [Bool.and_eq_true, decide_eq_true_eq] at hr
      obtain ⟨rfl, hr⟩ := hr
      split at hr
      · exact lv_ldcw Fx Fb Fo (Fw _ (ev_cons_in (of_decide_eq_true hr))) hd K
      · cases hr
    · simp only [Bool.and_eq_true, decide_eq_true_eq] at hr
      obtain ⟨rfl, hr⟩ := hr
      split at hr
      · exact lv_ldc2 Fx Fb Fo (Fw _ (ev_lcons_in (of_decide_eq_true hr))) hd K
      · cases hr
    · simp only [Bool.and_eq_true, decide_eq_true_eq] at hr
      obtain ⟨rfl, hr⟩ := hr
      obtain ⟨e0, he0, h2⟩ := List.any_eq_true.mp hr
      simp only [Bool.and_eq_true, decide_eq_true_eq] at h2
      obtain ⟨⟨a1, a2⟩, rfl⟩ := h2
      have hw := Fw _ (ev_stats_in he0)
      rw [ev_stw, a1, a2] at hw
      exact va_gets Fx Fb (FR.2.2.2.1 e0.2.2 (ev_stats_lt he0)) hS Fo hw (fun _ q => q) hd K
    · cases hr
  | inl ins =>
    cases ins
    case iload k =>
      have hx : (match ev_lg ls k with
        | some (.int x) => some (pc + 1, ls, .int x :: st)
        | _ => none) = some (pc', ls', st') := hx
      split at hx
      next x hg =>
        cases hx
        have K := K lsC hLH
        obtain ⟨raw, len, hd, hr⟩ := ev_okI_dec hok (by intro h; cases h) (by intro h; cases h)
        simp only [ev_okR, Bool.and_eq_true, decide_eq_true_eq] at hr
        obtain ⟨hnx, hr⟩ := hr
        rw [hnx] at K
        have hl := hLH.2.2.2.1 k _ hg rfl
        split at hr
        · simp only [Bool.and_eq_true, decide_eq_true_eq] at hr
          obtain ⟨rfl, rfl⟩ := hr
          exact lv_iload_n Fx Fb hd rfl hl K
        · simp only [Bool.and_eq_true, decide_eq_true_eq] at hr
          obtain ⟨rfl, rfl⟩ := hr
          exact lv_iload Fx Fb hd hl K
        · cases hr
      next => cases hx
    case lload k =>
      have hx : (match ev_lg ls k with
        | some (.long x) => some (pc + 1, ls, .long x :: st)
        | _ => none) = some (pc', ls', st') := hx
      split at hx
      next x hg =>
        cases hx
        have K := K lsC hLH
        obtain ⟨raw, len, hd, hr⟩ := ev_okI_dec hok (by intro h; cases h) (by intro h; cases h)
        simp only [ev_okR, Bool.and_eq_true, decide_eq_true_eq] at hr
        obtain ⟨hnx, hr⟩ := hr
        rw [hnx] at K
        have hl := hLH.2.2.2.1 k _ hg rfl
        split at hr
        · simp only [Bool.and_eq_true, decide_eq_true_eq] at hr
          obtain ⟨rfl, rfl⟩ := hr
          exact lv_lload_n Fx Fb hd rfl hl K
        · simp only [Bool.and_eq_true, decide_eq_true_eq] at hr
          obtain ⟨rfl, rfl⟩ := hr
          exact lv_lload Fx Fb hd hl K
        · cases hr
      next => cases hx
    case aload k =>
      have hx : (match ev_lg ls k with
        | some (.ref x) => some (pc + 1, ls, .ref x :: st)
        | some (.retAddr x) => match x with
          | 4 => none
          | x => some (pc + 1, ls, .retAddr x :: st)
        | _ => none) = some (pc', ls', st') := hx
      have key : ∃ v a, ev_lg ls k = some v ∧ ev_kn v = true ∧ ev_vl base ra fv v = .ref a ∧ pc' = pc + 1 ∧ ls' = ls ∧ st' = v :: st := by
        split at hx
        next x hg => cases hx; exact ⟨_, _, hg, rfl, rfl, rfl, rfl, rfl⟩
        next x hg =>
          split at hx
          · cases hx
          next h4 =>
            cases hx
            exact ⟨_, ra x, hg, rfl, if_neg h4, rfl, rfl, rfl⟩
        next => cases hx
      obtain ⟨v, a, hg, hkn, hva, rfl, rfl, rfl⟩ := key
      have K := K lsC hLH
      obtain ⟨raw, len, hd, hr⟩ := ev_okI_dec hok (by intro h; cases h) (by intro h; cases h)
      simp only [ev_okR, Bool.and_eq_true, decide_eq_true_eq] at hr
      obtain ⟨hnx, hr⟩ := hr
      rw [hnx, List.map_cons, hva] at K
      have hl := hLH.2.2.2.1 k _ hg hkn
      rw [hva] at hl
      split at hr
      · simp only [Bool.and_eq_true, decide_eq_true_eq] at hr
        obtain ⟨rfl, rfl⟩ := hr
        exact lv_aload_n Fx Fb hd rfl hl K
      · simp only [Bool.and_eq_true, decide_eq_true_eq] at hr
        obtain ⟨rfl, rfl⟩ := hr
        exact lv_aload Fx Fb hd hl K
      · cases hr
    case istore k =>
      have hx : (match (generalizing := false) st with
        | .int x :: r => match ev_ok1 ls k with
          | true => some (pc + 1, ev_s1 ls k (.int x), r)
          | false => none
        | _ => none) = some (pc', ls', st') := hx
      split at hx
      next x r =>
        split at hx
        next hk =>
          cases hx
          obtain ⟨raw, len, hd, hr⟩ := ev_okI_dec hok (by intro h; cases h) (by intro h; cases h)
          simp only [ev_okR, Bool.and_eq_true, decide_eq_true_eq] at hr
          obtain ⟨hnx, hr⟩ := hr
          have hlt := (ev_ok1_lt ls k hk).1
          have h3 := hLH.2.2.1
          split at hr
          · simp only [Bool.and_eq_true, decide_eq_true_eq] at hr
            obtain ⟨rfl, rfl⟩ := hr
            refine lv_istore_n Fx Fb hd rfl hLH.has (by omega) rfl (fun ls1 hl1 => ?_)
            rw [← hnx]
            exact K ls1 (hLH.st1 hfv hk (fun _ q => by cases q) hl1)
          · simp only [Bool.and_eq_true, decide_eq_true_eq] at hr
            obtain ⟨rfl, rfl⟩ := hr
            refine lv_istore Fx Fb hd hLH.has (by omega) rfl (fun ls1 hl1 => ?_)
            rw [← hnx]
            exact K ls1 (hLH.st1 hfv hk (fun _ q => by cases q) hl1)
          · cases hr
        next => cases hx
      next => cases hx
    case astore k =>
      have hx : (match (generalizing := false) st with
        | .ref x :: r => match ev_ok1 ls k with
          | true => some (pc + 1, ev_s1 ls k (.ref x), r)
          | false => none
        | _ => none) = some (pc', ls', st') := hx
      split at hx
      next x r =>
        split at hx
        next hk =>
          cases hx
          obtain ⟨raw, len, hd, hr⟩ := ev_okI_dec hok (by intro h; cases h) (by intro h; cases h)
          simp only [ev_okR, Bool.and_eq_true, decide_eq_true_eq] at hr
          obtain ⟨hnx, hr⟩ := hr
          have hlt := (ev_ok1_lt ls k hk).1
          have h3 := hLH.2.2.1
          split at hr
          · simp only [Bool.and_eq_true, decide_eq_true_eq] at hr
            obtain ⟨rfl, rfl⟩ := hr
            refine lv_astore_n Fx Fb hd rfl hLH.has (by omega) rfl (fun ls1 hl1 => ?_)
            rw [← hnx]
            exact K ls1 (hLH.st1 hfv hk (fun _ q => by cases q) hl1)
          · simp only [Bool.and_eq_true, decide_eq_true_eq] at hr
            obtain ⟨rfl, rfl⟩ := hr
            refine lv_astore Fx Fb hd hLH.has (by omega) rfl (fun ls1 hl1 => ?_)
            rw [← hnx]
            exact K ls1 (hLH.st1 hfv hk (fun _ q => by cases q) hl1)
          · cases hr
        next => cases hx
      next => cases hx
    case lstore k =>
      have hx : (match (generalizing := false) st with
        | .long x :: r => match ev_ok2 ls k with
          | true => some (pc + 1, ev_s2 ls k (.long x), r)
          | false => none
        | _ => none) = some (pc', ls', st') := hx
      split at hx
      next x r =>
        split at hx
        next hk =>
          cases hx
          obtain ⟨raw, len, hd, hr⟩ := ev_okI_dec hok (by intro h; cases h) (by intro h; cases h)
          simp only [ev_okR, Bool.and_eq_true, decide_eq_true_eq] at hr
          obtain ⟨hnx, hr⟩ := hr
          have hlt := (ev_ok2_lt ls k hk).1
          have h3 := hLH.2.2.1
          split at hr
          · simp only [Bool.and_eq_true, decide_eq_true_eq] at hr
            obtain ⟨rfl, rfl⟩ := hr
            refine lv_lstore_n Fx Fb hd rfl hLH.has (by omega) rfl (fun ls1 hl1 => ?_)
            rw [← hnx]
            exact K ls1 (hLH.st2 hfv hk hl1)
          · simp only [Bool.and_eq_true, decide_eq_true_eq] at hr
            obtain ⟨rfl, rfl⟩ := hr
            refine lv_lstore Fx Fb hd hLH.has (by omega) rfl (fun ls1 hl1 => ?_)
            rw [← hnx]
            exact K ls1 (hLH.st2 hfv hk hl1)
          · cases hr
        next => cases hx
      next => cases hx
    case iinc k n =>
      have hx : (match ev_lg ls k with
        | some (.int x) => match ev_ok1 ls k with
          | true => some (pc + 1, ev_s1 ls k (.int (ev_inc n x)), st)
          | false => none
        | _ => none) = some (pc', ls', st') := hx
      split at hx
      next x hg =>
        split at hx
        next hk =>
          cases hx
          obtain ⟨raw, len, hd, hr⟩ := ev_okI_dec hok (by intro h; cases h) (by intro h; cases h)
          simp only [ev_okR, Bool.and_eq_true, decide_eq_true_eq] at hr
          obtain ⟨⟨rfl, rfl⟩, hnx⟩ := hr
          have hlt := (ev_ok1_lt ls k hk).1
          have h3 := hLH.2.2.1
          obtain ⟨j, hj⟩ := List.getElem?_of_mem (ev_kl_mem (base := base) (ra := ra) (fv := fv) hg rfl)
          refine lv_iinc Fx Fb hd hLH.has hj (v := ev_inc n x) (ev_inc_eq n x) (by omega) rfl (fun ls1 hl1 => ?_)
          rw [← hnx]
          exact K ls1 (hLH.st1 hfv hk (fun _ q => by cases q) hl1)
        next => cases hx
      next => cases hx
    case iadd =>
      have hx : ev_nx pc ls (ev_ii st (fun x y => x + y)) = some (pc', ls', st') := hx
      unfold ev_nx ev_ii at hx
      split at hx
      next st1 hs1 =>
        split at hs1
        next =>
          cases hs1
          cases hx
          have K := K lsC hLH
          obtain ⟨raw, len, hd, hr⟩ := ev_okI_dec hok (by intro h; cases h) (by intro h; cases h)
          simp only [ev_okR, Bool.and_eq_true, decide_eq_true_eq] at hr
          obtain ⟨⟨rfl, rfl⟩, hnx⟩ := hr
          rw [hnx] at K
          exact lv_iadd Fx Fb hd K
        next => cases hs1
      next => cases hx
    case isub =>
      have hx : ev_nx pc ls (ev_ii st (fun x y => x - y)) = some (pc', ls', st') := hx
      unfold ev_nx ev_ii at hx
      split at hx
      next st1 hs1 =>
        split at hs1
        next =>
          cases hs1
          cases hx
          have K := K lsC hLH
          obtain ⟨raw, len, hd, hr⟩ := ev_okI_dec hok (by intro h; cases h) (by intro h; cases h)
          simp only [ev_okR, Bool.and_eq_true, decide_eq_true_eq] at hr
          obtain ⟨⟨rfl, rfl⟩, hnx⟩ := hr
          rw [hnx] at K
          exact lv_isub Fx Fb hd K
        next => cases hs1
      next => cases hx
    case imul =>
      have hx : ev_nx pc ls (ev_ii st (fun x y => x * y)) = some (pc', ls', st') := hx
      unfold ev_nx ev_ii at hx
      split at hx
      next st1 hs1 =>
        split at hs1
        next =>
          cases hs1
          cases hx
          have K := K lsC hLH
          obtain ⟨raw, len, hd, hr⟩ := ev_okI_dec hok (by intro h; cases h) (by intro h; cases h)
          simp only [ev_okR, Bool.and_eq_true, decide_eq_true_eq] at hr
          obtain ⟨⟨rfl, rfl⟩, hnx⟩ := hr
          rw [hnx] at K
          exact lv_imul Fx Fb hd K
        next => cases hs1
      next => cases hx
    case iand =>
      have hx : ev_nx pc ls (ev_ii st (fun x y => x &&& y)) = some (pc', ls', st') := hx
      unfold ev_nx ev_ii at hx
      split at hx
      next st1 hs1 =>
        split at hs1
        next =>
          cases hs1
          cases hx
          have K := K lsC hLH
          obtain ⟨raw, len, hd, hr⟩ := ev_okI_dec hok (by intro h; cases h) (by intro h; cases h)
          simp only [ev_okR, Bool.and_eq_true, decide_eq_true_eq] at hr
          obtain ⟨⟨rfl, rfl⟩, hnx⟩ := hr
          rw [hnx] at K
          exact lv_iand Fx Fb hd K
        next => cases hs1
      next => cases hx
    case ior =>
      have hx : ev_nx pc ls (ev_ii st (fun x y => x ||| y)) = some (pc', ls', st') := hx
      unfold ev_nx ev_ii at hx
      split at hx
      next st1 hs1 =>
        split at hs1
        next =>
          cases hs1
          cases hx
          have K := K lsC hLH
          obtain ⟨raw, len, hd, hr⟩ := ev_okI_dec hok (by intro h; cases h) (by intro h; cases h)
          simp only [ev_okR, Bool.and_eq_true, decide_eq_true_eq] at hr
          obtain ⟨⟨rfl, rfl⟩, hnx⟩ := hr
          rw [hnx] at K
          exact lv_ior Fx Fb hd K
        next => cases hs1
      next => cases hx
    case ixor =>
      have hx : ev_nx pc ls (ev_ii st (fun x y => x ^^^ y)) = some (pc', ls', st') := hx
      unfold ev_nx ev_ii at hx
      split at hx
      next st1 hs1 =>
        split at hs1
        next =>
          cases hs1
          cases hx
          have K := K lsC hLH
          obtain ⟨raw, len, hd, hr⟩ := ev_okI_dec hok (by intro h; cases h) (by intro h; cases h)
          simp only [ev_okR, Bool.and_eq_true, decide_eq_true_eq] at hr
          obtain ⟨⟨rfl, rfl⟩, hnx⟩ := hr
          rw [hnx] at K
          exact lv_ixor Fx Fb hd K
        next => cases hs1
      next => cases hx
    case ishl =>
      have hx : ev_nx pc ls (ev_ii st (fun x y => x <<< (y &&& 31))) = some (pc', ls', st') := hx
      unfold ev_nx ev_ii at hx
      split at hx
      next st1 hs1 =>
        split at hs1
        next =>
          cases hs1
          cases hx
          have K := K lsC hLH
          obtain ⟨raw, len, hd, hr⟩ := ev_okI_dec hok (by intro h; cases h) (by intro h; cases h)
          simp only [ev_okR, Bool.and_eq_true, decide_eq_true_eq] at hr
          obtain ⟨⟨rfl, rfl⟩, hnx⟩ := hr
          rw [hnx] at K
          exact lv_ishl Fx Fb hd K
        next => cases hs1
      next => cases hx
    case ishr =>
      have hx : ev_nx pc ls (ev_ii st (fun x y => x >>> (y &&& 31))) = some (pc', ls', st') := hx
      unfold ev_nx ev_ii at hx
      split at hx
      next st1 hs1 =>
        split at hs1
        next =>
          cases hs1
          cases hx
          have K := K lsC hLH
          obtain ⟨raw, len, hd, hr⟩ := ev_okI_dec hok (by intro h; cases h) (by intro h; cases h)
          simp only [ev_okR, Bool.and_eq_true, decide_eq_true_eq] at hr
          obtain ⟨⟨rfl, rfl⟩, hnx⟩ := hr
          rw [hnx] at K
          exact lv_ishr Fx Fb hd K
        next => cases hs1
      next => cases hx
    case iushr =>
      have hx : ev_nx pc ls (ev_ii st (fun x y => (x.toUInt32 >>> (y.toUInt32 &&& Int32.toUInt32 31)).toInt32)) = some (pc', ls', st') := hx
      unfold ev_nx ev_ii at hx
      split at hx
      next st1 hs1 =>
        split at hs1
        next =>
          cases hs1
          cases hx
          have K := K lsC hLH
          obtain ⟨raw, len, hd, hr⟩ := ev_okI_dec hok (by intro h; cases h) (by intro h; cases h)
          simp only [ev_okR, Bool.and_eq_true, decide_eq_true_eq] at hr
          obtain ⟨⟨rfl, rfl⟩, hnx⟩ := hr
          rw [hnx] at K
          exact lv_iushr Fx Fb hd rfl K
        next => cases hs1
      next => cases hx
    case ladd =>
      have hx : ev_nx pc ls (ev_ll st (fun x y => x + y)) = some (pc', ls', st') := hx
      unfold ev_nx ev_ll at hx
      split at hx
      next st1 hs1 =>
        split at hs1
        next =>
          cases hs1
          cases hx
          have K := K lsC hLH
          obtain ⟨raw, len, hd, hr⟩ := ev_okI_dec hok (by intro h; cases h) (by intro h; cases h)
          simp only [ev_okR, Bool.and_eq_true, decide_eq_true_eq] at hr
          obtain ⟨⟨rfl, rfl⟩, hnx⟩ := hr
          rw [hnx] at K
          exact lv_ladd Fx Fb hd K
        next => cases hs1
      next => cases hx
    case lmul =>
      have hx : ev_nx pc ls (ev_ll st (fun x y => x * y)) = some (pc', ls', st') := hx
      unfold ev_nx ev_ll at hx
      split at hx
      next st1 hs1 =>
        split at hs1
        next =>
          cases hs1
          cases hx
          have K := K lsC hLH
          obtain ⟨raw, len, hd, hr⟩ := ev_okI_dec hok (by intro h; cases h) (by intro h; cases h)
          simp only [ev_okR, Bool.and_eq_true, decide_eq_true_eq] at hr
          obtain ⟨⟨rfl, rfl⟩, hnx⟩ := hr
          rw [hnx] at K
          exact lv_lmul Fx Fb hd K
        next => cases hs1
      next => cases hx
    case i2l =>
      have hx : ev_nx pc ls (ev_i1 st (fun x => .long x.toInt64)) = some (pc', ls', st') := hx
      unfold ev_nx ev_i1 at hx
      split at hx
      next st1 hs1 =>
        split at hs1
        next =>
          cases hs1
          cases hx
          have K := K lsC hLH
          obtain ⟨raw, len, hd, hr⟩ := ev_okI_dec hok (by intro h; cases h) (by intro h; cases h)
          simp only [ev_okR, Bool.and_eq_true, decide_eq_true_eq] at hr
          obtain ⟨⟨rfl, rfl⟩, hnx⟩ := hr
          rw [hnx] at K
          exact lv_i2l Fx Fb hd rfl K
        next => cases hs1
      next => cases hx
    case i2b =>
      have hx : ev_nx pc ls (ev_i1 st (fun x => .int x.toInt8.toInt32)) = some (pc', ls', st') := hx
      unfold ev_nx ev_i1 at hx
      split at hx
      next st1 hs1 =>
        split at hs1
        next =>
          cases hs1
          cases hx
          have K := K lsC hLH
          obtain ⟨raw, len, hd, hr⟩ := ev_okI_dec hok (by intro h; cases h) (by intro h; cases h)
          simp only [ev_okR, Bool.and_eq_true, decide_eq_true_eq] at hr
          obtain ⟨⟨rfl, rfl⟩, hnx⟩ := hr
          rw [hnx] at K
          exact lv_i2b Fx Fb hd rfl K
        next => cases hs1
      next => cases hx
    case i2s =>
      have hx : ev_nx pc ls (ev_i1 st (fun x => .int x.toInt16.toInt32)) = some (pc', ls', st') := hx
      unfold ev_nx ev_i1 at hx
      split at hx
      next st1 hs1 =>
        split at hs1
        next =>
          cases hs1
          cases hx
          have K := K lsC hLH
          obtain ⟨raw, len, hd, hr⟩ := ev_okI_dec hok (by intro h; cases h) (by intro h; cases h)
          simp only [ev_okR, Bool.and_eq_true, decide_eq_true_eq] at hr
          obtain ⟨⟨rfl, rfl⟩, hnx⟩ := hr
          rw [hnx] at K
          exact lv_i2s Fx Fb hd rfl K
        next => cases hs1
      next => cases hx
    case i2c =>
      have hx : ev_nx pc ls (ev_i1 st (fun x => .int (x.toUInt32 % 65536).toInt32)) = some (pc', ls', st') := hx
      unfold ev_nx ev_i1 at hx
      split at hx
      next st1 hs1 =>
        split at hs1
        next =>
          cases hs1
          cases hx
          have K := K lsC hLH
          obtain ⟨raw, len, hd, hr⟩ := ev_okI_dec hok (by intro h; cases h) (by intro h; cases h)
          simp only [ev_okR, Bool.and_eq_true, decide_eq_true_eq] at hr
          obtain ⟨⟨rfl, rfl⟩, hnx⟩ := hr
          rw [hnx] at K
          exact lv_i2c Fx Fb hd rfl K
        next => cases hs1
      next => cases hx
    case lcmp =>
      have hx : (match (generalizing := false) st with
        | .long y :: .long x :: r => some (pc + 1, ls, .int (lg_cmp x y) :: r)
        | _ => none) = some (pc', ls', st') := hx
      split at hx
      · cases hx
        have K := K lsC hLH
        obtain ⟨raw, len, hd, hr⟩ := ev_okI_dec hok (by intro h; cases h) (by intro h; cases h)
        simp only [ev_okR, Bool.and_eq_true, decide_eq_true_eq] at hr
        obtain ⟨⟨rfl, rfl⟩, hnx⟩ := hr
        rw [hnx] at K
        exact W.lcmp Fx Fb hd K
      · cases hx
    case dup =>
      have hx : (match (generalizing := false) st with
        | .int x :: r => some (pc + 1, ls, .int x :: .int x :: r)
        | .ref x :: r => some (pc + 1, ls, .ref x :: .ref x :: r)
        | _ => none) = some (pc', ls', st') := hx
      split at hx
      · cases hx
        have K := K lsC hLH
        obtain ⟨raw, len, hd, hr⟩ := ev_okI_dec hok (by intro h; cases h) (by intro h; cases h)
        simp only [ev_okR, Bool.and_eq_true, decide_eq_true_eq] at hr
        obtain ⟨⟨rfl, rfl⟩, hnx⟩ := hr
        rw [hnx] at K
        exact lv_dup Fx Fb hd rfl K
      · cases hx
        have K := K lsC hLH
        obtain ⟨raw, len, hd, hr⟩ := ev_okI_dec hok (by intro h; cases h) (by intro h; cases h)
        simp only [ev_okR, Bool.and_eq_true, decide_eq_true_eq] at hr
        obtain ⟨⟨rfl, rfl⟩, hnx⟩ := hr
        rw [hnx] at K
        exact lv_dup Fx Fb hd rfl K
      · cases hx
    case dup2 =>
      have hx : (match (generalizing := false) st with
        | .int y :: .ref x :: r => some (pc + 1, ls, .int y :: .ref x :: .int y :: .ref x :: r)
        | _ => none) = some (pc', ls', st') := hx
      split at hx
      · cases hx
        have K := K lsC hLH
        obtain ⟨raw, len, hd, hr⟩ := ev_okI_dec hok (by intro h; cases h) (by intro h; cases h)
        simp only [ev_okR, Bool.and_eq_true, decide_eq_true_eq] at hr
        obtain ⟨⟨rfl, rfl⟩, hnx⟩ := hr
        rw [hnx] at K
        exact lv_dup2_11 Fx Fb hd rfl rfl K
      · cases hx
    case pop =>
      have hx : (match (generalizing := false) st with
        | .int _ :: r => some (pc + 1, ls, r)
        | _ => none) = some (pc', ls', st') := hx
      split at hx
      · cases hx
        have K := K lsC hLH
        obtain ⟨raw, len, hd, hr⟩ := ev_okI_dec hok (by intro h; cases h) (by intro h; cases h)
        simp only [ev_okR, Bool.and_eq_true, decide_eq_true_eq] at hr
        obtain ⟨⟨rfl, rfl⟩, hnx⟩ := hr
        rw [hnx] at K
        exact lv_pop Fx Fb hd rfl K
      · cases hx
    case goto t =>
      cases hx
      have K := K lsC hLH
      obtain ⟨raw, len, hd, hr⟩ := ev_okI_dec hok (by intro h; cases h) (by intro h; cases h)
      simp only [ev_okR] at hr
      split at hr
      · simp only [Bool.and_eq_true, decide_eq_true_eq] at hr
        obtain ⟨ht, rfl⟩ := hr
        exact lv_goto Fx Fb hd ht K
      · cases hr
    all_goals (exact absurd hx (by intro h; cases h))
end STEP
end
section
theorem ev_lsw_off (pb : List Nat) (pc : Nat) (x : Int) (d d' : Int) (hd : (pc : Int) + d' = ev_tg pb d) : ∀ (ps ps' : List (Int × Int)), ps'.map (fun o => (o.1, (pc : Int) + o.2)) = ps.map (fun t => (t.1, ev_tg pb t.2)) → (pc : Int) + Op.lookupswitch.offset ps' d' x = ev_tg pb (Op.lookupswitch.offset ps d x)
  | [], [], _ => hd
  | [], _ :: _, h => by cases h
  | _ :: _, [], h => by cases h
  | (a, t) :: ps, (a', o) :: ps', h => by
    simp only [List.map_cons, List.cons.injEq, Prod.mk.injEq] at h
    obtain ⟨⟨rfl, h1⟩, h2⟩ := h
    have ih := ev_lsw_off pb pc x d d' hd ps ps' h2
    rw [Op.lookupswitch.offset_cons, Op.lookupswitch.offset_cons]
    split
    · exact h1
    · exact ih
section STEPB
variable {base : Nat} {ra : Nat → Nat} {fv : Value} {aC : Nat → ClassId} {D : va_G} {scr : List Int32}
variable {p : Program} {l : Launch} {e : Env} {R : Room} {s : State} {m : MethodId} {args : Array Value} {below : List Frame} {meth : Method} {c : Code} {H : Heap} {locs : List Loc} {cells slots : Nat} {Q : State → Prop} {mi : Nat}
set_option maxHeartbeats 4000000 in
theorem ev_wB (Fr : ev_F base ra fv aC D scr p s m args meth c mi) (hmi : mi < 214) {i : ev_I} {pc pc' : Nat} {st st' : List Value} (hf : ev_ft (ev_cd mi) pc = some i) (hx : ev_xB i pc st = some (pc', st')) {lsC : Array Slot}
    (K : W p l e R s m args below meth c H locs cells slots Q (F0 m ((ev_pb mi).getD pc' 0) lsC (st'.map (ev_vl base ra fv)))) :
    W p l e R s m args below meth c H locs cells slots Q (F0 m ((ev_pb mi).getD pc 0) lsC (st.map (ev_vl base ra fv))) := by
  have hok := ev_okL_at _ _ _ _ _ _ _ _ _ (ev_ok mi hmi) hf
  obtain ⟨Fx, Fb, Fr1, Fl, Fo, Fw, -, -, FK, FR, -⟩ := Fr
  cases i with
  | inr v => cases hx
  | inl ins =>
    cases ins
    case if_icmp cnd t =>
      have hx : (match (generalizing := false) st with
        | .int y :: .int x :: r => some (ev_br (ev_cb cnd x y) t.toNat (pc + 1), r)
        | _ => none) = some (pc', st') := hx
      split at hx
      · cases hx
        obtain ⟨raw, len, hd, hr⟩ := ev_okI_dec hok (by intro h; cases h) (by intro h; cases h)
        simp only [ev_okR] at hr
        split at hr
        next cnd1 off =>
          simp only [Bool.and_eq_true, decide_eq_true_eq] at hr
          obtain ⟨⟨⟨hcc, ht⟩, rfl⟩, hnx⟩ := hr
          rw [hcc] at hd
          cases hc : ev_cb _ _ _ with
          | true =>
            rw [hc] at K
            have K : W p l e R s m args below meth c H locs cells slots Q (F0 m ((ev_pb mi).getD t.toNat 0) lsC _) := K
            cases cnd
            · exact lv_icmp_eq Fx Fb hd ht (fun _ => K) (fun q => absurd (of_decide_eq_true hc) (by first | exact q | exact fun z => z q))
            · exact lv_icmp_ne Fx Fb hd ht (fun _ => K) (fun q => absurd (of_decide_eq_true hc) (by first | exact q | exact fun z => z q))
            · exact lv_icmp_lt Fx Fb hd ht (fun _ => K) (fun q => absurd (of_decide_eq_true hc) (by first | exact q | exact fun z => z q))
            · exact lv_icmp_ge Fx Fb hd ht (fun _ => K) (fun q => absurd (of_decide_eq_true hc) (by first | exact q | exact fun z => z q))
            · exact lv_icmp_gt Fx Fb hd ht (fun _ => K) (fun q => absurd (of_decide_eq_true hc) (by first | exact q | exact fun z => z q))
            · exact lv_icmp_le Fx Fb hd ht (fun _ => K) (fun q => absurd (of_decide_eq_true hc) (by first | exact q | exact fun z => z q))
          | false =>
            rw [hc] at K
            have K : W p l e R s m args below meth c H locs cells slots Q (F0 m ((ev_pb mi).getD (pc + 1) 0) lsC _) := K
            rw [hnx] at K
            cases cnd
            · exact lv_icmp_eq Fx Fb hd ht (fun q => absurd q (of_decide_eq_false hc)) (fun _ => K)
            · exact lv_icmp_ne Fx Fb hd ht (fun q => absurd q (of_decide_eq_false hc)) (fun _ => K)
            · exact lv_icmp_lt Fx Fb hd ht (fun q => absurd q (of_decide_eq_false hc)) (fun _ => K)
            · exact lv_icmp_ge Fx Fb hd ht (fun q => absurd q (of_decide_eq_false hc)) (fun _ => K)
            · exact lv_icmp_gt Fx Fb hd ht (fun q => absurd q (of_decide_eq_false hc)) (fun _ => K)
            · exact lv_icmp_le Fx Fb hd ht (fun q => absurd q (of_decide_eq_false hc)) (fun _ => K)
        · cases hr
      · cases hx
    case ifCond cnd t =>
      have hx : (match (generalizing := false) st with
        | .int x :: r => some (ev_br (ev_cb cnd x 0) t.toNat (pc + 1), r)
        | _ => none) = some (pc', st') := hx
      split at hx
      · cases hx
        obtain ⟨raw, len, hd, hr⟩ := ev_okI_dec hok (by intro h; cases h) (by intro h; cases h)
        simp only [ev_okR] at hr
        split at hr
        next cnd1 off =>
          simp only [Bool.and_eq_true, decide_eq_true_eq] at hr
          obtain ⟨⟨⟨hcc, ht⟩, rfl⟩, hnx⟩ := hr
          rw [hcc] at hd
          cases hc : ev_cb _ _ _ with
          | true =>
            rw [hc] at K
            have K : W p l e R s m args below meth c H locs cells slots Q (F0 m ((ev_pb mi).getD t.toNat 0) lsC _) := K
            cases cnd
            · exact lv_if_eq Fx Fb hd ht (fun _ => K) (fun q => absurd (of_decide_eq_true hc) (by first | exact q | exact fun z => z q))
            · exact lv_if_ne Fx Fb hd ht (fun _ => K) (fun q => absurd (of_decide_eq_true hc) (by first | exact q | exact fun z => z q))
            · exact lv_if_lt Fx Fb hd ht (fun _ => K) (fun q => absurd (of_decide_eq_true hc) (by first | exact q | exact fun z => z q))
            · exact lv_if_ge Fx Fb hd ht (fun _ => K) (fun q => absurd (of_decide_eq_true hc) (by first | exact q | exact fun z => z q))
            · exact lv_if_gt Fx Fb hd ht (fun _ => K) (fun q => absurd (of_decide_eq_true hc) (by first | exact q | exact fun z => z q))
            · exact lv_if_le Fx Fb hd ht (fun _ => K) (fun q => absurd (of_decide_eq_true hc) (by first | exact q | exact fun z => z q))
          | false =>
            rw [hc] at K
            have K : W p l e R s m args below meth c H locs cells slots Q (F0 m ((ev_pb mi).getD (pc + 1) 0) lsC _) := K
            rw [hnx] at K
            cases cnd
            · exact lv_if_eq Fx Fb hd ht (fun q => absurd q (of_decide_eq_false hc)) (fun _ => K)
            · exact lv_if_ne Fx Fb hd ht (fun q => absurd q (of_decide_eq_false hc)) (fun _ => K)
            · exact lv_if_lt Fx Fb hd ht (fun q => absurd q (of_decide_eq_false hc)) (fun _ => K)
            · exact lv_if_ge Fx Fb hd ht (fun q => absurd q (of_decide_eq_false hc)) (fun _ => K)
            · exact lv_if_gt Fx Fb hd ht (fun q => absurd q (of_decide_eq_false hc)) (fun _ => K)
            · exact lv_if_le Fx Fb hd ht (fun q => absurd q (of_decide_eq_false hc)) (fun _ => K)
        · cases hr
      · cases hx
    case tableswitch d0 lo hi offs =>
      have hx : (match (generalizing := false) st with
        | .int x :: r => some (if x.toInt < lo ∨ hi < x.toInt then d0.toNat else (offs.toList.getD (x.toInt - lo).toNat d0).toNat, r)
        | _ => none) = some (pc', st') := hx
      split at hx
      next x r _ =>
        cases hx
        obtain ⟨raw, len, hd, hr⟩ := ev_okI_dec hok (by intro h; cases h) (by intro h; cases h)
        simp only [ev_okR] at hr
        split at hr
        next d1 lo1 hi1 offs1 =>
          simp only [Bool.and_eq_true, decide_eq_true_eq] at hr
          obtain ⟨⟨⟨⟨rfl, rfl⟩, h1⟩, h2⟩, h3⟩ := hr
          by_cases ho : x.toInt < lo1 ∨ hi1 < x.toInt
          · rw [if_pos ho] at K
            exact lv_tableOut Fx Fb hd ho h1 K
          · rw [if_neg ho] at K
            have hlt : (x.toInt - lo1).toNat < offs.toList.length := by
              rw [Array.length_toList]
              omega
            have hlen : offs1.toList.length = offs.toList.length := by simpa using congrArg List.length h2
            have hq := congrArg (fun q => q[(x.toInt - lo1).toNat]?) h2
            simp only [List.getElem?_map] at hq
            rw [List.getElem?_eq_getElem hlt, List.getElem?_eq_getElem (by rw [hlen]; exact hlt)] at hq
            simp only [Option.map_some, Option.some.injEq] at hq
            have hg : offs.toList.getD (x.toInt - lo1).toNat d0 = offs.toList[(x.toInt - lo1).toNat] := by
              rw [List.getD_eq_getElem?_getD, List.getElem?_eq_getElem hlt]; rfl
            rw [hg] at K
            refine lv_tableIn Fx Fb hd (by omega) (by omega) (off := offs1.toList[(x.toInt - lo1).toNat]'(by rw [hlen]; exact hlt)) ?_ hq K
            rw [← Array.getElem?_toList, List.getElem?_eq_getElem (by rw [hlen]; exact hlt)]
        · cases hr
      · cases hx
    case lookupswitch d0 ps =>
      have hx : (match (generalizing := false) st with
        | .int x :: r => some ((Op.lookupswitch.offset ps.toList d0 x.toInt).toNat, r)
        | _ => none) = some (pc', st') := hx
      split at hx
      next x r _ =>
        cases hx
        obtain ⟨raw, len, hd, hr⟩ := ev_okI_dec hok (by intro h; cases h) (by intro h; cases h)
        simp only [ev_okR] at hr
        split at hr
        next d1 ps1 =>
          simp only [Bool.and_eq_true, decide_eq_true_eq] at hr
          obtain ⟨⟨h1, h2⟩, h3⟩ := hr
          exact lv_lookup Fx Fb hd h3 rfl (ev_lsw_off _ _ _ _ _ h1 _ _ h2) K
        · cases hr
      · cases hx
    case idiv =>
      have hx : (match (generalizing := false) st with
        | .int y :: .int x :: r => if y = 0 then none else some (pc + 1, .int (x / y) :: r)
        | _ => none) = some (pc', st') := hx
      split at hx
      next y x r _ =>
        by_cases hy : y = 0
        · rw [if_pos hy] at hx
          cases hx
        · rw [if_neg hy] at hx
          cases hx
          obtain ⟨raw, len, hd, hr⟩ := ev_okI_dec hok (by intro h; cases h) (by intro h; cases h)
          simp only [ev_okR, Bool.and_eq_true, decide_eq_true_eq] at hr
          obtain ⟨⟨rfl, rfl⟩, hnx⟩ := hr
          rw [hnx] at K
          exact lv_idiv Fx Fb hd hy K
      · cases hx
    case irem =>
      have hx : (match (generalizing := false) st with
        | .int y :: .int x :: r => if y = 0 then none else some (pc + 1, .int (x - x / y * y) :: r)
        | _ => none) = some (pc', st') := hx
      split at hx
      next y x r _ =>
        by_cases hy : y = 0
        · rw [if_pos hy] at hx
          cases hx
        · rw [if_neg hy] at hx
          cases hx
          obtain ⟨raw, len, hd, hr⟩ := ev_okI_dec hok (by intro h; cases h) (by intro h; cases h)
          simp only [ev_okR, Bool.and_eq_true, decide_eq_true_eq] at hr
          obtain ⟨⟨rfl, rfl⟩, hnx⟩ := hr
          rw [hnx] at K
          exact lv_irem Fx Fb hd hy K
      · cases hx
    case ldiv =>
      have hx : (match (generalizing := false) st with
        | .long y :: .long x :: r => if y = 0 then none else some (pc + 1, .long (x / y) :: r)
        | _ => none) = some (pc', st') := hx
      split at hx
      next y x r _ =>
        by_cases hy : y = 0
        · rw [if_pos hy] at hx
          cases hx
        · rw [if_neg hy] at hx
          cases hx
          obtain ⟨raw, len, hd, hr⟩ := ev_okI_dec hok (by intro h; cases h) (by intro h; cases h)
          simp only [ev_okR, Bool.and_eq_true, decide_eq_true_eq] at hr
          obtain ⟨⟨rfl, rfl⟩, hnx⟩ := hr
          rw [hnx] at K
          exact lv_ldiv Fx Fb hd hy K
      · cases hx
    case lrem =>
      have hx : (match (generalizing := false) st with
        | .long y :: .long x :: r => if y = 0 then none else some (pc + 1, .long (x - x / y * y) :: r)
        | _ => none) = some (pc', st') := hx
      split at hx
      next y x r _ =>
        by_cases hy : y = 0
        · rw [if_pos hy] at hx
          cases hx
        · rw [if_neg hy] at hx
          cases hx
          obtain ⟨raw, len, hd, hr⟩ := ev_okI_dec hok (by intro h; cases h) (by intro h; cases h)
          simp only [ev_okR, Bool.and_eq_true, decide_eq_true_eq] at hr
          obtain ⟨⟨rfl, rfl⟩, hnx⟩ := hr
          rw [hnx] at K
          exact lv_lrem Fx Fb hd hy K
      · cases hx
    all_goals (exact absurd hx (by intro h; cases h))
end STEPB
end
section
/-! Writes and new cells, with what the heap's size is behind them. -/
section CELLS
variable {p : Program} {l : Launch} {e : Env} {R : Room} {s : State} {m : MethodId} {args : Array Value} {below : List Frame} {meth : Method} {c : Code} {H : Heap} {locs : List Loc} {cells slots : Nat} {Q : State → Prop}
variable {cc : ByteArray} {pc : Nat} {ls : Array Slot} {rest : List Value} {D : va_G} {cl : List vw_C} {A : Nat → Prop} {a : Nat} {tys : List (ClassId × FieldType)} {ws : va_W} {H0 : Heap}
theorem ew_put (hexec : p.tables.exec = Jvm.exec) (hb : c.code = cc) {own ref C : String} {T : u_T} {N ci index : Nat} {Ts : List Cond} (hts : ∀ w ∈ Ts, w.before args s = true) (hin : ∀ w ∈ u_ws C T N, w ∈ Ts) (ty0 : Nat → FieldType) (hty : ∀ k, k < N → parseFieldDescriptor (T k).2.2.1 = some (ty0 k)) (hnm : ∀ a, a < N → ∀ b, b < N → a ≠ b → (T a).2.1 ≠ (T b).2.1) (hown : s.vm.findClass own = some m.cls) (hK : va_K D cl tys s) (hP : va_P D cl ws H) (hD : va_D A ws) (hS0 : va_S A H0 H locs) (q0 : Nat) {fs : List Value} (he : ws[q0]? = some (a, .inr (ci, fs))) (hc : cl[ci]? = some (C, T, N)) (k : Nat) (hk : k < N) (hlink : (Cond.fieldLink own index ref (T k).2.1 (T k).2.2.1).before args s = true) (hsame : ∀ x, s.fieldFound? (T k).1 (T k).2.1 (T k).2.2.1 = some x → s.fieldFound? ref (T k).2.1 (T k).2.2.1 = some x)
    (hfin : (T k).2.2.2 = false ∨ (meth.name = "<init>" ∧ (T k).1 = own)) {v : Value} (hn : narrow (ty0 k) v = v) (hfit : fits (ty0 k) v = true) (hl : k < fs.length)
    (hdg : decode cc pc = .ok (.putfield index, 3)) (kk : ∀ (H1 : Heap) (locs1 : List Loc), H1.size = H.size → va_P D cl (ws.set q0 (a, .inr (ci, fs.set k v))) H1 → va_S A H0 H1 locs1 → W p l e R s m args below meth c H1 locs1 cells slots Q (F0 m (pc + 3) ls rest)) : W p l e R s m args below meth c H locs cells slots Q (F0 m pc ls (v :: .ref a :: rest)) := by
  have hap := va_apart (own := own) hts hin ty0 hty hnm hK hc
  obtain ⟨r, h1, cell, q1, q2, q3, q4⟩ := hP q0 _ he
  have hr : r = (C, T, N) := Option.some.inj (h1.symm.trans hc)
  subst hr
  obtain ⟨hS, hfc, kC, hkC, hkind⟩ := hK.1 ci _ hc
  obtain ⟨cf, kf, fi, f, hi, hsl⟩ := hS k hk
  have hlay := hts _ (hin _ (u_in_lay hk))
  have hst := (u_facts hfc hkC (u_lays hts hin hk) hi).1
  have fin : ∀ (H' : Heap), H'[a]? = some (cell.setSlot (D.2 ci k) v) → H'.size = H.size → (∀ q, q ≠ a → H'[q]? = H[q]?) → W p l e R s m args below meth c H' (locs ++ [⟨a, D.2 ci k⟩]) cells slots Q (F0 m (pc + 3) ls rest) := by
    intro H' e1 e2 e3
    exact kk H' _ e2 (hP.set hD he ⟨_, hc, t_OB.to (V := updV (vp_V fs) k v) ⟨_, e1, q2, q3, t_set q4 hap hk v⟩ (fun j _ => vp_updV_set hl v j)⟩ e3) (hS0.put e2 e3 (hD.2 q0 _ he))
  by_cases hfi : (T k).2.2.2 = true
  · rcases hfin with hf0 | ⟨hin2, hdecl⟩
    · rw [hf0] at hfi; cases hfi
    unfold u_lay at hlay
    rw [if_pos hfi] at hlay
    have hcf : m.cls = cf := by
      obtain ⟨_, _, c', _, _, _, -, -, hf', -, -, -, hown2, -⟩ := Cond.laysFinal_spec hlay
      have e1 : c' = cf := by have := hi.symm.trans hf'; simp at this; exact this.1.symm
      rw [hdecl] at hown2
      rw [← e1]; exact Option.some.inj (hown.symm.trans hown2)
    have h6 := u_fits hfc hkC hkind (Or.inr hlay) hi (hty k hk) hn hfit
    refine W.putFinK hexec hb hown hlink (hsame _ hi) hst hcf hin2 (by rw [q2]; exact h6) q1 q3 (by rw [hsl]; exact k2_hasslot (q4 k hk)) rfl rfl hdg fun H' e1 e2 e3 => ?_
    rw [hsl] at e1 ⊢
    exact fin H' e1 e2 e3
  · unfold u_lay at hlay
    rw [if_neg hfi] at hlay
    have h6 := u_store hfc hkC hkind hlay hi (hty k hk) hn hfit
    refine W.putK hexec hb (f := f) ⟨hown, hlink, ⟨_, _, _, hsame _ hi⟩, hst⟩ (by rw [q2]; exact h6) q1 q3 (by rw [hsl]; exact k2_hasslot (q4 k hk)) rfl rfl hdg fun H' e1 e2 e3 => ?_
    rw [hsl] at e1 ⊢
    exact fin H' e1 e2 e3
theorem ew_iast (hexec : p.tables.exec = Jvm.exec) (hb : c.code = cc) (hK : va_K D cl tys s) (hP : va_P D cl ws H) (hD : va_D A ws) (hS : va_S A H0 H locs) (q0 t0 : Nat) {cA : ClassId} {n : Nat} {f : Nat → Int32} (ha : ws[q0]? = some (a, .inl (cA, n, .inl f))) (ht : tys[t0]? = some (cA, .int)) {i : Int32} {x : Int32} (hin : vp_in i n) (hdg : decode cc pc = .ok (.iastore, 1))
    (kk : ∀ (H1 : Heap) (locs1 : List Loc), H1.size = H.size → va_P D cl (ws.set q0 (a, .inl (cA, n, .inl (upd f i.toNatClampNeg x)))) H1 → va_S A H0 H1 locs1 → W p l e R s m args below meth c H1 locs1 cells slots Q (F0 m (pc + 1) ls rest)) : W p l e R s m args below meth c H locs cells slots Q (F0 m pc ls (.int x :: .int i :: .ref a :: rest)) := by
  refine W.iast hexec hb (hP q0 _ ha) ((hK.2 t0 _ ht).1 n (fun j => .int (f j))) (fun q => by cases q) (by show ¬ (i < 0 ∨ (arrV _ _ _).slots.size ≤ _); rw [arrV_size]; exact hin) rfl rfl hdg fun H1 e z oq => ?_
  refine kk H1 _ z (hP.set hD ha ?_ oq) (hS.put z oq (hD.2 q0 _ ha))
  show H1[a]? = some (vp_cell _ _)
  rw [e, vp_cell_i, vp_cell_i, arrV_store]
  congr 2
  funext q
  by_cases hq : q = i.toNatClampNeg
  · subst hq
    simp [updV, upd]
  · simp [updV, upd, hq]
theorem ew_bast (hexec : p.tables.exec = Jvm.exec) (hb : c.code = cc) (hK : va_K D cl tys s) (hP : va_P D cl ws H) (hD : va_D A ws) (hS : va_S A H0 H locs) (q0 t0 : Nat) {cA : ClassId} {n : Nat} {f : Nat → Int32} (ha : ws[q0]? = some (a, .inl (cA, n, .inl f))) (ht : tys[t0]? = some (cA, .byte)) {i : Int32} {x : Int32} (hin : vp_in i n) (hdg : decode cc pc = .ok (.bastore, 1))
    (kk : ∀ (H1 : Heap) (locs1 : List Loc), H1.size = H.size → va_P D cl (ws.set q0 (a, .inl (cA, n, .inl (upd f i.toNatClampNeg (vp_nar .byte x))))) H1 → va_S A H0 H1 locs1 → W p l e R s m args below meth c H1 locs1 cells slots Q (F0 m (pc + 1) ls rest)) : W p l e R s m args below meth c H locs cells slots Q (F0 m pc ls (.int x :: .int i :: .ref a :: rest)) := by
  refine W.bast hexec hb (hP q0 _ ha) ((hK.2 t0 _ ht).1 n (fun j => .int (f j))) (fun q => by cases q) (by show ¬ (i < 0 ∨ (arrV _ _ _).slots.size ≤ _); rw [arrV_size]; exact hin) rfl rfl hdg fun H1 e z oq => ?_
  refine kk H1 _ z (hP.set hD ha ?_ oq) (hS.put z oq (hD.2 q0 _ ha))
  show H1[a]? = some (vp_cell _ _)
  rw [e, vp_cell_i, vp_cell_i, arrV_store]
  congr 2
  funext q
  by_cases hq : q = i.toNatClampNeg
  · subst hq
    simp [updV, upd, vp_nar]
    try rfl
  · simp [updV, upd, hq]
theorem ew_zast (hexec : p.tables.exec = Jvm.exec) (hb : c.code = cc) (hK : va_K D cl tys s) (hP : va_P D cl ws H) (hD : va_D A ws) (hS : va_S A H0 H locs) (q0 t0 : Nat) {cA : ClassId} {n : Nat} {f : Nat → Int32} (ha : ws[q0]? = some (a, .inl (cA, n, .inl f))) (ht : tys[t0]? = some (cA, .boolean)) {i : Int32} {x : Int32} (hin : vp_in i n) (hdg : decode cc pc = .ok (.bastore, 1))
    (kk : ∀ (H1 : Heap) (locs1 : List Loc), H1.size = H.size → va_P D cl (ws.set q0 (a, .inl (cA, n, .inl (upd f i.toNatClampNeg (vp_nar .boolean x))))) H1 → va_S A H0 H1 locs1 → W p l e R s m args below meth c H1 locs1 cells slots Q (F0 m (pc + 1) ls rest)) : W p l e R s m args below meth c H locs cells slots Q (F0 m pc ls (.int x :: .int i :: .ref a :: rest)) := by
  refine W.zast hexec hb (hP q0 _ ha) ((hK.2 t0 _ ht).1 n (fun j => .int (f j))) (fun q => by cases q) (by show ¬ (i < 0 ∨ (arrV _ _ _).slots.size ≤ _); rw [arrV_size]; exact hin) rfl rfl hdg fun H1 e z oq => ?_
  refine kk H1 _ z (hP.set hD ha ?_ oq) (hS.put z oq (hD.2 q0 _ ha))
  show H1[a]? = some (vp_cell _ _)
  rw [e, vp_cell_i, vp_cell_i, arrV_store]
  congr 2
  funext q
  by_cases hq : q = i.toNatClampNeg
  · subst hq
    simp [updV, upd, vp_nar]
    try rfl
  · simp [updV, upd, hq]
theorem ew_astq (hexec : p.tables.exec = Jvm.exec) (hb : c.code = cc) (hK : va_K D cl tys s) (hP : va_P D cl ws H) (hD : va_D A ws) (hS : va_S A H0 H locs) (q0 t0 qk ci : Nat) {cA : ClassId} {r : vw_C} {n v : Nat} {vs : List Value} {f : Nat → Option Nat} (ha : ws[q0]? = some (a, .inl (cA, n, .inr (.inr (.inr (.inr f)))))) (ht : tys[t0]? = some (cA, .object r.1)) (hv : ws[qk]? = some (v, .inr (ci, vs))) (hc : cl[ci]? = some r) {i : Int32} (hin : vp_in i n) (hdg : decode cc pc = .ok (.aastore, 1))
    (kk : ∀ (H1 : Heap) (locs1 : List Loc), H1.size = H.size → va_P D cl (ws.set q0 (a, .inl (cA, n, .inr (.inr (.inr (.inr (va_up f i.toNatClampNeg (some v)))))))) H1 → va_S A H0 H1 locs1 → W p l e R s m args below meth c H1 locs1 cells slots Q (F0 m (pc + 1) ls rest)) : W p l e R s m args below meth c H locs cells slots Q (F0 m pc ls (.ref v :: .int i :: .ref a :: rest)) := by
  have hlt : i.toNatClampNeg < n := Nat.not_le.mp fun q => hin (Or.inr q)
  have h0 : ¬ i < 0 := fun q => hin (Or.inl q)
  obtain ⟨r', hr', cellV, g1, g2, g3, -⟩ := hP qk _ hv
  have hcls := (hK.1 ci r hc).2
  obtain ⟨kA, comp, k1, k2, k3, -⟩ := (hK.2 t0 _ ht).2
  have hcomp : comp = D.1 ci := Option.some.inj (k3.symm.trans hcls.1)
  subst hcomp
  obtain ⟨kC, hkC, -⟩ := hcls.2
  refine W.aast hexec hb (hP q0 _ ha) (fun q h => by cases h) (fun h => by cases h) k1 k2 rfl hkC ⟨h0, by show _ < (arrV _ _ _).slots.size; rw [arrV_size]; exact hlt⟩ g1 (fun q h => by rw [g3] at h; cases h) (by rw [g2]; exact hkC) (by rw [g2]; exact va_assign hcls) rfl rfl hdg fun H1 e z oq => ?_
  refine kk H1 _ z (hP.set hD ha ?_ oq) (hS.put z oq (hD.2 q0 _ ha))
  show H1[a]? = some (vp_cell _ _)
  rw [e, vp_cell_q, vp_cell_q, arrV_store]
  congr 2
  funext q
  by_cases hq : q = i.toNatClampNeg
  · subst hq
    simp [updV, va_up, va_rf]
  · simp [updV, va_up, hq]
theorem ew_new (hexec : p.tables.exec = Jvm.exec) (hb : c.code = cc) {own C : String} {T : u_T} {N ci index : Nat} {Ts : List Cond} (hts : ∀ w ∈ Ts, w.before args s = true) (hin : ∀ w ∈ u_ws C T N, w ∈ Ts) (ty : Nat → FieldType) (hty : ∀ k, k < N → parseFieldDescriptor (T k).2.2.1 = some (ty k)) (hown : s.vm.findClass own = some m.cls) (hcl : (Cond.classLink own index C).before args s = true) (hinst : (Cond.instantiable C N).before args s = true) (hini : (Cond.initialized C).before args s = true)
    (hK : va_K D cl tys s) (hP : va_P D cl ws H) (hS : va_S A H0 H locs) (hc : cl[ci]? = some (C, T, N)) {fs : List Value} (hfs : ∀ j, j < N → defaultValue (ty j) = vp_V fs j) (hcells : cells + 1 ≤ R.cells) (hslots : slots + N ≤ R.slots) (hdg : decode cc pc = .ok (.new index, 3))
    (kk : ∀ (H1 : Heap), H1.size = H.size + 1 → va_P D cl (ws ++ [(H.size, .inr (ci, fs))]) H1 → va_S A H0 H1 locs →
      W p l e R s m args below meth c H1 locs (cells + 1) (slots + N) Q (F0 m (pc + 3) ls (.ref H.size :: rest))) : W p l e R s m args below meth c H locs cells slots Q (F0 m pc ls rest) := by
  have hKn := hK.1 ci _ hc
  refine W.newcK hexec hb hown hcl hinst hini rfl hdg hcells hslots hKn.2.1 rfl fun H1 kC hkC e1 z1 o1 => ?_
  have hk : ∀ (k : Nat) (x : Nat × va_E), ws[k]? = some x → H1[x.1]? = H[x.1]? := fun k x hx => o1 x.1 ((hP k x hx).lt)
  refine kk H1 z1 ((hP.kept hk).app (fun k x hx => ?_)) ⟨Nat.le_trans hS.1 (by omega), fun x h1 h2 => (o1 x (Nat.lt_of_lt_of_le h1 hS.1)).trans (hS.2.1 x h1 h2), hS.2.2⟩
  have hz : k < 1 := (List.getElem?_eq_some_iff.mp hx).1
  rw [show k = 0 by omega] at hx
  cases hx
  exact ⟨_, hc, (u_born ty hts hin hKn hkC e1 hty).to hfs⟩
theorem ew_newa (hexec : p.tables.exec = Jvm.exec) (hb : c.code = cc) {atype : ArrayType} (harr : (Cond.arrayClass (newarray.typeOf atype)).before args s = true) {ty : FieldType} (hty : newarray.typeOf atype = ty) (hP : va_P D cl ws H) (hS : va_S A H0 H locs)
    {n : Int32} {N' : Nat} {a0 : vp_A} (ha : ∀ cA : ClassId, vp_cell cA a0 = arrV cA N' (fun _ => defaultValue ty)) {cA0 : ClassId} (hcA : s.vm.findClass ("[" ++ ty.toString) = some cA0) (hn : ¬ n < 0) (hN : n.toNatClampNeg = N') (hbytes : N' * componentBytes ty ≤ 536870912) (hcells : cells + 1 ≤ R.cells) (hslots : slots + N' ≤ R.slots) (hdg : decode cc pc = .ok (.newarray atype, 2))
    (kk : ∀ (H1 : Heap), H1.size = H.size + 1 → va_P D cl (ws ++ [(H.size, .inl (cA0, a0))]) H1 → va_S A H0 H1 locs →
      W p l e R s m args below meth c H1 locs (cells + 1) (slots + N') Q (F0 m (pc + 2) ls (.ref H.size :: rest))) : W p l e R s m args below meth c H locs cells slots Q (F0 m pc ls (.int n :: rest)) := by
  subst hty
  refine va_newaK hexec hb harr rfl hdg rfl hn hN hbytes hcells hslots rfl fun H1 cA e1 z1 o1 hAr hNm => ?_
  have hcc : cA = cA0 := Option.some.inj (hNm.symm.trans hcA)
  subst hcc
  have hk : ∀ (k : Nat) (x : Nat × va_E), ws[k]? = some x → H1[x.1]? = H[x.1]? := fun k x hx => o1 x.1 ((hP k x hx).lt)
  refine kk H1 z1 ((hP.kept hk).app (fun k x hx => ?_)) ⟨Nat.le_trans hS.1 (by omega), fun x h1 h2 => (o1 x (Nat.lt_of_lt_of_le h1 hS.1)).trans (hS.2.1 x h1 h2), hS.2.2⟩
  have hz : k < 1 := (List.getElem?_eq_some_iff.mp hx).1
  rw [show k = 0 by omega] at hx
  cases hx
  show H1[H.size]? = some (vp_cell _ _)
  rw [ha]
  exact e1
theorem ew_newq (hexec : p.tables.exec = Jvm.exec) (hb : c.code = cc) {own C : String} {index : Nat} (hown : s.vm.findClass own = some m.cls) (hclink : (Cond.classLink own index C).before args s = true) (hover : va_AO C s) (hP : va_P D cl ws H) (hS : va_S A H0 H locs)
    {n : Int32} {N' : Nat} {cA0 : ClassId} (hcA : s.vm.findClass ("[" ++ (FieldType.object C).toString) = some cA0) (hn : ¬ n < 0) (hN : n.toNatClampNeg = N') (hbytes : N' * 4 ≤ 536870912) (hcells : cells + 1 ≤ R.cells) (hslots : slots + N' ≤ R.slots) (hdg : decode cc pc = .ok (.anewarray index, 3))
    (kk : ∀ (H1 : Heap), H1.size = H.size + 1 → va_P D cl (ws ++ [(H.size, .inl (cA0, N', .inr (.inr (.inr (.inr (fun _ => none))))))]) H1 → va_S A H0 H1 locs →
      W p l e R s m args below meth c H1 locs (cells + 1) (slots + N') Q (F0 m (pc + 3) ls (.ref H.size :: rest))) : W p l e R s m args below meth c H locs cells slots Q (F0 m pc ls (.int n :: rest)) := by
  subst hN
  refine W.anew hexec hb hown hclink (va_AO.use hover) rfl hdg rfl hn hbytes hcells hslots fun cA kA comp f1 f2 f3 f4 => ?_
  have hcc : cA = cA0 := Option.some.inj (f1.symm.trans hcA)
  subst hcc
  generalize hH1 : H.push ({ cls := cA, slots := Array.replicate n.toNatClampNeg .null, vm := .none } : Cell) = H1
  have z1 : H1.size = H.size + 1 := by rw [← hH1, Array.size_push]
  have e1 : H1[H.size]? = some (arrV cA n.toNatClampNeg (fun _ => .null)) := by rw [← hH1, Array.getElem?_push_size, ← arrV_new]
  have o1 : ∀ q : Nat, q < H.size → H1[q]? = H[q]? := fun q hq => by rw [← hH1, Array.getElem?_push, if_neg (Nat.ne_of_lt hq)]
  have hk : ∀ (k : Nat) (x : Nat × va_E), ws[k]? = some x → H1[x.1]? = H[x.1]? := fun k x hx => o1 x.1 ((hP k x hx).lt)
  refine kk H1 z1 ((hP.kept hk).app (fun k x hx => ?_)) ⟨Nat.le_trans hS.1 (by omega), fun x h1 h2 => (o1 x (Nat.lt_of_lt_of_le h1 hS.1)).trans (hS.2.1 x h1 h2), hS.2.2⟩
  have hz : k < 1 := (List.getElem?_eq_some_iff.mp hx).1
  rw [show k = 0 by omega] at hx
  cases hx
  show H1[H.size]? = some (vp_cell _ _)
  rw [vp_cell_q]
  exact e1
/-- behind a call -/
theorem ew_cont {pc : Nat} {ls : Array Slot} {rest st0 : List Value} {A0 : Nat → Prop} {mc ms : Nat} {free : Addr → Prop} {v : Option Value} {B : State → Prop} {a : Array Value}
    (hr : va_Run p l e R s m args below meth c H locs cells slots mc ms (F0 m pc ls st0) rest (fun st oc t => oc = .returned v ∧ B t ∧ va_F A0 st t) free) (hS : va_S A0 H0 H locs) (hf : ∀ q, free q → A0 q)
    (kk : ∀ (t : State) (H1 : Heap) (locs1 : List Loc), t.heap = H1 → B t → va_S A0 H0 H1 locs1 → W p l e R s m args below meth c H1 locs1 (cells + mc) (slots + ms) Q (F0 m (pc + 3) ls (v.toList ++ rest))) : W p l e R s m args below meth c H locs cells slots Q (F0 m pc ls st0) := by
  intro T hT X
  obtain ⟨v', st₀, t, T', L, h0, X', hL, e1, e2, ⟨hv, hb, hz, hk⟩, st⟩ := hr T hT X
  cases hv
  rw [h0] at hz hk
  obtain ⟨t2, a1, b1⟩ := kk t T'.heap (locs ++ L) e1.symm hb
    ⟨Nat.le_trans hS.1 (by rw [e1]; exact hz), fun q h1 h2 => by rw [e1, hk q (Nat.lt_of_lt_of_le h1 hS.1) h2]; exact hS.2.1 q h1 h2, fun q hq => by
      rcases List.mem_append.mp hq with h | h
      · exact hS.2.2 q h
      · exact hf _ (hL q h)⟩ T' rfl X'
  exact ⟨t2, st t2 a1, b1⟩
end CELLS
end
section
theorem ev_in_vp {j : Int32} {n : Nat} (h : ev_in j n = true) : vp_in j n := by
  simp only [ev_in, Bool.not_eq_true', Bool.or_eq_false_iff, decide_eq_false_iff_not] at h
  rintro (q | q)
  · exact h.1 q
  · exact h.2 q
theorem ev_upd_set (xs : List Int32) {j : Nat} (hj : j < xs.length) (x : Int32) : upd (fun q => xs.getD q 0) j x = fun q => (xs.set j x).getD q 0 := by
  funext q
  by_cases hq : q = j
  · subst hq
    simp [upd, hj]
  · simp [upd, hq, Ne.symm hq, List.getD_eq_getElem?_getD, List.getElem?_set]
theorem ev_vp_lt {j : Int32} {n : Nat} (h : vp_in j n) : j.toNatClampNeg < n := Nat.not_le.mp fun q => h (Or.inr q)
theorem ev_cl_get {c : Nat} (h : c < 7) : ev_cl[c]? = some (ev_cn c, ev_T c, ev_N c) := by
  match c, h with
  | 0, _ => rfl
  | 1, _ => rfl
  | 2, _ => rfl
  | 3, _ => rfl
  | 4, _ => rfl
  | 5, _ => rfl
  | 6, _ => rfl
theorem ev_nmok {c : Nat} (h : c < 7) : ∀ a, a < ev_N c → ∀ b, b < ev_N c → a ≠ b → (ev_T c a).2.1 ≠ (ev_T c b).2.1 := by
  match c, h with
  | 0, _ => exact nmX0
  | 1, _ => exact nmX1
  | 2, _ => exact nmX2
  | 3, _ => exact nmX3
  | 4, _ => exact nmX4
  | 5, _ => exact nmX5
  | 6, _ => exact nmX6
theorem ev_tyok {c : Nat} (h : c < 7) : ∀ k, k < ev_N c → parseFieldDescriptor (ev_T c k).2.2.1 = some (ev_ty c k) := by
  match c, h with
  | 0, _ => exact tyX0_ok
  | 1, _ => exact tyX1_ok
  | 2, _ => exact tyX2_ok
  | 3, _ => exact tyX3_ok
  | 4, _ => exact tyX4_ok
  | 5, _ => exact tyX5_ok
  | 6, _ => exact tyX6_ok
theorem ev_lays_full : (List.range 7).all (fun c => (List.range (ev_N c)).all (fun k => ev_lays.any (fun e => decide (e.1 = c) && decide (e.2.1 = k)))) = true := by decide +kernel
theorem ev_uws {c : Nat} (h : c < 7) : ∀ w ∈ u_ws (ev_cn c) (ev_T c) (ev_N c), w ∈ ev_UW := by
  intro w hw
  obtain ⟨k, hk, rfl⟩ := List.mem_map.mp hw
  have h1 := ev_all ev_lays_full h
  have h2 := ev_all h1 (List.mem_range.mp hk)
  obtain ⟨e0, he0, h3⟩ := List.any_eq_true.mp h2
  simp only [Bool.and_eq_true, decide_eq_true_eq] at h3
  have h4 := ev_word (List.all_eq_true.mp ev_lays_ok _ he0)
  rw [h3.1, h3.2] at h4
  exact h4
theorem ev_df_ok : (List.range 7).all (fun c => decide ((ev_df c).length = ev_N c) && decide (ev_N c ≤ 200) && (List.range (ev_N c)).all (fun k => decide (defaultValue (ev_ty c k) = (ev_df c).getD k .null))) = true := by decide +kernel
theorem ev_df_vl (base : Nat) (ra : Nat → Nat) (fv : Value) {c : Nat} (h : c < 7) : (ev_df c).map (ev_vl base ra fv) = ev_df c := by
  match c, h with
  | 0, _ => rfl
  | 1, _ => rfl
  | 2, _ => rfl
  | 3, _ => rfl
  | 4, _ => rfl
  | 5, _ => rfl
  | 6, _ => rfl
theorem ev_arrw (t : ArrayType) (h : t = .int ∨ t = .byte ∨ t = .boolean) : Cond.arrayClass (newarray.typeOf t) ∈ ev_UW := by
  rcases h with rfl | rfl | rfl
  · exact ev_mem 99 (by decide +kernel) rfl
  · exact ev_mem 159 (by decide +kernel) rfl
  · exact ev_mem 158 (by decide +kernel) rfl
section STEPH
variable {base : Nat} {ra : Nat → Nat} {fv : Value} {aC : Nat → ClassId} {D : va_G} {scr : List Int32}
variable {p : Program} {l : Launch} {e : Env} {R : Room} {s : State} {m : MethodId} {args : Array Value} {below : List Frame} {meth : Method} {c : Code} {H : Heap} {locs : List Loc} {cells slots : Nat} {Q : State → Prop} {mi : Nat}
theorem ev_ce_o {c : Nat} (h : c < 7) (vs : List Value) : ev_ce base ra fv aC (.inr (c, vs)) = .inr (c, vs.map (ev_vl base ra fv)) := by
  unfold ev_ce
  dsimp only
  rw [if_pos h]
theorem ev_ce_q {c : Nat} (h : ¬ c < 7) (vs : List Value) : ev_ce base ra fv aC (.inr (c, vs)) = .inl (aC c, vs.length, .inr (.inr (.inr (.inr (fun j => ev_rf base (vs.getD j .null)))))) := by
  unfold ev_ce
  dsimp only
  rw [if_neg h]
/-- a put of any kind -/
theorem ev_wput (Fr : ev_F base ra fv aC D scr p s m args meth c mi) {ix i a cn pcb : Nat} {h : ev_H} {vs : List Value} {v : Value} {r : List Value} {lsC : Array Slot} (hP : va_P D ev_cl (ev_cw base ra fv aC h) H) (hS : va_S (ev_A base) s.heap H locs) (hd : decode (ev_b mi) pcb = .ok (.putfield ix, 3)) (hfl : (ev_o mi, ix, i) ∈ ev_fls) (hpk : ev_pok (ev_o mi) (ev_ini mi) i = true)
    (hh : h[a]? = some (.inr (cn, vs))) (hc : cn = i / 32) (hl : i % 32 < vs.length) (hn : narrow (ev_ty (i / 32) (i % 32)) (ev_vl base ra fv v) = ev_vl base ra fv v) (hfit : fits (ev_ty (i / 32) (i % 32)) (ev_vl base ra fv v) = true)
    (K : ∀ H1 locs1, H1.size = H.size → va_P D ev_cl (ev_cw base ra fv aC (h.set a (.inr (cn, vs.set (i % 32) v)))) H1 → va_S (ev_A base) s.heap H1 locs1 → W p l e R s m args below meth c H1 locs1 cells slots Q (F0 m (pcb + 3) lsC r)) :
    W p l e R s m args below meth c H locs cells slots Q (F0 m pcb lsC (ev_vl base ra fv v :: .ref (base + a) :: r)) := by
  obtain ⟨Fx, Fb, Fr1, Fl, Fo, Fw, -, Fn, FK, FR, -⟩ := Fr
  subst hc
  simp only [ev_pok, Bool.and_eq_true, decide_eq_true_eq] at hpk
  obtain ⟨⟨h7, hk⟩, hfin⟩ := hpk
  have he := ev_cw_get base ra fv aC hh
  rw [ev_ce_o h7] at he
  have hlink := Fw _ (ev_fls_in hfl)
  refine ew_put (ref := (ev_T (i / 32) (i % 32)).1) Fx Fb Fw (ev_uws h7) (ev_ty (i / 32)) (ev_tyok h7) (ev_nmok h7) Fo FK hP (ev_cw_D base ra fv aC h) hS a he (ev_cl_get h7) (i % 32) hk hlink (fun _ q => q) ?_ hn hfit (by rw [List.length_map]; exact hl) hd (fun H1 locs1 z1 hP1 hS1 => K H1 locs1 z1 ?_ hS1)
  · rw [Bool.or_eq_true] at hfin
    rcases hfin with q | q
    · left
      simpa [ev_fin] using q
    · right
      simp only [Bool.and_eq_true, decide_eq_true_eq, ev_ini] at q
      exact ⟨Fn q.1, q.2⟩
  · rw [ev_cw_set, ev_ce_o h7, List.map_set]
    exact hP1
set_option maxHeartbeats 4000000 in
theorem ev_wH (Fr : ev_F base ra fv aC D scr p s m args meth c mi) (hmi : mi < 214) {i : ev_I} {pc : Nat} {st st' : List Value} {h h' : ev_H} (hf : ev_ft (ev_cd mi) pc = some i) (hx : ev_xH scr i st h = some (st', h')) {lsC : Array Slot} (hP : va_P D ev_cl (ev_cw base ra fv aC h) H) (hS : va_S (ev_A base) s.heap H locs) (hz : H.size = base + h.length)
    (hcr : cells + (h'.length - h.length) ≤ R.cells) (hsr : slots + 200 * (h'.length - h.length) ≤ R.slots)
    (K : ∀ H1 locs1, va_P D ev_cl (ev_cw base ra fv aC h') H1 → va_S (ev_A base) s.heap H1 locs1 → H1.size = base + h'.length → W p l e R s m args below meth c H1 locs1 (cells + (h'.length - h.length)) (slots + 200 * (h'.length - h.length)) Q (F0 m ((ev_pb mi).getD (pc + 1) 0) lsC (st'.map (ev_vl base ra fv)))) :
    W p l e R s m args below meth c H locs cells slots Q (F0 m ((ev_pb mi).getD pc 0) lsC (st.map (ev_vl base ra fv))) := by
  have hok := ev_okL_at _ _ _ _ _ _ _ _ _ (ev_ok mi hmi) hf
  have Fr0 := Fr
  obtain ⟨Fx, Fb, Fr1, Fl, Fo, Fw, -, -, FK, FR, -⟩ := Fr
  have KR : h' = h → W p l e R s m args below meth c H locs cells slots Q (F0 m ((ev_pb mi).getD (pc + 1) 0) lsC (st'.map (ev_vl base ra fv))) := by
    intro eh
    have K1 := K H locs (by rw [eh]; exact hP) hS (by rw [eh]; exact hz)
    rw [eh, Nat.sub_self, Nat.mul_zero, Nat.add_zero, Nat.add_zero] at K1
    exact K1
  have KW : h'.length = h.length → ∀ H1 locs1, H1.size = H.size → va_P D ev_cl (ev_cw base ra fv aC h') H1 → va_S (ev_A base) s.heap H1 locs1 → W p l e R s m args below meth c H1 locs1 cells slots Q (F0 m ((ev_pb mi).getD (pc + 1) 0) lsC (st'.map (ev_vl base ra fv))) := by
    intro eh H1 locs1 z1 hP1 hS1
    have K1 := K H1 locs1 hP1 hS1 (by rw [z1, eh]; exact hz)
    rw [eh, Nat.sub_self, Nat.mul_zero, Nat.add_zero, Nat.add_zero] at K1
    exact K1
  have KN : h'.length = h.length + 1 → cells + 1 ≤ R.cells ∧ slots + 200 ≤ R.slots ∧ ∀ (N : Nat), N ≤ 200 → ∀ H1, H1.size = H.size + 1 → va_P D ev_cl (ev_cw base ra fv aC h') H1 → va_S (ev_A base) s.heap H1 locs → W p l e R s m args below meth c H1 locs (cells + 1) (slots + N) Q (F0 m ((ev_pb mi).getD (pc + 1) 0) lsC (st'.map (ev_vl base ra fv))) := by
    intro eh
    have e1 : h'.length - h.length = 1 := by omega
    rw [e1] at hcr hsr
    refine ⟨hcr, by omega, fun N hN H1 z1 hP1 hS1 => ?_⟩
    have K1 := K H1 locs hP1 hS1 (by rw [z1, eh, hz]; omega)
    rw [e1] at K1
    exact W.widen (Nat.le_refl _) (by omega) K1
  cases i with
  | inr v => cases hx
  | inl ins =>
    cases ins
    case nop =>
      cases hx
      have K := KR rfl
      have hok : decide ((ev_pb mi).getD (pc + 1) 0 = (ev_pb mi).getD pc 0) = true := hok
      rw [of_decide_eq_true hok] at K
      exact K
    case getfield i =>
      have hx : (match (generalizing := false) st with
        | .ref a :: r => match h[a]? with
          | some (.inr (c, vs)) => match Nat.beq c (i / 32), vs[i % 32]? with
            | true, some v => some (v :: r, h)
            | _, _ => none
          | _ => none
        | _ => none) = some (st', h') := hx
      split at hx
      next a r _ =>
        split at hx
        next cn vs hh =>
          split at hx
          next v hc hv =>
            cases hx
            have K := KR rfl
            obtain ⟨raw, len, hd, hr⟩ := ev_okI_dec hok (by intro h; cases h) (by intro h; cases h)
            simp only [ev_okR] at hr
            split at hr
            next ix =>
              simp only [Bool.and_eq_true, decide_eq_true_eq] at hr
              obtain ⟨⟨⟨⟨rfl, hnx⟩, hfl⟩, h7⟩, hN⟩ := hr
              rw [hnx] at K
              have hcn : cn = i / 32 := Nat.eq_of_beq_eq_true hc
              subst hcn
              have he := ev_cw_get base ra fv aC hh
              rw [ev_ce_o h7] at he
              exact va_get (ref := (ev_T (i / 32) (i % 32)).1) Fx Fb Fw (ev_uws h7) Fo FK hP a he (ev_cl_get h7) (i % 32) hN (Fw _ (ev_fls_in hfl)) (fun _ q => q) (by rw [List.getElem?_map, hv]; rfl) hd K
            · cases hr
          · cases hx
        · cases hx
      · cases hx
    case putfield i =>
      have hx : (match (generalizing := false) st with
        | .int x :: .ref a :: r => match h[a]? with
          | some (.inr (c, vs)) => match Nat.beq c (i / 32), Nat.blt (i % 32) vs.length with
            | true, true => some (r, h.set a (.inr (c, vs.set (i % 32) (.int x))))
            | _, _ => none
          | _ => none
        | _ => none) = some (st', h') := hx
      split at hx
      next x a r _ =>
        split at hx
        next cn vs hh =>
          split at hx
          next hc hl =>
            cases hx
            obtain ⟨raw, len, hd, hr⟩ := ev_okI_dec hok (by intro h; cases h) (by intro h; cases h)
            simp only [ev_okR] at hr
            split at hr
            next ix =>
              simp only [Bool.and_eq_true, decide_eq_true_eq] at hr
              obtain ⟨⟨⟨⟨rfl, hnx⟩, hfl⟩, hpk⟩, hty⟩ := hr
              refine ev_wput (v := .int x) Fr0 hP hS hd hfl hpk hh (Nat.eq_of_beq_eq_true hc) (by simpa [Nat.blt_eq] using hl) (by rw [hty]; rfl) (by rw [hty]; rfl) (fun H1 locs1 z1 hP1 hS1 => ?_)
              rw [← hnx]
              exact KW (by simp) H1 locs1 z1 hP1 hS1
            · cases hr
          · cases hx
        · cases hx
      · cases hx
    case multianewarray i n =>
      have hx : (match (generalizing := false) st with
        | .int x :: .ref a :: r => match h[a]? with
          | some (.inr (c, vs)) => match Nat.beq c (i / 32), Nat.blt (i % 32) vs.length, ev_bz x with
            | true, true, true => some (r, h.set a (.inr (c, vs.set (i % 32) (.int x))))
            | _, _, _ => none
          | _ => none
        | _ => none) = some (st', h') := hx
      split at hx
      next x a r _ =>
        split at hx
        next cn vs hh =>
          split at hx
          next hc hl hbz =>
            cases hx
            obtain ⟨raw, len, hd, hr⟩ := ev_okI_dec hok (by intro h; cases h) (by intro h; cases h)
            simp only [ev_okR] at hr
            split at hr
            next ix =>
              simp only [Bool.and_eq_true, decide_eq_true_eq] at hr
              obtain ⟨⟨⟨⟨rfl, hnx⟩, hfl⟩, hpk⟩, hty⟩ := hr
              have hb01 : x = 0 ∨ x = 1 := by simpa [ev_bz] using hbz
              refine ev_wput (v := .int x) Fr0 hP hS hd hfl hpk hh (Nat.eq_of_beq_eq_true hc) (by simpa [Nat.blt_eq] using hl) (by rw [hty]; rcases hb01 with rfl | rfl <;> rfl) (by rw [hty]; rcases hb01 with rfl | rfl <;> rfl) (fun H1 locs1 z1 hP1 hS1 => ?_)
              rw [← hnx]
              exact KW (by simp) H1 locs1 z1 hP1 hS1
            · cases hr
          · cases hx
        · cases hx
      · cases hx
    case putstatic i =>
      have hx : (match (generalizing := false) st with
        | .ref b :: .ref a :: r => match h[a]? with
          | some (.inr (c, vs)) => match Nat.beq c (i / 32), Nat.blt (i % 32) vs.length with
            | true, true => some (r, h.set a (.inr (c, vs.set (i % 32) (.ref b))))
            | _, _ => none
          | _ => none
        | _ => none) = some (st', h') := hx
      split at hx
      next b a r _ =>
        split at hx
        next cn vs hh =>
          split at hx
          next hc hl =>
            cases hx
            obtain ⟨raw, len, hd, hr⟩ := ev_okI_dec hok (by intro h; cases h) (by intro h; cases h)
            simp only [ev_okR] at hr
            split at hr
            next ix =>
              simp only [Bool.and_eq_true, decide_eq_true_eq] at hr
              obtain ⟨⟨⟨⟨rfl, hnx⟩, hfl⟩, hpk⟩, hty⟩ := hr
              have hty2 : (∃ n, ev_ty (i / 32) (i % 32) = .object n) ∨ ∃ t, ev_ty (i / 32) (i % 32) = .array t := by
                cases ht : ev_ty (i / 32) (i % 32) <;> rw [ht] at hty <;> first | exact Or.inl ⟨_, rfl⟩ | exact Or.inr ⟨_, rfl⟩ | cases hty
              refine ev_wput (v := .ref b) Fr0 hP hS hd hfl hpk hh (Nat.eq_of_beq_eq_true hc) (by simpa [Nat.blt_eq] using hl) (by rcases hty2 with ⟨n, q⟩ | ⟨n, q⟩ <;> rw [q] <;> rfl) (by rcases hty2 with ⟨n, q⟩ | ⟨n, q⟩ <;> rw [q] <;> rfl) (fun H1 locs1 z1 hP1 hS1 => ?_)
              rw [← hnx]
              exact KW (by simp) H1 locs1 z1 hP1 hS1
            · cases hr
          · cases hx
        · cases hx
      · cases hx
    case iaload =>
      have hx : (match (generalizing := false) st with
        | .int j :: .ref a :: r => match h[a]? with
          | some (.inl (0, xs)) => match ev_in j xs.length with
            | true => some (.int (xs.getD j.toNatClampNeg 0) :: r, h)
            | false => none
          | _ => none
        | _ => none) = some (st', h') := hx
      split at hx
      next j a r _ =>
        split at hx
        next xs hh =>
          split at hx
          next hj =>
            cases hx
            have K := KR rfl
            obtain ⟨raw, len, hd, hr⟩ := ev_okI_dec hok (by intro h; cases h) (by intro h; cases h)
            simp only [ev_okR, Bool.and_eq_true, decide_eq_true_eq] at hr
            obtain ⟨⟨rfl, rfl⟩, hnx⟩ := hr
            rw [hnx] at K
            exact va_iald Fx Fb FK hP a 0 (ev_cw_get base ra fv aC hh) rfl (ev_in_vp hj) hd K
          · cases hx
        · cases hx
      · cases hx
    case baload =>
      have hx : (match (generalizing := false) st with
        | .int j :: .ref a :: r => match h[a]? with
          | some (.inl (1, xs)) => match ev_in j xs.length with
            | true => some (.int (xs.getD j.toNatClampNeg 0) :: r, h)
            | false => none
          | some (.inl (2, xs)) => match ev_in j xs.length with
            | true => some (.int (xs.getD j.toNatClampNeg 0) :: r, h)
            | false => none
          | _ => none
        | _ => none) = some (st', h') := hx
      split at hx
      next j a r _ =>
        split at hx
        next xs hh =>
          split at hx
          next hj =>
            cases hx
            have K := KR rfl
            obtain ⟨raw, len, hd, hr⟩ := ev_okI_dec hok (by intro h; cases h) (by intro h; cases h)
            simp only [ev_okR, Bool.and_eq_true, decide_eq_true_eq] at hr
            obtain ⟨⟨rfl, rfl⟩, hnx⟩ := hr
            rw [hnx] at K
            exact va_bald Fx Fb FK hP a 1 (ev_cw_get base ra fv aC hh) rfl (ev_in_vp hj) hd K
          · cases hx
        next xs hh =>
          split at hx
          next hj =>
            cases hx
            have K := KR rfl
            obtain ⟨raw, len, hd, hr⟩ := ev_okI_dec hok (by intro h; cases h) (by intro h; cases h)
            simp only [ev_okR, Bool.and_eq_true, decide_eq_true_eq] at hr
            obtain ⟨⟨rfl, rfl⟩, hnx⟩ := hr
            rw [hnx] at K
            exact va_zald Fx Fb FK hP a 2 (ev_cw_get base ra fv aC hh) rfl (ev_in_vp hj) hd K
          · cases hx
        · cases hx
      · cases hx
    case iastore =>
      have hx : (match (generalizing := false) st with
        | .int x :: .int j :: .ref a :: r => match h[a]? with
          | some (.inl (0, xs)) => match ev_in j xs.length with
            | true => some (r, h.set a (.inl (0, xs.set j.toNatClampNeg x)))
            | false => none
          | _ => none
        | _ => none) = some (st', h') := hx
      split at hx
      next x j a r _ =>
        split at hx
        next xs hh =>
          split at hx
          next hj =>
            cases hx
            obtain ⟨raw, len, hd, hr⟩ := ev_okI_dec hok (by intro h; cases h) (by intro h; cases h)
            simp only [ev_okR, Bool.and_eq_true, decide_eq_true_eq] at hr
            obtain ⟨⟨rfl, rfl⟩, hnx⟩ := hr
            have hv := ev_in_vp hj
            refine ew_iast Fx Fb FK hP (ev_cw_D base ra fv aC h) hS a 0 (ev_cw_get base ra fv aC hh) rfl hv hd (fun H1 locs1 z1 hP1 hS1 => ?_)
            rw [← hnx]
            refine KW (by simp) H1 locs1 z1 ?_ hS1
            rw [ev_cw_set]
            simp only [ev_ce, List.length_set]
            rw [ev_upd_set xs (ev_vp_lt hv)] at hP1
            exact hP1
          · cases hx
        · cases hx
      · cases hx
    case bastore =>
      have hx : (match (generalizing := false) st with
        | .int x :: .int j :: .ref a :: r => match h[a]? with
          | some (.inl (1, xs)) => match ev_in j xs.length with
            | true => some (r, h.set a (.inl (1, xs.set j.toNatClampNeg (vp_nar .byte x))))
            | false => none
          | some (.inl (2, xs)) => match ev_in j xs.length with
            | true => some (r, h.set a (.inl (2, xs.set j.toNatClampNeg (vp_nar .boolean x))))
            | false => none
          | _ => none
        | _ => none) = some (st', h') := hx
      split at hx
      next x j a r _ =>
        split at hx
        next xs hh =>
          split at hx
          next hj =>
            cases hx
            obtain ⟨raw, len, hd, hr⟩ := ev_okI_dec hok (by intro h; cases h) (by intro h; cases h)
            simp only [ev_okR, Bool.and_eq_true, decide_eq_true_eq] at hr
            obtain ⟨⟨rfl, rfl⟩, hnx⟩ := hr
            have hv := ev_in_vp hj
            refine ew_bast Fx Fb FK hP (ev_cw_D base ra fv aC h) hS a 1 (ev_cw_get base ra fv aC hh) rfl hv hd (fun H1 locs1 z1 hP1 hS1 => ?_)
            rw [← hnx]
            refine KW (by simp) H1 locs1 z1 ?_ hS1
            rw [ev_cw_set]
            simp only [ev_ce, List.length_set]
            rw [ev_upd_set xs (ev_vp_lt hv)] at hP1
            exact hP1
          · cases hx
        next xs hh =>
          split at hx
          next hj =>
            cases hx
            obtain ⟨raw, len, hd, hr⟩ := ev_okI_dec hok (by intro h; cases h) (by intro h; cases h)
            simp only [ev_okR, Bool.and_eq_true, decide_eq_true_eq] at hr
            obtain ⟨⟨rfl, rfl⟩, hnx⟩ := hr
            have hv := ev_in_vp hj
            refine ew_zast Fx Fb FK hP (ev_cw_D base ra fv aC h) hS a 2 (ev_cw_get base ra fv aC hh) rfl hv hd (fun H1 locs1 z1 hP1 hS1 => ?_)
            rw [← hnx]
            refine KW (by simp) H1 locs1 z1 ?_ hS1
            rw [ev_cw_set]
            simp only [ev_ce, List.length_set]
            rw [ev_upd_set xs (ev_vp_lt hv)] at hP1
            exact hP1
          · cases hx
        · cases hx
      · cases hx
    case aaload =>
      have hx : (match (generalizing := false) st with
        | .int j :: .ref a :: r => match h[a]? with
          | some (.inr (c, vs)) => match (Nat.beq c 14 || Nat.beq c 12), ev_in j vs.length, vs[j.toNatClampNeg]? with
            | true, true, some (.ref b) => some (.ref b :: r, h)
            | _, _, _ => none
          | _ => none
        | _ => none) = some (st', h') := hx
      split at hx
      next j a r _ =>
        split at hx
        next cn vs hh =>
          split at hx
          next b hc hj hb =>
            cases hx
            have K := KR rfl
            obtain ⟨raw, len, hd, hr⟩ := ev_okI_dec hok (by intro h; cases h) (by intro h; cases h)
            simp only [ev_okR, Bool.and_eq_true, decide_eq_true_eq] at hr
            obtain ⟨⟨rfl, rfl⟩, hnx⟩ := hr
            rw [hnx] at K
            have he := ev_cw_get base ra fv aC hh
            have hg : ev_rf base (vs.getD j.toNatClampNeg .null) = some (base + b) := by
              rw [List.getD_eq_getElem?_getD, hb]; rfl
            rw [Bool.or_eq_true] at hc
            rcases hc with hc | hc
            · have hcn := Nat.eq_of_beq_eq_true hc
              subst hcn
              rw [ev_ce_q (by decide)] at he
              refine va_aldq Fx Fb FK hP a 3 he rfl (ev_in_vp hj) hd ?_
              rw [hg]
              exact K
            · have hcn := Nat.eq_of_beq_eq_true hc
              subst hcn
              rw [ev_ce_q (by decide)] at he
              refine va_aldq Fx Fb FK hP a 4 he rfl (ev_in_vp hj) hd ?_
              rw [hg]
              exact K
          · cases hx
        · cases hx
      · cases hx
    case aastore =>
      have hx : (match (generalizing := false) st with
        | .ref b :: .int j :: .ref a :: r => match h[a]?, h[b]? with
          | some (.inr (c, vs)), some (.inr (cb, _)) => match Nat.beq c (10 + cb), (Nat.beq cb 4 || Nat.beq cb 2), ev_in j vs.length with
            | true, true, true => some (r, h.set a (.inr (c, vs.set j.toNatClampNeg (.ref b))))
            | _, _, _ => none
          | _, _ => none
        | _ => none) = some (st', h') := hx
      split at hx
      next b j a r _ =>
        split at hx
        next cn vs cb vb hh hhb =>
          split at hx
          next hc hcb hj =>
            cases hx
            obtain ⟨raw, len, hd, hr⟩ := ev_okI_dec hok (by intro h; cases h) (by intro h; cases h)
            simp only [ev_okR, Bool.and_eq_true, decide_eq_true_eq] at hr
            obtain ⟨⟨rfl, rfl⟩, hnx⟩ := hr
            have hv := ev_in_vp hj
            have he := ev_cw_get base ra fv aC hh
            have heb := ev_cw_get base ra fv aC hhb
            have hcn := Nat.eq_of_beq_eq_true hc
            subst hcn
            have hup : va_up (fun q => ev_rf base (vs.getD q .null)) j.toNatClampNeg (some (base + b)) = fun q => ev_rf base ((vs.set j.toNatClampNeg (.ref b)).getD q .null) := by
              funext q
              have hlt := ev_vp_lt hv
              by_cases hq : q = j.toNatClampNeg
              · subst hq
                simp [va_up, hlt, ev_rf]
              · simp [va_up, hq, Ne.symm hq, List.getD_eq_getElem?_getD, List.getElem?_set]
            rw [Bool.or_eq_true] at hcb
            rcases hcb with hcb | hcb
            · have hcn := Nat.eq_of_beq_eq_true hcb
              subst hcn
              rw [ev_ce_q (by decide)] at he
              rw [ev_ce_o (by decide)] at heb
              refine ew_astq (r := (ev_cn 4, ev_T 4, ev_N 4)) Fx Fb FK hP (ev_cw_D base ra fv aC h) hS a 3 b 4 he rfl heb rfl hv hd (fun H1 locs1 z1 hP1 hS1 => ?_)
              rw [← hnx]
              refine KW (by simp) H1 locs1 z1 ?_ hS1
              rw [ev_cw_set, ev_ce_q (by decide), List.length_set]
              rw [hup] at hP1
              exact hP1
            · have hcn := Nat.eq_of_beq_eq_true hcb
              subst hcn
              rw [ev_ce_q (by decide)] at he
              rw [ev_ce_o (by decide)] at heb
              refine ew_astq (r := (ev_cn 2, ev_T 2, ev_N 2)) Fx Fb FK hP (ev_cw_D base ra fv aC h) hS a 4 b 2 he rfl heb rfl hv hd (fun H1 locs1 z1 hP1 hS1 => ?_)
              rw [← hnx]
              refine KW (by simp) H1 locs1 z1 ?_ hS1
              rw [ev_cw_set, ev_ce_q (by decide), List.length_set]
              rw [hup] at hP1
              exact hP1
          · cases hx
        · cases hx
      · cases hx
    case new cn =>
      have hx : (match Nat.blt cn 7 with
        | true => some (.ref h.length :: st, h ++ [.inr (cn, ev_df cn)])
        | false => none) = some (st', h') := hx
      split at hx
      next hc7 =>
        cases hx
        obtain ⟨raw, len, hd, hr⟩ := ev_okI_dec hok (by intro h; cases h) (by intro h; cases h)
        simp only [ev_okR] at hr
        split at hr
        next ix =>
          simp only [Bool.and_eq_true, decide_eq_true_eq] at hr
          obtain ⟨⟨⟨rfl, hnx⟩, hcl⟩, h7⟩ := hr
          obtain ⟨k1, k2, k3⟩ := KN (by simp)
          have hdf := ev_all ev_df_ok h7
          simp only [Bool.and_eq_true, decide_eq_true_eq] at hdf
          obtain ⟨⟨d1, d2⟩, d3⟩ := hdf
          refine ew_new (ci := cn) (fs := ev_df cn) Fx Fb Fw (ev_uws h7) (ev_ty cn) (ev_tyok h7) Fo (Fw _ (ev_cls_in hcl)) (Fw _ (ev_inst_in h7)) (Fw _ (ev_init_in (by omega))) FK hP hS (ev_cl_get h7) (fun j hj => of_decide_eq_true (ev_all d3 hj)) k1 (by omega) hd (fun H1 z1 hP1 hS1 => ?_)
          have K1 := k3 (ev_N cn) d2 H1 z1 (by rw [ev_cw_app, ev_ce_o h7, ev_df_vl base ra fv h7, ← hz]; exact hP1) hS1
          rw [hnx] at K1
          rw [hz]
          exact K1
        · cases hr
      · cases hx
    case newarray t =>
      have hx : (match (generalizing := false) st with
        | .int n :: r => match (generalizing := false) ev_in n 201, t with
          | true, .int => some (.ref h.length :: r, h ++ [.inl (0, List.replicate n.toNatClampNeg 0)])
          | true, .byte => some (.ref h.length :: r, h ++ [.inl (1, List.replicate n.toNatClampNeg 0)])
          | true, .boolean => some (.ref h.length :: r, h ++ [.inl (2, List.replicate n.toNatClampNeg 0)])
          | _, _ => none
        | _ => none) = some (st', h') := hx
      have hrep : ∀ (n j : Nat), (List.replicate n (0 : Int32)).getD j 0 = 0 := by
        intro n j
        rw [List.getD_eq_getElem?_getD, List.getElem?_replicate]
        split <;> rfl
      obtain ⟨raw, len, hd, hr⟩ := ev_okI_dec hok (by intro h; cases h) (by intro h; cases h)
      simp only [ev_okR, Bool.and_eq_true, decide_eq_true_eq] at hr
      obtain ⟨⟨rfl, rfl⟩, hnx⟩ := hr
      split at hx
      next n r _ =>
        split at hx
        next =>
          have hn : ev_in n 201 = true := by assumption
          cases hx
          have hv := ev_in_vp hn
          have hlt := ev_vp_lt hv
          obtain ⟨k1, k2, k3⟩ := KN (by simp)
          refine ew_newa (a0 := (n.toNatClampNeg, .inl (fun j => (List.replicate n.toNatClampNeg (0 : Int32)).getD j 0))) (cA0 := aC 0) Fx Fb (Fw _ (ev_arrw .int (Or.inl rfl))) rfl hP hS (fun cA => by rw [vp_cell_i]; congr 1; funext q; rw [hrep]; rfl) (FK.2 0 _ rfl).2 (fun q => hv (Or.inl q)) rfl (Nat.le_trans (Nat.mul_le_mul_right _ (Nat.le_of_lt_succ hlt)) (by decide)) k1 (by omega) hd (fun H1 z1 hP1 hS1 => ?_)
          have K1 := k3 n.toNatClampNeg (by omega) H1 z1 (by rw [ev_cw_app, ← hz]; simp only [ev_ce, List.length_replicate]; exact hP1) hS1
          rw [hnx] at K1
          rw [hz]
          exact K1
        next =>
          have hn : ev_in n 201 = true := by assumption
          cases hx
          have hv := ev_in_vp hn
          have hlt := ev_vp_lt hv
          obtain ⟨k1, k2, k3⟩ := KN (by simp)
          refine ew_newa (a0 := (n.toNatClampNeg, .inl (fun j => (List.replicate n.toNatClampNeg (0 : Int32)).getD j 0))) (cA0 := aC 1) Fx Fb (Fw _ (ev_arrw .byte (Or.inr (Or.inl rfl)))) rfl hP hS (fun cA => by rw [vp_cell_i]; congr 1; funext q; rw [hrep]; rfl) (FK.2 1 _ rfl).2 (fun q => hv (Or.inl q)) rfl (Nat.le_trans (Nat.mul_le_mul_right _ (Nat.le_of_lt_succ hlt)) (by decide)) k1 (by omega) hd (fun H1 z1 hP1 hS1 => ?_)
          have K1 := k3 n.toNatClampNeg (by omega) H1 z1 (by rw [ev_cw_app, ← hz]; simp only [ev_ce, List.length_replicate]; exact hP1) hS1
          rw [hnx] at K1
          rw [hz]
          exact K1
        next =>
          have hn : ev_in n 201 = true := by assumption
          cases hx
          have hv := ev_in_vp hn
          have hlt := ev_vp_lt hv
          obtain ⟨k1, k2, k3⟩ := KN (by simp)
          refine ew_newa (a0 := (n.toNatClampNeg, .inl (fun j => (List.replicate n.toNatClampNeg (0 : Int32)).getD j 0))) (cA0 := aC 2) Fx Fb (Fw _ (ev_arrw .boolean (Or.inr (Or.inr rfl)))) rfl hP hS (fun cA => by rw [vp_cell_i]; congr 1; funext q; rw [hrep]; rfl) (FK.2 2 _ rfl).2 (fun q => hv (Or.inl q)) rfl (Nat.le_trans (Nat.mul_le_mul_right _ (Nat.le_of_lt_succ hlt)) (by decide)) k1 (by omega) hd (fun H1 z1 hP1 hS1 => ?_)
          have K1 := k3 n.toNatClampNeg (by omega) H1 z1 (by rw [ev_cw_app, ← hz]; simp only [ev_ce, List.length_replicate]; exact hP1) hS1
          rw [hnx] at K1
          rw [hz]
          exact K1
        · cases hx
      · cases hx
    case anewarray cn =>
      have hx : (match (generalizing := false) st with
        | .int n :: r => match ev_in n 201, (Nat.beq cn 4 || Nat.beq cn 2) with
          | true, true => some (.ref h.length :: r, h ++ [.inr (10 + cn, List.replicate n.toNatClampNeg .null)])
          | _, _ => none
        | _ => none) = some (st', h') := hx
      have hrep : ∀ (n j : Nat), ev_rf base ((List.replicate n Value.null).getD j .null) = none := by
        intro n j
        rw [List.getD_eq_getElem?_getD, List.getElem?_replicate]
        split <;> rfl
      obtain ⟨raw, len, hd, hr⟩ := ev_okI_dec hok (by intro h; cases h) (by intro h; cases h)
      simp only [ev_okR] at hr
      split at hr
      next ix =>
        simp only [Bool.and_eq_true, decide_eq_true_eq] at hr
        obtain ⟨⟨⟨rfl, hnx⟩, hcl⟩, -⟩ := hr
        split at hx
        next n r _ =>
          split at hx
          next hn hc =>
            cases hx
            have hv := ev_in_vp hn
            have hlt := ev_vp_lt hv
            obtain ⟨k1, k2, k3⟩ := KN (by simp)
            rw [Bool.or_eq_true] at hc
            rcases hc with hc | hc
            · have hcn := Nat.eq_of_beq_eq_true hc
              subst hcn
              obtain ⟨kA, comp, q1, q2, q3, q4⟩ := (FK.2 3 _ rfl).2
              refine ew_newq (C := RX4) (cA0 := aC 14) Fx Fb Fo (Fw _ (ev_cls_in hcl)) FR.2.2.2.2.2.1 hP hS q4 (fun q => hv (Or.inl q)) rfl (by omega) k1 (by omega) hd (fun H1 z1 hP1 hS1 => ?_)
              have K1 := k3 n.toNatClampNeg (by omega) H1 z1 (by rw [ev_cw_app, ← hz, ev_ce_q (by decide), List.length_replicate]; simp only [hrep]; exact hP1) hS1
              rw [hnx] at K1
              rw [hz]
              exact K1
            · have hcn := Nat.eq_of_beq_eq_true hc
              subst hcn
              obtain ⟨kA, comp, q1, q2, q3, q4⟩ := (FK.2 4 _ rfl).2
              refine ew_newq (C := RX2) (cA0 := aC 12) Fx Fb Fo (Fw _ (ev_cls_in hcl)) FR.2.2.2.2.2.2 hP hS q4 (fun q => hv (Or.inl q)) rfl (by omega) k1 (by omega) hd (fun H1 z1 hP1 hS1 => ?_)
              have K1 := k3 n.toNatClampNeg (by omega) H1 z1 (by rw [ev_cw_app, ← hz, ev_ce_q (by decide), List.length_replicate]; simp only [hrep]; exact hP1) hS1
              rw [hnx] at K1
              rw [hz]
              exact K1
          · cases hx
        · cases hx
      · cases hr
    case faload =>
      have hx : (match (generalizing := false) st with
        | .int j :: .retAddr a :: r => match Nat.blt a 4, ev_ro scr a with
          | true, some xs => match ev_in j xs.length with
            | true => some (.int (xs.getD j.toNatClampNeg 0) :: r, h)
            | false => none
          | _, _ => none
        | _ => none) = some (st', h') := hx
      split at hx
      next j a r _ =>
        split at hx
        next xs ha hxs =>
          split at hx
          next hj =>
            cases hx
            have K := KR rfl
            obtain ⟨raw, len, hd, hr⟩ := ev_okI_dec hok (by intro h; cases h) (by intro h; cases h)
            simp only [ev_okR, Bool.and_eq_true, decide_eq_true_eq] at hr
            obtain ⟨⟨rfl, rfl⟩, hnx⟩ := hr
            rw [hnx] at K
            have ha4 : a < 4 := by simpa [Nat.blt_eq] using ha
            have hT := FR.1 a xs hxs
            rw [if_pos ha4] at hT
            have e1 : ev_vl base ra fv (.retAddr a) = .ref (ra a) := if_neg (by omega)
            simp only [List.map_cons, e1]
            exact va_ti Fx Fb hT hS (ev_in_vp hj) rfl hd K
          · cases hx
        · cases hx
      · cases hx
    case caload =>
      have hx : (match (generalizing := false) st with
        | .int j :: .retAddr a :: r => match Nat.blt a 20, ev_ro scr a with
          | false, some xs => match ev_in j xs.length with
            | true => some (.int (xs.getD j.toNatClampNeg 0) :: r, h)
            | false => none
          | _, _ => none
        | _ => none) = some (st', h') := hx
      split at hx
      next j a r _ =>
        split at hx
        next xs ha hxs =>
          split at hx
          next hj =>
            cases hx
            have K := KR rfl
            obtain ⟨raw, len, hd, hr⟩ := ev_okI_dec hok (by intro h; cases h) (by intro h; cases h)
            simp only [ev_okR, Bool.and_eq_true, decide_eq_true_eq] at hr
            obtain ⟨⟨rfl, rfl⟩, hnx⟩ := hr
            rw [hnx] at K
            have ha4 : ¬ a < 20 := fun q => by
              have : Nat.blt a 20 = true := by simpa [Nat.blt_eq] using q
              rw [this] at ha; cases ha
            have hT := FR.1 a xs hxs
            rw [if_neg (by omega)] at hT
            have e1 : ev_vl base ra fv (.retAddr a) = .ref (ra a) := if_neg (by omega)
            simp only [List.map_cons, e1]
            exact va_tb Fx Fb hT hS (ev_in_vp hj) rfl hd K
          · cases hx
        · cases hx
      · cases hx
    case arraylength =>
      have hx : (match (generalizing := false) st with
        | .retAddr a :: r => match ev_ro scr a with
          | some xs => some (.int (Int32.ofNat xs.length) :: r, h)
          | none => none
        | _ => none) = some (st', h') := hx
      split at hx
      next a r _ =>
        split at hx
        next xs hxs =>
          cases hx
          have K := KR rfl
          obtain ⟨raw, len, hd, hr⟩ := ev_okI_dec hok (by intro h; cases h) (by intro h; cases h)
          simp only [ev_okR, Bool.and_eq_true, decide_eq_true_eq] at hr
          obtain ⟨⟨rfl, rfl⟩, hnx⟩ := hr
          rw [hnx] at K
          have ha4 : ¬ a = 4 := fun q => by subst q; cases hxs
          have e1 : ev_vl base ra fv (.retAddr a) = .ref (ra a) := if_neg ha4
          simp only [List.map_cons, e1]
          exact va_tlen Fx Fb (FR.1 a xs hxs) hS rfl hd K
        · cases hx
      · cases hx
    case dload k =>
      have hx : (match (generalizing := false) st with
        | .retAddr a :: r => match (generalizing := false) Nat.blt 9 a, Nat.blt a 18, k with
          | true, true, 0 => some (.retAddr (a + 10) :: r, h)
          | true, true, 1 => some (.int 0 :: r, h)
          | _, _, _ => none
        | _ => none) = some (st', h') := hx
      obtain ⟨raw, len, hd, hr⟩ := ev_okI_dec hok (by intro h; cases h) (by intro h; cases h)
      simp only [ev_okR] at hr
      split at hr
      next ix =>
        simp only [Bool.and_eq_true, decide_eq_true_eq] at hr
        obtain ⟨⟨rfl, hnx⟩, hsf⟩ := hr
        have hlink := Fw _ (ev_sfs_in hsf)
        split at hx
        next a r _ =>
          split at hx
          next =>
            have h9 : Nat.blt 9 a = true := by assumption
            have h18 : Nat.blt a 18 = true := by assumption
            cases hx
            have K := KR rfl
            rw [hnx] at K
            have a9 : 9 < a := by simpa [Nat.blt_eq] using h9
            have a18 : a < 18 := by simpa [Nat.blt_eq] using h18
            obtain ⟨i, rfl⟩ : ∃ i, a = 10 + i := ⟨a - 10, by omega⟩
            have e1 : ev_vl base ra fv (.retAddr (10 + i)) = .ref (ra (10 + i)) := if_neg (by omega)
            have e2 : ev_vl base ra fv (.retAddr (10 + i + 10)) = .ref (ra (20 + i)) := by
              rw [show 10 + i + 10 = 20 + i by omega]
              exact if_neg (by omega)
            simp only [List.map_cons, e2] at K
            simp only [List.map_cons, e1]
            exact vk_getf Fx Fb (FR.2.1 i (by omega)).2.2 hS Fo hlink (fun _ q => q) hd K
          next =>
            have h9 : Nat.blt 9 a = true := by assumption
            have h18 : Nat.blt a 18 = true := by assumption
            cases hx
            have K := KR rfl
            rw [hnx] at K
            have a9 : 9 < a := by simpa [Nat.blt_eq] using h9
            have a18 : a < 18 := by simpa [Nat.blt_eq] using h18
            obtain ⟨i, rfl⟩ : ∃ i, a = 10 + i := ⟨a - 10, by omega⟩
            have e1 : ev_vl base ra fv (.retAddr (10 + i)) = .ref (ra (10 + i)) := if_neg (by omega)
            simp only [List.map_cons, e1]
            exact vk_getf Fx Fb (FR.2.1 i (by omega)).2.1 hS Fo hlink (fun _ q => q) hd K
          · cases hx
        · cases hx
      · cases hr
    all_goals (exact absurd hx (by intro h; cases h))
end STEPH
end
section
/-! Calls. -/
abbrev ev_ws (k : Nat) : List Cond := Cond.code (ev_y k) (ev_b k) (ev_L k) (ev_r k) :: ev_UW
theorem ev_goodOf {ws : List Cond} (h : ∀ w ∈ ws, w ∈ ev_UW) : GoodIn ev_UW ws := fun w hw => ⟨h w hw, good_of_word (List.mem_filter.mp (h w hw)).2⟩
theorem ev_ws_in {k : Nat} (hk : k < 213) : ∀ w ∈ ev_ws k, w ∈ ev_UW := fun w hw => (List.mem_cons.mp hw).elim (fun q => by rw [q]; exact ev_code k hk) id
def ev_has (l : List (Nat × Nat)) (k : Nat) : Bool := l.any (fun e => decide (e.1 = k))
theorem ev_stm_in {k : Nat} (h : ev_has ev_stm k = true) : Cond.static (ev_y k) ∈ ev_UW := by
  obtain ⟨e0, he0, h3⟩ := List.any_eq_true.mp h
  have h4 := ev_word (List.all_eq_true.mp ev_stm_ok _ he0)
  rw [of_decide_eq_true h3] at h4
  exact h4
theorem ev_inm_in {k : Nat} (h : ev_has ev_inm k = true) : Cond.instanceMethod (ev_y k) ∈ ev_UW := by
  obtain ⟨e0, he0, h3⟩ := List.any_eq_true.mp h
  have h4 := ev_word (List.all_eq_true.mp ev_inm_ok _ he0)
  rw [of_decide_eq_true h3] at h4
  exact h4
theorem ev_sel_in {k : Nat} (h : (ev_has ev_sel k || ev_selp.any (fun e => decide (e.1 = k))) = true) : Cond.selects (ev_y k).cls (ev_y k) (ev_y k) ∈ ev_UW := by
  rw [Bool.or_eq_true] at h
  rcases h with h | h
  · obtain ⟨e0, he0, h3⟩ := List.any_eq_true.mp h
    have h4 := ev_word (List.all_eq_true.mp ev_sel_ok _ he0)
    rw [of_decide_eq_true h3] at h4
    exact h4
  · obtain ⟨e0, he0, h3⟩ := List.any_eq_true.mp h
    have h4 := List.all_eq_true.mp ev_selp_ok _ he0
    simp only [Bool.and_eq_true, decide_eq_true_eq] at h4
    have h5 := ev_memp _ _ h4.1 h4.2
    rw [of_decide_eq_true h3] at h5
    exact h5
theorem ev_mls_ok : ev_mls.all (fun e => decide (e.2.2.2 < 213) && (match e.1 with
  | 0 => !ev_isSt e.2.2.2 && ev_has ev_inm e.2.2.2 && (ev_has ev_sel e.2.2.2 || ev_selp.any (fun q => decide (q.1 = e.2.2.2)))
  | 1 => ev_isSt e.2.2.2 && ev_has ev_stm e.2.2.2
  | _ => !ev_isSt e.2.2.2 && ev_has ev_inm e.2.2.2 && decide ((ev_y e.2.2.2).name = "<init>") && decide (ev_r e.2.2.2 = none))) = true := by decide +kernel
theorem ev_mns_ok : ev_mns.all (fun e => decide (e.2.2.2 < 213) && (match e.1 with
  | 2 => ev_isSt e.2.2.2 && ev_has ev_stm e.2.2.2
  | _ => !ev_isSt e.2.2.2 && ev_has ev_inm e.2.2.2 && decide ((ev_y e.2.2.2).name = "<init>") && decide (ev_r e.2.2.2 = none))) = true := by decide +kernel
theorem ev_mls_in {e : Nat × Nat × Nat × Nat} (h : e ∈ ev_mls) : Cond.methodLink (ev_cn e.2.1) e.2.2.1 (ev_y e.2.2.2) ∈ ev_UW := by
  obtain ⟨q, hq, rfl⟩ := List.mem_map.mp h
  exact ev_word (List.all_eq_true.mp ev_mlk_ok _ hq)
theorem ev_mnp : ((List.range 214).all (fun i => ev_isSt i || decide (1 ≤ ev_np i))) = true := by decide +kernel
theorem ev_dsc {k : Nat} (hk : k < 213) : (ev_y k).cls = ev_cn (ev_o k) ∧ (ev_y k).cls ≠ "java/lang/invoke/MethodHandle" ∧ (ev_y k).cls ≠ "java/lang/invoke/VarHandle" ∧ ev_L k ≤ 40 ∧ (ev_pb k).getD 0 0 = 0 ∧ ev_o k < 13 ∧ (parseMethodDescriptor (ev_y k).desc).map (fun d => d.parameters.length) = some (if ev_isSt k then ev_np k else ev_np k - 1) := by
  have h1 := ev_all ev_desc (show k < 214 by omega)
  have h2 := ev_all ev_desc2 hk
  simp only [Bool.and_eq_true, decide_eq_true_eq] at h1 h2
  obtain ⟨⟨⟨⟨⟨a1, a2⟩, a3⟩, a4⟩, a5⟩, a6⟩ := h1
  exact ⟨a1, a2, a3, a4, a5, a6, h2⟩
theorem ev_sum8 : ∀ (l : List Value), (l.map fun v => v.category).sum ≤ 2 * l.length
  | [] => by simp
  | v :: l => by
    have := ev_sum8 l
    have h2 : v.category ≤ 2 := by cases v <;> simp [Value.category]
    simp only [List.map_cons, List.sum_cons, List.length_cons]
    omega
theorem ev_xC_of {i : ev_I} {k : Nat} (h : ev_xC i = some k) : i = .inl (.invokevirtual k) ∨ i = .inl (.invokestatic k) ∨ i = .inl (.invokespecial k) ∨ (i = .inl .monitorexit ∧ k = 999) := by
  unfold ev_xC at h
  split at h
  · cases h
  · split at h
    · cases h; exact Or.inl rfl
    · cases h; exact Or.inr (Or.inl rfl)
    · cases h; exact Or.inr (Or.inr (Or.inl rfl))
    · cases h; exact Or.inr (Or.inr (Or.inr ⟨rfl, rfl⟩))
    · cases h
section CALL
variable {base : Nat} {ra : Nat → Nat} {fv : Value} {aC : Nat → ClassId} {D : va_G} {scr : List Int32}
variable {p : Program} {l : Launch} {e : Env} {R : Room} {s : State} {m : MethodId} {args : Array Value} {below : List Frame} {meth : Method} {c : Code} {H : Heap} {locs : List Loc} {cells slots : Nat} {Q : State → Prop} {mi : Nat}
def ev_Pc (base : Nat) (ra : Nat → Nat) (fv : Value) (aC : Nat → ClassId) (D : va_G) (scr : List Int32) (as : List Value) (h : ev_H) : Array Value → State → Prop := va_Pc (as.map (ev_vl base ra fv)) (fun U => U.heap.size = base + h.length ∧ va_P D ev_cl (ev_cw base ra fv aC h) U.heap ∧ va_K D ev_cl (ev_tys aC) U ∧ ev_RO base ra fv scr U U.heap)
def ev_Qc (base : Nat) (ra : Nat → Nat) (fv : Value) (aC : Nat → ClassId) (D : va_G) (v : Option Value) (h' : ev_H) : Array Value → State → Outcome → State → Prop := fun _ st oc t => oc = .returned (v.map (ev_vl base ra fv)) ∧ (t.heap.size = base + h'.length ∧ va_P D ev_cl (ev_cw base ra fv aC h') t.heap) ∧ va_F (ev_A base) st t
abbrev ev_rm (d mc : Nat) : Room := { frames := d, cells := mc, slots := 200 * mc, locals := 64 * d }
theorem ev_Pc_blind (as : List Value) (h : ev_H) : FrameBlind (ev_Pc base ra fv aC D scr as h) := by
  intro a U g mk q
  obtain ⟨q1, q2, q3, q4, q5⟩ := q
  exact ⟨q1, q2, q3, va_K.moved (u := U) (U := U.calling g mk a) (Vm.Alike.refl U.vm) q4, ev_RO.same base ra fv scr (u := U) (U := U.calling g mk a) rfl q5⟩
theorem ev_Pc_pre (Fr : ev_F base ra fv aC D scr p s m args meth c mi) (as : List Value) {h : ev_H} (hP : va_P D ev_cl (ev_cw base ra fv aC h) H) (hS : va_S (ev_A base) s.heap H locs) (hz : H.size = base + h.length) : ∀ U : State, U.heap = H → s.WarmedH U.vm → ev_Pc base ra fv aC D scr as h (as.map (ev_vl base ra fv)).toArray U := by
  intro U hU hW
  obtain ⟨-, -, -, -, -, -, -, -, FK, FR, -⟩ := Fr
  exact ⟨rfl, by rw [hU]; exact hz, by rw [hU]; exact hP, FK.moved hW.alike, by rw [hU]; exact (FR.kept base ra fv scr hS.2.1).warm base ra fv scr hW⟩
set_option maxHeartbeats 4000000 in
theorem ev_wC (Fr : ev_F base ra fv aC D scr p s m args meth c mi) (hmi : mi < 214) {i : ev_I} {pc k d : Nat} {st : List Value} {h h' : ev_H} {v : Option Value} (hf : ev_ft (ev_cd mi) pc = some i) (hx : ev_xC i = some k) (h999 : k ≠ 999) {mc : Nat} (hck : ev_cok i st (ev_np k) (ev_o k) h = true)
    (hM : k < 213 → Met l (ev_y k) (ev_ws k) (ev_rm d mc) (ev_Pc base ra fv aC D scr (st.take (ev_np k)).reverse h) (ev_Qc base ra fv aC D v h') mc (200 * mc) (ev_A base))
    {lsC : Array Slot} (hlz : lsC.size = ev_L mi) (hP : va_P D ev_cl (ev_cw base ra fv aC h) H) (hS : va_S (ev_A base) s.heap H locs) (hz : H.size = base + h.length)
    (hR1 : d + 1 ≤ R.frames) (hR2 : 64 * (d + 1) ≤ R.locals) (hcr : cells + mc ≤ R.cells) (hsr : slots + 200 * mc ≤ R.slots) (hfv : fv = .null ∨ ∃ t, fv = .ref t)
    (K : ∀ H1 locs1, va_P D ev_cl (ev_cw base ra fv aC h') H1 → va_S (ev_A base) s.heap H1 locs1 → H1.size = base + h'.length → W p l e R s m args below meth c H1 locs1 (cells + mc) (slots + 200 * mc) Q (F0 m ((ev_pb mi).getD (pc + 1) 0) lsC ((v.toList ++ st.drop (ev_np k)).map (ev_vl base ra fv)))) :
    W p l e R s m args below meth c H locs cells slots Q (F0 m ((ev_pb mi).getD pc 0) lsC (st.map (ev_vl base ra fv))) := by
  have hok := ev_okL_at _ _ _ _ _ _ _ _ _ (ev_ok mi hmi) hf
  have Fr0 := Fr
  obtain ⟨Fx, Fb, Fr1, Fl, Fo, Fw, -, -, FK, FR, -⟩ := Fr
  have hsplit : st.map (ev_vl base ra fv) = ((st.take (ev_np k)).reverse.map (ev_vl base ra fv)).reverse ++ (st.drop (ev_np k)).map (ev_vl base ra fv) := by
    rw [← List.map_reverse, List.reverse_reverse, ← List.map_append, List.take_append_drop]
  have hlen8 : (st.drop (ev_np k)).length ≤ 4 ∧ ev_np k ≤ st.length := by
    unfold ev_cok at hck
    split at hck
    · cases hck
    · simp only [Bool.and_eq_true, Nat.ble_eq] at hck
      exact ⟨hck.1.2, hck.1.1⟩
  have hroom : ((((st.drop (ev_np k)).map (ev_vl base ra fv))).map fun v => v.category).sum ≤ 8 := by
    have := ev_sum8 ((st.drop (ev_np k)).map (ev_vl base ra fv))
    rw [List.length_map] at this
    omega
  have K2 : ∀ (nx : Nat), (ev_pb mi).getD (pc + 1) 0 = nx → ∀ (t : State) (H1 : Heap) (locs1 : List Loc), t.heap = H1 → (t.heap.size = base + h'.length ∧ va_P D ev_cl (ev_cw base ra fv aC h') t.heap) → va_S (ev_A base) s.heap H1 locs1 → W p l e R s m args below meth c H1 locs1 (cells + mc) (slots + 200 * mc) Q (F0 m nx lsC ((v.map (ev_vl base ra fv)).toList ++ (st.drop (ev_np k)).map (ev_vl base ra fv))) := by
    intro nx hnx t H1 locs1 ht hB hS1
    have K1 := K H1 locs1 (by rw [← ht]; exact hB.2) hS1 (by rw [← ht]; exact hB.1)
    rw [hnx, List.map_append] at K1
    have e1 : (v.map (ev_vl base ra fv)).toList = v.toList.map (ev_vl base ra fv) := by cases v <;> rfl
    rw [e1]
    exact K1
  have hrevlen : ((st.take (ev_np k)).reverse).length = ev_np k := by
    rw [List.length_reverse, List.length_take]
    omega
  rcases ev_xC_of hx with rfl | rfl | rfl | ⟨rfl, rfl⟩
  · obtain ⟨raw, len, hd, hr⟩ := ev_okI_dec hok (by intro h; cases h) (by intro h; cases h)
    simp only [ev_okR] at hr
    split at hr
    next ix =>
      simp only [Bool.and_eq_true, decide_eq_true_eq] at hr
      obtain ⟨⟨rfl, hnx⟩, hml⟩ := hr
      have hlk : Cond.methodLink (ev_cn (ev_o mi)) ix (ev_y k) ∈ ev_UW := ev_mls_in (e := (0, ev_o mi, ix, k)) hml
      have hmk := List.all_eq_true.mp ev_mls_ok _ hml
      simp only [Bool.and_eq_true, decide_eq_true_eq, Bool.not_eq_true'] at hmk
      obtain ⟨hk, ⟨hnst, hinm⟩, hsel⟩ := hmk
      have hM := hM hk
      obtain ⟨d1, d2, d3, d4, d5, d6, d7⟩ := ev_dsc hk
      rw [hnst] at d7
      simp only [Bool.false_eq_true, if_false] at d7
      have hnp := ev_all ev_mnp (show k < 214 by omega)
      rw [hnst, Bool.false_or, decide_eq_true_eq] at hnp
      unfold ev_cok at hck
      dsimp only at hck
      rw [Bool.and_eq_true] at hck
      have hrec := hck.2
      cases hrv : (st.take (ev_np k)).reverse with
      | nil => rw [hrv] at hrevlen; simp at hrevlen; omega
      | cons recv tl =>
        rw [hrv] at hrec hM hsplit hrevlen
        have hrec2 : ev_rec (ev_o k) (some recv) h = true := hrec
        clear hrec
        have hrec := hrec2
        clear hrec2
        have key : ∃ ad, ev_vl base ra fv recv = .ref ad ∧ ∃ cellB : Cell, H[ad]? = some cellB ∧ cellB.vm.isStatics = false ∧ s.vm.findClass (ev_cn (ev_o k)) = some cellB.cls := by
          unfold ev_rec at hrec
          split at hrec
          next b hb =>
            cases hb
            split at hrec
            next cn vs hh =>
              simp only [Bool.and_eq_true] at hrec
              have hcn : cn = ev_o k := Nat.eq_of_beq_eq_true hrec.1
              have h7 : ev_o k < 7 := by simpa [Nat.blt_eq] using hrec.2
              subst hcn
              have he := ev_cw_get base ra fv aC hh
              rw [ev_ce_o h7] at he
              exact ⟨base + b, rfl, va_recv FK hP (ev_cl_get h7) he⟩
            next => cases hrec
          next r hb =>
            cases hb
            simp only [Bool.and_eq_true] at hrec
            have h10 : ev_o k = 10 := Nat.eq_of_beq_eq_true hrec.1.1
            have a9 : 9 < r := by simpa [Nat.blt_eq] using hrec.1.2
            have a18 : r < 18 := by simpa [Nat.blt_eq] using hrec.2
            obtain ⟨j, rfl⟩ : ∃ j, r = 10 + j := ⟨r - 10, by omega⟩
            refine ⟨ra (10 + j), if_neg (by omega), ?_⟩
            obtain ⟨cell, g1, g2, g3, -⟩ := (FR.2.1 j (by omega)).1.kept hS.2.1
            rw [h10]
            exact ⟨cell, g1, g2, g3⟩
          next => cases hrec
        obtain ⟨ad, hvr, hcell⟩ := key
        have hst : st.map (ev_vl base ra fv) = (tl.map (ev_vl base ra fv)).reverse ++ .ref ad :: (st.drop (ev_np k)).map (ev_vl base ra fv) := by
          rw [hsplit, List.map_cons, hvr, List.reverse_cons, List.append_assoc]
          rfl
        have hpre := ev_Pc_pre Fr0 (recv :: tl) hP hS hz
        rw [List.map_cons, hvr] at hpre
        have hrun := va_runV (As := tl.map (ev_vl base ra fv)) (rest := (st.drop (ev_np k)).map (ev_vl base ra fv)) (b := ad) (C := ev_cn (ev_o k)) (g := F0 m ((ev_pb mi).getD pc 0) lsC (st.map (ev_vl base ra fv))) (cells := cells) (slots := slots) (locs := locs) (below := below) (e := e) (meth := meth) ⟨Fx, Fb, Fl, Fo, Fw⟩ hM
          (cwV (R := R) (index := ix) (n := ev_np k - 1) (y := ev_y k) (bytes := ev_b k) (maxL := ev_L k) (ret := ev_r k) (ws := ev_ws k) (ws' := ev_UW) (rm := ev_rm d mc) Fw (ev_goodOf (fun w hw => by
            unfold wsV at hw
            rcases List.mem_append.mp hw with q | q
            · simp only [List.mem_cons, List.not_mem_nil, or_false] at q
              rcases q with rfl | rfl | rfl | rfl
              · exact hlk
              · exact ev_inm_in hinm
              · rw [← d1]; exact ev_sel_in hsel
              · exact ev_init_in d6
            · exact ev_ws_in hk w q)) rfl rfl rfl ⟨d1, d2, d3, d7⟩ ⟨hR1, by show 8 + (ev_L k + 11) + 64 * d ≤ R.locals; omega⟩)
          ⟨ev_Pc_blind _ _, hcell, hpre⟩ rfl (by rw [List.length_map]; simp at hrevlen; omega) hlz hst (lv_room hroom) hd ⟨hcr, hsr⟩
        exact ew_cont (a := #[]) hrun hS (fun _ q => q) (K2 _ hnx)
    · cases hr
  · obtain ⟨raw, len, hd, hr⟩ := ev_okI_dec hok (by intro h; cases h) (by intro h; cases h)
    simp only [ev_okR] at hr
    split at hr
    next ix =>
      simp only [Bool.and_eq_true, decide_eq_true_eq, Bool.or_eq_true] at hr
      obtain ⟨⟨rfl, hnx⟩, hml | hml⟩ := hr
      · have hlk : Cond.methodLink (ev_cn (ev_o mi)) ix (ev_y k) ∈ ev_UW := ev_mls_in (e := (1, ev_o mi, ix, k)) hml
        have hmk := List.all_eq_true.mp ev_mls_ok _ hml
        simp only [Bool.and_eq_true, decide_eq_true_eq] at hmk
        obtain ⟨hk, hst1, hstm⟩ := hmk
        have hM := hM hk
        obtain ⟨d1, d2, d3, d4, d5, d6, d7⟩ := ev_dsc hk
        rw [hst1] at d7
        simp only [if_true] at d7
        have hrun := va_runS (As := (st.take (ev_np k)).reverse.map (ev_vl base ra fv)) (rest := (st.drop (ev_np k)).map (ev_vl base ra fv)) (g := F0 m ((ev_pb mi).getD pc 0) lsC (st.map (ev_vl base ra fv))) (cells := cells) (slots := slots) (locs := locs) (below := below) (e := e) (meth := meth) ⟨Fx, Fb, Fl, Fo, Fw⟩ hM
          (va_cwS (R := R) (index := ix) (n := ev_np k) (y := ev_y k) (bytes := ev_b k) (maxL := ev_L k) (ret := ev_r k) (ws := ev_ws k) (ws' := ev_UW) (rm := ev_rm d mc) Fw (ev_goodOf (fun w hw => by
            unfold va_wsS at hw
            rcases List.mem_append.mp hw with q | q
            · simp only [List.mem_cons, List.not_mem_nil, or_false] at q
              rcases q with rfl | rfl | rfl
              · exact hlk
              · exact ev_stm_in hstm
              · rw [d1]; exact ev_init_in d6
            · exact ev_ws_in hk w q)) rfl rfl rfl ⟨d2, d3, d7⟩ ⟨hR1, by show 8 + (ev_L k + 11) + 64 * d ≤ R.locals; omega⟩)
          ⟨ev_Pc_blind _ _, ev_Pc_pre Fr0 _ hP hS hz⟩ rfl (by rw [List.length_map]; exact hrevlen) hlz hsplit (lv_room hroom) hd ⟨hcr, hsr⟩
        exact ew_cont (a := #[]) hrun hS (fun _ q => q) (K2 _ hnx)
      · have hlk : va_Nw (.methodLinkNest (ev_cn (ev_o mi)) ix (ev_y k) "TenPledges") s := FR.2.2.2.2.1 (2, ev_o mi, ix, k) hml
        have hmk := List.all_eq_true.mp ev_mns_ok _ hml
        simp only [Bool.and_eq_true, decide_eq_true_eq] at hmk
        obtain ⟨hk, hst1, hstm⟩ := hmk
        have hM := hM hk
        obtain ⟨d1, d2, d3, d4, d5, d6, d7⟩ := ev_dsc hk
        rw [hst1] at d7
        simp only [if_true] at d7
        have hrun := va_runSN (As := (st.take (ev_np k)).reverse.map (ev_vl base ra fv)) (rest := (st.drop (ev_np k)).map (ev_vl base ra fv)) (g := F0 m ((ev_pb mi).getD pc 0) lsC (st.map (ev_vl base ra fv))) (cells := cells) (slots := slots) (locs := locs) (below := below) (e := e) (meth := meth) ⟨Fx, Fb, Fl, Fo, Fw⟩ hM
          ⟨va_cnB (R := R) (index := ix) (n := ev_np k) (y := ev_y k) (host := "TenPledges") (bytes := ev_b k) (maxL := ev_L k) (ret := ev_r k) (ws := ev_ws k) (ws' := ev_UW) (rm := ev_rm d mc) Fw (ev_goodOf (ev_ws_in hk)) rfl rfl rfl hlk (Fw _ (by rw [d1]; exact ev_init_in d6)) ⟨d2, d3, d7⟩ ⟨hR1, by show 8 + (ev_L k + 11) + 64 * d ≤ R.locals; omega⟩, Fw _ (ev_stm_in hstm), trivial⟩
          ⟨ev_Pc_blind _ _, ev_Pc_pre Fr0 _ hP hS hz⟩ rfl (by rw [List.length_map]; exact hrevlen) hlz hsplit (lv_room hroom) hd ⟨hcr, hsr⟩
        exact ew_cont (a := #[]) hrun hS (fun _ q => q) (K2 _ hnx)
    · cases hr
  · obtain ⟨raw, len, hd, hr⟩ := ev_okI_dec hok (by intro h; cases h) (by intro h; cases h)
    simp only [ev_okR] at hr
    split at hr
    next ix =>
      simp only [Bool.and_eq_true, decide_eq_true_eq, Bool.or_eq_true] at hr
      obtain ⟨⟨rfl, hnx⟩, hml⟩ := hr
      have hkk : k < 213 ∧ ev_isSt k = false ∧ ev_has ev_inm k = true ∧ (ev_y k).name = "<init>" ∧ ev_r k = none := by
        rcases hml with hml | hml
        · have hmk := List.all_eq_true.mp ev_mls_ok _ hml
          simp only [Bool.and_eq_true, decide_eq_true_eq, Bool.not_eq_true'] at hmk
          exact ⟨hmk.1, hmk.2.1.1.1, hmk.2.1.1.2, hmk.2.1.2, hmk.2.2⟩
        · have hmk := List.all_eq_true.mp ev_mns_ok _ hml
          simp only [Bool.and_eq_true, decide_eq_true_eq, Bool.not_eq_true'] at hmk
          exact ⟨hmk.1, hmk.2.1.1.1, hmk.2.1.1.2, hmk.2.1.2, hmk.2.2⟩
      obtain ⟨hk, hnst, hinm, hnm, hret⟩ := hkk
      have hM := hM hk
      obtain ⟨d1, d2, d3, d4, d5, d6, d7⟩ := ev_dsc hk
      rw [hnst] at d7
      simp only [Bool.false_eq_true, if_false] at d7
      have hnp := ev_all ev_mnp (show k < 214 by omega)
      rw [hnst, Bool.false_or, decide_eq_true_eq] at hnp
      unfold ev_cok at hck
      dsimp only at hck
      rw [Bool.and_eq_true] at hck
      have hrec := hck.2
      cases hrv : (st.take (ev_np k)).reverse with
      | nil => rw [hrv] at hrevlen; simp at hrevlen; omega
      | cons recv tl =>
        rw [hrv] at hrec hM hsplit hrevlen
        have key : ∃ ad, ev_vl base ra fv recv = .ref ad := by
          have hrec2 : (match (some recv : Option Value) with
            | some (.ref _) => true
            | _ => false) = true := hrec
          clear hrec
          split at hrec2
          next b hb => cases hb; exact ⟨_, rfl⟩
          next => cases hrec2
        obtain ⟨ad, hvr⟩ := key
        have hst : st.map (ev_vl base ra fv) = (tl.map (ev_vl base ra fv)).reverse ++ .ref ad :: (st.drop (ev_np k)).map (ev_vl base ra fv) := by
          rw [hsplit, List.map_cons, hvr, List.reverse_cons, List.append_assoc]
          rfl
        have hpre := ev_Pc_pre Fr0 (recv :: tl) hP hS hz
        rw [List.map_cons, hvr] at hpre
        have hwn : ev_ws k = Cond.code (ev_y k) (ev_b k) (ev_L k) none :: ev_UW := by rw [ev_ws, hret]
        rcases hml with hml | hml
        · have hlk : Cond.methodLink (ev_cn (ev_o mi)) ix (ev_y k) ∈ ev_UW := ev_mls_in (e := (3, ev_o mi, ix, k)) hml
          have hrun := va_runI (As := tl.map (ev_vl base ra fv)) (rest := (st.drop (ev_np k)).map (ev_vl base ra fv)) (b := ad) (g := F0 m ((ev_pb mi).getD pc 0) lsC (st.map (ev_vl base ra fv))) (cells := cells) (slots := slots) (locs := locs) (below := below) (e := e) (meth := meth) ⟨Fx, Fb, Fl, Fo, Fw⟩ hM
            (cwI (R := R) (index := ix) (n := ev_np k - 1) (y := ev_y k) (bytes := ev_b k) (maxL := ev_L k) (ws := ev_ws k) (ws' := ev_UW) (rm := ev_rm d mc) Fw (ev_goodOf (ev_ws_in hk)) hwn rfl rfl (Fw _ (by rw [d1]; exact ev_init_in d6)) (Fw _ hlk) (Fw _ (ev_inm_in hinm)) hnm ⟨d2, d3, d7⟩ ⟨hR1, by show 8 + (ev_L k + 11) + 64 * d ≤ R.locals; omega⟩)
            ⟨ev_Pc_blind _ _, hpre⟩ rfl (by rw [List.length_map]; simp at hrevlen; omega) hlz hst (lv_room hroom) hd ⟨hcr, hsr⟩
          exact ew_cont (a := #[]) hrun hS (fun _ q => q) (K2 _ hnx)
        · have hlk : va_Nw (.methodLinkNest (ev_cn (ev_o mi)) ix (ev_y k) "TenPledges") s := FR.2.2.2.2.1 (4, ev_o mi, ix, k) hml
          have hrun := va_runIN (As := tl.map (ev_vl base ra fv)) (rest := (st.drop (ev_np k)).map (ev_vl base ra fv)) (b := ad) (g := F0 m ((ev_pb mi).getD pc 0) lsC (st.map (ev_vl base ra fv))) (cells := cells) (slots := slots) (locs := locs) (below := below) (e := e) (meth := meth) ⟨Fx, Fb, Fl, Fo, Fw⟩ hM
            ⟨va_cnB (R := R) (index := ix) (n := ev_np k - 1) (y := ev_y k) (host := "TenPledges") (bytes := ev_b k) (maxL := ev_L k) (ret := none) (ws := ev_ws k) (ws' := ev_UW) (rm := ev_rm d mc) Fw (ev_goodOf (ev_ws_in hk)) hwn rfl rfl hlk (Fw _ (by rw [d1]; exact ev_init_in d6)) ⟨d2, d3, d7⟩ ⟨hR1, by show 8 + (ev_L k + 11) + 64 * d ≤ R.locals; omega⟩, hnm, Fw _ (ev_inm_in hinm)⟩
            ⟨ev_Pc_blind _ _, hpre⟩ rfl (by rw [List.length_map]; simp at hrevlen; omega) hlz hst (lv_room hroom) hd ⟨hcr, hsr⟩
          exact ew_cont (a := #[]) hrun hS (fun _ q => q) (K2 _ hnx)
    · cases hr
  · exact absurd rfl h999
end CALL
end
section
/-! All runs. -/
theorem ev_xH_len {scr : List Int32} {i : ev_I} {st st' : List Value} {h h' : ev_H} (hx : ev_xH scr i st h = some (st', h')) : h.length ≤ h'.length := by
  unfold ev_xH at hx
  repeat' (split at hx)
  all_goals first | (cases hx; done) | (cases hx; simp)
theorem ev_S_cases {scr : List Int32} {i : ev_I} {pc : Nat} {ls st : List Value} {h : ev_H} {q : ev_Q} (hs : ev_S scr i pc ls st h = some q) :
    (∃ pc' ls' st', ev_xP i pc ls st = some (pc', ls', st') ∧ q = .inl (pc', ls', st', h)) ∨
    (∃ pc' st', ev_xB i pc st = some (pc', st') ∧ q = .inl (pc', ls, st', h)) ∨
    (∃ st' h', ev_xH scr i st h = some (st', h') ∧ q = .inl (pc + 1, ls, st', h')) ∨
    (∃ v, ev_xR i st = some v ∧ q = .inr (.inl v)) ∨ (∃ k, ev_xC i = some k ∧ q = .inr (.inr k)) := by
  unfold ev_S at hs
  split at hs
  next pc' ls' st' e1 => cases hs; exact Or.inl ⟨_, _, _, e1, rfl⟩
  next =>
    split at hs
    next pc' st' e1 => cases hs; exact Or.inr (Or.inl ⟨_, _, e1, rfl⟩)
    next =>
      split at hs
      next st' h' e1 => cases hs; exact Or.inr (Or.inr (Or.inl ⟨_, _, e1, rfl⟩))
      next =>
        split at hs
        next v e1 => cases hs; exact Or.inr (Or.inr (Or.inr (Or.inl ⟨_, e1, rfl⟩)))
        next =>
          split at hs
          next k e1 => cases hs; exact Or.inr (Or.inr (Or.inr (Or.inr ⟨_, e1, rfl⟩)))
          next => cases hs
/-- the instruction that ends a method with this answer -/
def ev_rd (mi pc1 : Nat) (v : Option Value) : Prop := match v with
  | none => decode (ev_b mi) pc1 = .ok (.return_, 1) ∧ ev_r mi = none
  | some (.int x) => decode (ev_b mi) pc1 = .ok (.ireturn, 1) ∧ ∃ ty, ev_r mi = some ty ∧ narrow ty (.int x) = .int x
  | some (.long _) => decode (ev_b mi) pc1 = .ok (.lreturn, 1) ∧ ev_r mi = some .long
  | some (.retAddr x) => decode (ev_b mi) pc1 = .ok (.areturn, 1) ∧ ev_r mi = some (.object "java/lang/String") ∧ ¬ x = 4
  | _ => False
theorem ev_xR_rd {mi pc : Nat} (hmi : mi < 214) {i : ev_I} {st : List Value} {v : Option Value} (hf : ev_ft (ev_cd mi) pc = some i) (hx : ev_xR i st = some v) : ev_rd mi ((ev_pb mi).getD pc 0) v ∧ st = v.toList := by
  have hok := ev_okL_at _ _ _ _ _ _ _ _ _ (ev_ok mi hmi) hf
  unfold ev_xR at hx
  split at hx
  · cases hx
  · split at hx
    · split at hx
      · cases hx
        obtain ⟨raw, len, hd, hr⟩ := ev_okI_dec hok (by intro h; cases h) (by intro h; cases h)
        simp only [ev_okR, Bool.and_eq_true, decide_eq_true_eq] at hr
        obtain ⟨⟨rfl, rfl⟩, hret⟩ := hr
        exact ⟨⟨hd, hret⟩, rfl⟩
      · cases hx
    · split at hx
      · cases hx
        obtain ⟨raw, len, hd, hr⟩ := ev_okI_dec hok (by intro h; cases h) (by intro h; cases h)
        simp only [ev_okR, Bool.and_eq_true, decide_eq_true_eq] at hr
        obtain ⟨⟨rfl, rfl⟩, hret⟩ := hr
        exact ⟨⟨hd, _, hret, rfl⟩, rfl⟩
      · cases hx
    · split at hx
      next x =>
        split at hx
        next hn =>
          cases hx
          obtain ⟨raw, len, hd, hr⟩ := ev_okI_dec hok (by intro h; cases h) (by intro h; cases h)
          simp only [ev_okR, Bool.and_eq_true, decide_eq_true_eq] at hr
          obtain ⟨⟨rfl, rfl⟩, hret⟩ := hr
          refine ⟨⟨hd, _, hret, ?_⟩, rfl⟩
          unfold ev_nrw at hn
          unfold ev_rt
          split at hn
          · have hb01 : x = 0 ∨ x = 1 := by simpa [ev_bz] using hn
            rcases hb01 with rfl | rfl <;> rfl
          · exact of_decide_eq_true hn
          next h0 h1 =>
            split
            · exact absurd rfl h0
            · exact absurd rfl h1
            · exact of_decide_eq_true hn
        next => cases hx
      next => cases hx
    · split at hx
      · cases hx
        obtain ⟨raw, len, hd, hr⟩ := ev_okI_dec hok (by intro h; cases h) (by intro h; cases h)
        simp only [ev_okR, Bool.and_eq_true, decide_eq_true_eq] at hr
        obtain ⟨⟨rfl, rfl⟩, hret⟩ := hr
        exact ⟨⟨hd, hret⟩, rfl⟩
      · cases hx
    · split at hx
      next x =>
        split at hx
        · cases hx
        next hn =>
          cases hx
          obtain ⟨raw, len, hd, hr⟩ := ev_okI_dec hok (by intro h; cases h) (by intro h; cases h)
          simp only [ev_okR, Bool.and_eq_true, decide_eq_true_eq] at hr
          obtain ⟨⟨rfl, rfl⟩, hret⟩ := hr
          refine ⟨⟨hd, hret, fun q => ?_⟩, rfl⟩
          subst q
          cases hn
      next => cases hx
    · cases hx
section SOUND
variable (base : Nat) (ra : Nat → Nat) (fv : Value) (aC : Nat → ClassId) (D : va_G) (scr : List Int32) (l : Launch)
def ev_G (d mi pc : Nat) (ls st : List Value) (h : ev_H) (v : Option Value) (h' : ev_H) : Prop :=
  ∀ {p : Program} {e : Env} {R : Room} {s : State} {m : MethodId} {args : Array Value} {below : List Frame} {meth : Method} {c : Code} {H : Heap} {locs : List Loc} {cells slots : Nat} {Q : State → Prop} {lsC : Array Slot}, ev_F base ra fv aC D scr p s m args meth c mi → d ≤ R.frames → 64 * d ≤ R.locals → cells + (h'.length - h.length) ≤ R.cells → slots + 200 * (h'.length - h.length) ≤ R.slots → ev_LH base ra fv lsC (ev_L mi) ls → va_P D ev_cl (ev_cw base ra fv aC h) H → va_S (ev_A base) s.heap H locs → H.size = base + h.length →
  (∀ H1 locs1 pc1 lsC1, va_P D ev_cl (ev_cw base ra fv aC h') H1 → va_S (ev_A base) s.heap H1 locs1 → H1.size = base + h'.length → ev_rd mi pc1 v → W p l e R s m args below meth c H1 locs1 (cells + (h'.length - h.length)) (slots + 200 * (h'.length - h.length)) Q (F0 m pc1 lsC1 (v.toList.map (ev_vl base ra fv)))) →
  W p l e R s m args below meth c H locs cells slots Q (F0 m ((ev_pb mi).getD pc 0) lsC (st.map (ev_vl base ra fv)))
theorem ev_slen : ∀ (vs : List Value), (lg_sl vs).length = ev_wd vs
  | [] => rfl
  | v :: vs => by
    have ih := ev_slen vs
    unfold lg_sl at ih ⊢
    rw [List.flatMap_cons, List.length_append, ih, ev_wd]
    by_cases hc : v.category = 2
    · rw [if_pos hc, hc]; rfl
    · rw [if_neg hc]
      have : v.category = 1 := (lv_cat v).elim id (fun q => absurd q hc)
      rw [this]; rfl
theorem ev_wd_map (hfv : fv = .null ∨ ∃ t, fv = .ref t) : ∀ (vs : List Value), ev_wd (vs.map (ev_vl base ra fv)) = ev_wd vs
  | [] => rfl
  | v :: vs => by rw [List.map_cons, ev_wd, ev_wd, ev_wd_map hfv vs, ev_vl_cat hfv]
theorem ev_wd_app : ∀ (a b : List Value), ev_wd (a ++ b) = ev_wd a + ev_wd b
  | [], b => by rw [List.nil_append, ev_wd, Nat.zero_add]
  | v :: a, b => by rw [List.cons_append, ev_wd, ev_wd, ev_wd_app a b, Nat.add_assoc]
theorem ev_wd_rev : ∀ (a : List Value), ev_wd a.reverse = ev_wd a
  | [] => rfl
  | v :: a => by rw [List.reverse_cons, ev_wd_app, ev_wd_rev a, ev_wd, ev_wd, ev_wd, Nat.add_zero, Nat.add_comm]
variable {base ra fv aC D scr l}
theorem ev_toMet (hfv : fv = .null ∨ ∃ t, fv = .ref t) {k d : Nat} {as : List Value} {h h' : ev_H} {v : Option Value} (hk : k < 213) (G : ev_G base ra fv aC D scr l d k 0 (ev_lay as (ev_L k)) [] h v h') (hw : ev_wd as ≤ ev_L k) :
    Met l (ev_y k) (ev_ws k) (ev_rm d (h'.length - h.length)) (ev_Pc base ra fv aC D scr as h) (ev_Qc base ra fv aC D v h') (h'.length - h.length) (200 * (h'.length - h.length)) (ev_A base) := by
  refine va_MetF (cc := ev_b k) (maxL := ev_L k) (ret := ev_r k) (ws' := ev_UW) (ev_all ev_plain (by omega)) rfl ?_
  intro p e s m args below meth c s₁ B hml hv
  obtain ⟨rfl, hsz, hP, hK, hR⟩ := hv
  obtain ⟨d1, d2, d3, d4, d5, d6, d7⟩ := ev_dsc hk
  have hown : s.vm.findClass (ev_y k).cls = some m.cls := findClass_of_methodNamed B.named
  rw [d1] at hown
  have hts := atoms_spec (ws := ev_ws k) B.pre
  have hlocks := B.notSynchronized
  have Fr : ev_F base ra fv aC D scr p s m ((as.map (ev_vl base ra fv)).toArray) meth c k := ⟨B.exec, B.bytes, B.returns, hml, hown, fun w hw => hts w (List.mem_cons_of_mem _ hw), hlocks, fun q => (name_of_methodNamed B.named B.method).1.trans q, hK, hR, by rw [hsz]; omega⟩
  have hsl : (lg_sl (as.map (ev_vl base ra fv))).length ≤ ev_L k := by rw [ev_slen, ev_wd_map base ra fv hfv]; exact hw
  have hl := lv_entry (as.map (ev_vl base ra fv)) (n := ev_L k) hsl
  rw [lg_entry_eq]
  generalize (lg_sl (as.map (ev_vl base ra fv)) ++ List.replicate (ev_L k - (lg_sl (as.map (ev_vl base ra fv))).length) Slot.unset).toArray = lsC at hl ⊢
  have hmap : ∀ (vs : List Value) (i0 : Nat), lv_args i0 (vs.map (ev_vl base ra fv)) = (lv_args i0 vs).map (fun q => (q.1, ev_vl base ra fv q.2)) := by
    intro vs
    induction vs with
    | nil => intro i0; rfl
    | cons v vs ih =>
      intro i0
      rw [List.map_cons, lv_args, lv_args, List.map_cons, ev_vl_cat hfv, ih]
  have hLH : ev_LH base ra fv lsC (ev_L k) (ev_lay as (ev_L k)) := by
    refine ⟨hl.1, hl.2.1, ev_lay_len _ _, fun i w hw2 hkn => ?_, fun i x hx => ev_lay_long _ _ i x hx⟩
    have h1 := ev_lay_at as (ev_L k) 0 i w hw2 hkn
    refine hl.2.2 (i, ev_vl base ra fv w) ?_
    rw [hmap]
    rw [Nat.zero_add] at h1
    exact List.mem_map.mpr ⟨_, h1, rfl⟩
  have key := G (p := p) (e := e) (R := ev_rm d (h'.length - h.length)) (s := s) (m := m) (below := below) (meth := meth) (c := c) (H := s.heap) (locs := []) (cells := 0) (slots := 0) (Q := MQ below (ev_Qc base ra fv aC D v h') ((as.map (ev_vl base ra fv)).toArray) s (h'.length - h.length) (200 * (h'.length - h.length)) (ev_A base)) (lsC := lsC) Fr (Nat.le_refl _) (Nat.le_refl _) (by rw [Nat.zero_add]; exact Nat.le_refl _) (by rw [Nat.zero_add]; exact Nat.le_refl _) hLH hP va_S.rf hsz ?_
  · rw [d5] at key
    exact key
  · intro H1 locs1 pc1 lsC1 hP1 hS1 hz1 hrd
    rw [Nat.zero_add, Nat.zero_add]
    have Fx := B.exec
    have Fb := B.bytes
    have hr := B.returns
    have hq : ∀ t : State, t.heap = H1 → s.WarmedH t.vm → ev_Qc base ra fv aC D v h' ((as.map (ev_vl base ra fv)).toArray) s (.returned (v.map (ev_vl base ra fv))) t := fun t ht _ => ⟨rfl, ⟨by rw [ht]; exact hz1, by rw [ht]; exact hP1⟩, hS1.F ht⟩
    match v, hrd, hq with
    | none, hrd, hq => exact W.vret Fx Fb (hr.trans hrd.2) hq hS1.2.2 hrd.1 hlocks
    | some (.int x), hrd, hq =>
      obtain ⟨hd, ty, hty, hn⟩ := hrd
      exact W.zret Fx Fb (hr.trans hty) hn hq hS1.2.2 hd hlocks
    | some (.long x), hrd, hq => exact W.lret Fx Fb (hr.trans hrd.2) hq hS1.2.2 hrd.1 hlocks
    | some (.retAddr x), hrd, hq =>
      have e1 : ev_vl base ra fv (.retAddr x) = .ref (ra x) := if_neg hrd.2.2
      simp only [Option.map_some, e1] at hq
      simp only [Option.toList_some, List.map_cons, List.map_nil, e1]
      exact W.aret Fx Fb (hr.trans hrd.2.1) (Or.inl ⟨_, rfl⟩) (Or.inr ⟨_, rfl⟩) hq hS1.2.2 hrd.1 hlocks
set_option maxHeartbeats 4000000 in
theorem ev_sound (hfv : fv = .null ∨ ∃ t, fv = .ref t) : ∀ (n d mi pc : Nat) (ls st : List Value) (h : ev_H) (v : Option Value) (h' : ev_H), mi < 214 → ev_E scr n d (ev_cd mi) pc ls st h = some (v, h') → h.length ≤ h'.length ∧ ev_G base ra fv aC D scr l d mi pc ls st h v h' := by
  intro n
  induction n with
  | zero => intro d mi pc ls st h v h' hmi hE; cases hE
  | succ n ih =>
    intro d mi pc ls st h v h' hmi hE
    unfold ev_E at hE
    cases hf : ev_ft (ev_cd mi) pc with
    | none => rw [hf] at hE; cases hE
    | some i =>
      rw [hf] at hE
      dsimp only at hE
      cases hs : ev_S scr i pc ls st h with
      | none => rw [hs] at hE; cases hE
      | some q =>
        rw [hs] at hE
        rcases ev_S_cases hs with ⟨pc', ls', st', hx, rfl⟩ | ⟨pc', st', hx, rfl⟩ | ⟨st', h1, hx, rfl⟩ | ⟨v1, hx, rfl⟩ | ⟨k, hx, rfl⟩
        · obtain ⟨hg, G⟩ := ih d mi pc' ls' st' h v h' hmi hE
          refine ⟨hg, ?_⟩
          intro p e R s m args below meth c H locs cells slots Q lsC Fr hR1 hR2 hcr hsr hLH hP hS hz hQ
          exact ev_wP hfv Fr hmi hf hx hLH hS (fun lsC1 h1 => G Fr hR1 hR2 hcr hsr h1 hP hS hz hQ)
        · obtain ⟨hg, G⟩ := ih d mi pc' ls st' h v h' hmi hE
          refine ⟨hg, ?_⟩
          intro p e R s m args below meth c H locs cells slots Q lsC Fr hR1 hR2 hcr hsr hLH hP hS hz hQ
          exact ev_wB Fr hmi hf hx (G Fr hR1 hR2 hcr hsr hLH hP hS hz hQ)
        · obtain ⟨hg, G⟩ := ih d mi (pc + 1) ls st' h1 v h' hmi hE
          have hl := ev_xH_len hx
          refine ⟨by omega, ?_⟩
          intro p e R s m args below meth c H locs cells slots Q lsC Fr hR1 hR2 hcr hsr hLH hP hS hz hQ
          refine ev_wH Fr hmi hf hx hP hS hz (by omega) (by omega) (fun H1 locs1 hP1 hS1 hz1 => ?_)
          refine G Fr hR1 hR2 (by omega) (by omega) hLH hP1 hS1 hz1 (fun H2 locs2 pc2 lsC2 q1 q2 q3 q4 => ?_)
          have key := hQ H2 locs2 pc2 lsC2 q1 q2 q3 q4
          rw [show cells + (h1.length - h.length) + (h'.length - h1.length) = cells + (h'.length - h.length) by omega, show slots + 200 * (h1.length - h.length) + 200 * (h'.length - h1.length) = slots + 200 * (h'.length - h.length) by omega]
          exact key
        · cases hE
          obtain ⟨hrd, hst⟩ := ev_xR_rd hmi hf hx
          refine ⟨Nat.le_refl _, ?_⟩
          intro p e R s m args below meth c H locs cells slots Q lsC Fr hR1 hR2 hcr hsr hLH hP hS hz hQ
          have key := hQ H locs ((ev_pb mi).getD pc 0) lsC hP hS hz hrd
          rw [Nat.sub_self, Nat.mul_zero, Nat.add_zero, Nat.add_zero] at key
          rw [hst]
          exact key
        · dsimp only at hE
          cases d with
          | zero => cases hE
          | succ d =>
            dsimp only at hE
            cases hp : ev_pr k with
            | none =>
              rw [hp] at hE
              dsimp only at hE
              split at hE
              next a r hk9 =>
                obtain ⟨hg, G⟩ := ih (d + 1) mi (pc + 1) ls r h v h' hmi hE
                refine ⟨hg, ?_⟩
                intro p e R s m args below meth c H locs cells slots Q lsC Fr hR1 hR2 hcr hsr hLH hP hS hz hQ
                have hk9 : (Nat.beq k 999 && Nat.ble (Value.ref a :: r).length 5) = true := by assumption
                rw [Bool.and_eq_true, Nat.ble_eq] at hk9
                have hk8 : k = 999 := Nat.eq_of_beq_eq_true hk9.1
                have hok := ev_okL_at _ _ _ _ _ _ _ _ _ (ev_ok mi hmi) hf
                have K := G Fr hR1 hR2 hcr hsr hLH hP hS hz hQ
                obtain ⟨Fx, Fb, Fr1, Fl, Fo, Fw, -, -, FK, FR, -⟩ := Fr
                obtain ⟨raw, len, hd, hr⟩ := ev_okI_dec hok (by rintro rfl; cases hx) (by rintro rfl; cases hx)
                rcases ev_xC_of hx with rfl | rfl | rfl | ⟨rfl, -⟩
                · simp only [ev_okR] at hr
                  split at hr
                  · simp only [Bool.and_eq_true, decide_eq_true_eq] at hr
                    have hmk := List.all_eq_true.mp ev_mls_ok _ hr.2
                    simp only [Bool.and_eq_true, decide_eq_true_eq] at hmk
                    omega
                  · cases hr
                · simp only [ev_okR] at hr
                  split at hr
                  · simp only [Bool.and_eq_true, decide_eq_true_eq, Bool.or_eq_true] at hr
                    rcases hr.2 with q | q
                    · have hmk := List.all_eq_true.mp ev_mls_ok _ q
                      simp only [Bool.and_eq_true, decide_eq_true_eq] at hmk
                      omega
                    · have hmk := List.all_eq_true.mp ev_mns_ok _ q
                      simp only [Bool.and_eq_true, decide_eq_true_eq] at hmk
                      omega
                  · cases hr
                · simp only [ev_okR] at hr
                  split at hr
                  · simp only [Bool.and_eq_true, decide_eq_true_eq, Bool.or_eq_true] at hr
                    rcases hr.2 with q | q
                    · have hmk := List.all_eq_true.mp ev_mls_ok _ q
                      simp only [Bool.and_eq_true, decide_eq_true_eq] at hmk
                      omega
                    · have hmk := List.all_eq_true.mp ev_mns_ok _ q
                      simp only [Bool.and_eq_true, decide_eq_true_eq] at hmk
                      omega
                  · cases hr
                · simp only [ev_okR] at hr
                  split at hr
                  next ix =>
                    simp only [Bool.and_eq_true, decide_eq_true_eq] at hr
                    obtain ⟨⟨rfl, hnx⟩, hmo⟩ := hr
                    rw [hnx] at K
                    have h8 := ev_sum8 (r.map (ev_vl base ra fv))
                    have h9 := hk9.2
                    simp only [List.length_cons, List.length_map] at h8 h9
                    refine W.objInit Fx Fb Fo (Fw _ (ev_mos_in hmo)) (Fw _ ev_obi) (Fw _ ev_obc) rfl (hLH.1.trans Fl.symm) rfl hd (by omega) ?_ K
                    show 2 * 0 + _ + 12 ≤ R.locals
                    omega
                  · cases hr
              next => cases hE
            | some M =>
              obtain ⟨cd', mL, np, own⟩ := M
              obtain ⟨hk, rfl, rfl, rfl, rfl⟩ := ev_pr_of hp
              rw [hp] at hE
              dsimp only at hE
              cases hc : (ev_cok i st (ev_np k) (ev_o k) h && Nat.ble (ev_wd (st.take (ev_np k))) (ev_L k)) with
              | false => rw [hc] at hE; cases hE
              | true =>
                rw [hc] at hE
                dsimp only at hE
                rw [Bool.and_eq_true, Nat.ble_eq] at hc
                cases he : ev_E scr n d (ev_cd k) 0 (ev_lay (st.take (ev_np k)).reverse (ev_L k)) [] h with
                | none => rw [he] at hE; cases hE
                | some w =>
                  obtain ⟨v1, h1⟩ := w
                  rw [he] at hE
                  dsimp only at hE
                  obtain ⟨hg1, G1⟩ := ih d k 0 _ [] h v1 h1 hk he
                  obtain ⟨hg, G⟩ := ih (d + 1) mi (pc + 1) ls _ h1 v h' hmi hE
                  refine ⟨by omega, ?_⟩
                  intro p e R s m args below meth c H locs cells slots Q lsC Fr hR1 hR2 hcr hsr hLH hP hS hz hQ
                  refine ev_wC (d := d) (mc := h1.length - h.length) (v := v1) (h' := h1) Fr hmi hf hx (by omega) hc.1 (fun hk3 => ev_toMet hfv hk3 G1 (by rw [ev_wd_rev]; exact hc.2)) hLH.1 hP hS hz hR1 hR2 (by omega) (by omega) hfv (fun H1 locs1 hP1 hS1 hz1 => ?_)
                  refine G Fr hR1 hR2 (by omega) (by omega) hLH hP1 hS1 hz1 (fun H2 locs2 pc2 lsC2 q1 q2 q3 q4 => ?_)
                  have key := hQ H2 locs2 pc2 lsC2 q1 q2 q3 q4
                  rw [show cells + (h1.length - h.length) + (h'.length - h1.length) = cells + (h'.length - h.length) by omega, show slots + 200 * (h1.length - h.length) + 200 * (h'.length - h1.length) = slots + 200 * (h'.length - h.length) by omega]
                  exact key
end SOUND
end
section
-- ===== end of PART A; then your names; then what follows =====
/-! THE CLAIM OUT OF ONE WALK OF THE LAW'S BODY. Your part is whole_start (and what it stands on); all else here is the same for every law, but numbers. -/
def R_law : String := "TenPledgesLaw"
def lw_P (b : Addr) (xs : List Int32) (args : Array Value) (s : State) : Prop := args = #[.ref b] ∧ s.IntsAt b xs ∧ xs.length ≤ 320 ∧ (Jvm.Cond.and given_1 narrow_1).before args s = true
def lw_Q (_ : Array Value) (s : State) (o : Outcome) (t : State) : Prop := o = .returned (some (.int 1)) ∧ Framed s o t [] 600000 7302250
def lw_Z (below : List Frame) (a : Array Value) (s : State) : State → Prop := fun t => ∃ o, t.status = .running ∧ Ended t below o ∧ lw_Q a s o t
/-- the law's own end, with 1 on the stack, nothing written that was there before, its room as the claim has it -/
theorem lw_ret {p : Program} {l : Launch} {e : Env} {s : State} {m : MethodId} {below : List Frame} {meth : Method} {c : Code} {b : Nat} (hx : p.tables.exec = Jvm.exec) (hb : c.code = code) (hr : meth.sig.returnType = ret) (hlocks : meth.locks = false) {pc : Nat} {H : Heap} {ls : Array Slot} (hdg : decode code pc = .ok (.ireturn, 1)) : W p l e room_1 s m #[Value.ref b] below meth c H [] 600000 7302250 (lw_Z below #[Value.ref b] s) (F0 m pc ls [.int 1]) := by
  intro T hT X
  obtain ⟨fs, hret, hrun, hended, hW, hframe⟩ := X.leave (v := some (.int 1)) (hlocks := hlocks) (fun h => by rw [hr] at h; cases h)
  have hmeth' : T.vm.method? m = some meth := X.method'
  refine ⟨T.setFrames fs, ?_, .returned (some (.int 1)), hrun, hended, rfl, ⟨_, rfl⟩, hW, hframe⟩
  jvm_step X.here [X.here.top, hx, hb, hdg, hmeth', hr, ret, narrow_b1]
  (try refine ⟨rfl, ?_⟩); (try refine ⟨rfl, ?_⟩)
  first | (intro acts; rw [hret _ acts rfl rfl rfl]) | rw [hret _ _ rfl rfl rfl]
  exact Steps.refl _
/-- what holds at the law's entry: the machine, the code, the tables' words (any of lw_tbl by 'hts w (by decide +kernel)'), the script of L ints xs at the cell b, what the Statement gives of the start (any of its parts by flat_of_before) -/
def lw_At (p : Program) (s : State) (m : MethodId) (meth : Method) (c : Code) (b L : Nat) (xs : Nat → Int32) : Prop :=
  p.tables.exec = Jvm.exec ∧ c.code = code ∧ meth.sig.returnType = ret ∧ c.maxLocals = 4 ∧ s.vm.findClass R_law = some m.cls ∧ (∀ w ∈ lw_tbl, w.before #[Value.ref b] s = true) ∧ va_X b L xs s s.heap ∧ b < s.heap.size ∧ meth.locks = false ∧ (Jvm.Cond.and given_1 narrow_1).before #[Value.ref b] s = true

theorem ev_UW_in {w : Cond} (h : w ∈ ev_UW) : w ∈ lw_tbl := (List.mem_filter.mp h).1
def ev_spl (i : Nat) : Nat := [162, 164, 166, 168, 170, 171, 173, 175].getD i 0
def ev_sln : List Nat := [4, 7, 5, 6, 4, 5, 4, 3]
def ev_sby : List (List Int32) := [[99, 97, 108, 109], [113, 117, 97, 114, 114, 101, 108], [115, 97, 105, 110, 116], [119, 97, 110, 100, 101, 114], [102, 105, 110, 101], [119, 97, 116, 99, 104], [109, 111, 115, 116], [107, 105, 110]]
abbrev ev_tm (i : Nat) : Term := .string RX3 (ev_spl i)
abbrev ev_fl : List Cond := flatC (Jvm.Cond.and given_1 narrow_1)
theorem ev_p1 : ∀ i, i < 8 → Cond.exactly (ev_tm i) "java/lang/String" ∈ ev_fl := by decide +kernel
theorem ev_p2 : ∀ i, i < 8 → Cond.eq (.field (ev_tm i) "java/lang/String" "coder" "B") (.int 0) ∈ ev_fl := by decide +kernel
theorem ev_p3 : ∀ i, i < 8 → Cond.arrayOf (.field (ev_tm i) "java/lang/String" "value" "[B") .byte ∈ ev_fl := by decide +kernel
theorem ev_p4 : ∀ i, i < 8 → Cond.eq (.length (.field (ev_tm i) "java/lang/String" "value" "[B")) (.int (Int32.ofNat (ev_sln.getD i 0))) ∈ ev_fl := by decide +kernel
theorem ev_p5 : ∀ i, i < 8 → ∀ j, j < ev_sln.getD i 0 → Cond.eq (.elem (.field (ev_tm i) "java/lang/String" "value" "[B") (.int (Int32.ofNat j))) (.int ((ev_sby.getD i []).getD j 0)) ∈ ev_fl := by decide +kernel
theorem ev_p6 : ∀ i, i < 8 → ∀ j, j < 8 → i ≠ j → Cond.not (Cond.eq (ev_tm i) (ev_tm j)) ∈ ev_fl ∨ Cond.not (Cond.eq (ev_tm j) (ev_tm i)) ∈ ev_fl := by decide +kernel
def ev_san (k : Nat) : String := ["NUMBERS", "LOWEST", "HIGHEST"].getD k ""
def ev_sax (k : Nat) : List Int32 := [[3, 3, 2, 2, 1, 1, 2, 2], [0, 0, 0, 0, 0, 0, 0, 0, 0, 0, 0, 0, 0, 0, 0, 0, 0, 0, 0, 1, 0, 0, 0, 0], [9, 99, 3, 9, 99, 3, 99, 3, 0, 9, 99, 0, 99, 0, 0, 9, 0, 0, 3, 5, 0, 7, 7, 0]].getD k []
abbrev ev_ts (k : Nat) : Term := .static "TenPledges$Teller" (ev_san k) "[I"
theorem ev_p7 : ∀ k, k < 3 → Cond.arrayOf (ev_ts k) .int ∈ ev_fl := by decide +kernel
theorem ev_p8 : ∀ k, k < 3 → Cond.eq (.length (ev_ts k)) (.int (Int32.ofNat (ev_sax k).length)) ∈ ev_fl := by decide +kernel
theorem ev_p9 : ∀ k, k < 3 → ∀ j, j < (ev_sax k).length → Cond.eq (.elem (ev_ts k) (.int (Int32.ofNat j))) (.int ((ev_sax k).getD j 0)) ∈ ev_fl := by decide +kernel
theorem ev_p10 : ∀ k, k < 3 → Cond.laysStatic "TenPledges$Teller" (ev_san k) "[I" ∈ lw_tbl := by decide +kernel
theorem ev_p11 : Cond.laysStatic "java/lang/String" "COMPACT_STRINGS" "Z" ∈ lw_tbl ∧ Cond.laysStatic "jdk/internal/util/Preconditions" "SIOOBE_FORMATTER" "Ljava/util/function/BiFunction;" ∈ lw_tbl ∧ Cond.arrayOver (.object RX4) ∈ lw_tbl ∧ Cond.arrayOver (.object RX2) ∈ lw_tbl := by decide +kernel
theorem ev_p12 : Cond.eq (.static "java/lang/String" "COMPACT_STRINGS" "Z") (.int 1) ∈ ev_fl ∧ Cond.isRef (.static "jdk/internal/util/Preconditions" "SIOOBE_FORMATTER" "Ljava/util/function/BiFunction;") ∈ ev_fl := by decide +kernel
theorem ev_p13 : ev_mns.all (fun e => decide (Cond.methodLinkNest (ev_cn e.2.1) e.2.2.1 (ev_y e.2.2.2) "TenPledges" ∈ lw_tbl)) = true := by decide +kernel
theorem ev_p14 : ∀ i, i < 8 → Cond.stringRef RX3 (ev_spl i) (ev_txt i) ∈ lw_tbl := by decide +kernel
theorem ev_p15 : ev_strs.all (fun e => decide (10 ≤ e.2) && decide (e.2 < 18) && decide (e.1 = ev_spl (e.2 - 10))) = true := by decide +kernel
theorem ev_p16 : (List.range 8).all (fun i => decide (ev_sln.getD i 0 = (ev_sby.getD i []).length)) = true := by decide +kernel
end
section
set_option maxHeartbeats 4000000 in
set_option maxRecDepth 100000 in
/-- the law, if the machine of our own runs it to 1 -/
theorem ev_start {p : Program} {e : Env} {s : State} {m : MethodId} {below : List Frame} {meth : Method} {c : Code} (l : Launch) {b L : Nat} {xs : Nat → Int32} (C0 : lw_At p s m meth c b L xs)
    (hLL : L < 2 ^ 31) (hrun : ∃ h', List.length h' ≤ 1000 ∧ ev_V ((List.range L).map xs) 60 cd_L_law 0 [.retAddr 0, .float 0, .float 0, .float 0] [] [] (some (.int 1), h')) :
    W p l e room_1 s m #[Value.ref b] below meth c s.heap [] 0 0 (lw_Z below #[Value.ref b] s) (entryFrame m ([Value.ref b] : List Value).toArray 4) := by
  obtain ⟨hx, hb, hr, hml, hown, hts, hX, hbl, hlocks, hgv⟩ := C0
  have hfl := flat_of_before _ hgv
  have hA : ∀ a : Nat, a < s.heap.size → ¬ ev_A s.heap.size a := fun a h q => Nat.not_le.mpr h q
  have Fw : ∀ w ∈ ev_UW, w.before #[Value.ref b] s = true := fun w hw => hts w (ev_UW_in hw)
  have hcls : ∀ k : Nat, ∃ q : ClassId × (Nat → Nat), k < 7 → u_Kn s (ev_cn k) (ev_T k) (ev_N k) q.1 q.2 := by
    intro k
    by_cases hk : k < 7
    · obtain ⟨c0, iS, h0⟩ := u_known (C := ev_cn k) (T := ev_T k) (N := ev_N k) Fw (ev_uws hk) (Fw _ (ev_inst_in hk))
      exact ⟨(c0, iS), fun _ => h0⟩
    · exact ⟨(0, fun _ => 0), fun q => absurd q hk⟩
  obtain ⟨dd, hdd⟩ := Classical.axiomOfChoice hcls
  obtain ⟨cI, kI, compI, fI, gI, kkI⟩ := Cond.arrayClass_spec (Fw _ (ev_arrw .int (Or.inl rfl)))
  obtain ⟨cB, kB, compB, fB, gB, kkB⟩ := Cond.arrayClass_spec (Fw _ (ev_arrw .byte (Or.inr (Or.inl rfl))))
  obtain ⟨cZ, kZ, compZ, fZ, gZ, kkZ⟩ := Cond.arrayClass_spec (Fw _ (ev_arrw .boolean (Or.inr (Or.inr rfl))))
  obtain ⟨compT, cT, kT, fT, -, gT, kkT, nT⟩ := Cond.arrayOver_spec (hts _ ev_p11.2.2.1)
  obtain ⟨compS, cS, kS, fS, -, gS, kkS, nS⟩ := Cond.arrayOver_spec (hts _ ev_p11.2.2.2)
  obtain ⟨aC, a0, a1, a2, a14, a12⟩ : ∃ aC : Nat → ClassId, aC 0 = cI ∧ aC 1 = cB ∧ aC 2 = cZ ∧ aC 14 = cT ∧ aC 12 = cS := ⟨fun t => if t = 0 then cI else if t = 1 then cB else if t = 2 then cZ else if t = 14 then cT else cS, rfl, rfl, rfl, rfl, rfl⟩
  have hK : va_K (fun k => (dd k).1, fun k => (dd k).2) ev_cl (ev_tys aC) s := by
    refine ⟨fun k q hq => ?_, fun k q hq => ?_⟩
    · have hk : k < 7 := (List.getElem?_eq_some_iff.mp hq).1
      have h1 := (ev_cl_get hk).symm.trans hq
      cases h1
      exact hdd k hk
    · match k, hq with
      | 0, hq => cases hq; rw [a0]; exact ⟨fun n z => ⟨fun k h => (by cases h), kI, gI, compI, kkI⟩, fI⟩
      | 1, hq => cases hq; rw [a1]; exact ⟨fun n z => ⟨fun k h => (by cases h), kB, gB, compB, kkB⟩, fB⟩
      | 2, hq => cases hq; rw [a2]; exact ⟨fun n z => ⟨fun k h => (by cases h), kZ, gZ, compZ, kkZ⟩, fZ⟩
      | 3, hq => cases hq; rw [a14]; exact ⟨fun n z => ⟨fun k h => (by cases h), kT, gT, compT, kkT⟩, kT, compT, gT, kkT, fT, nT⟩
      | 4, hq => cases hq; rw [a12]; exact ⟨fun n z => ⟨fun k h => (by cases h), kS, gS, compS, kkS⟩, kS, compS, gS, kkS, fS, nS⟩
      | k + 5, hq => simp at hq
  obtain ⟨adK, adV, hVS, hev⟩ := vk_Sof (args := #[Value.ref b]) (s := s) (N := 8) (tm := ev_tm) (len := ev_sln) (byt := ev_sby) (A := ev_A s.heap.size) (fun i hi => by
      match i, hi with
      | 0, _ => decide
      | 1, _ => decide
      | 2, _ => decide
      | 3, _ => decide
      | 4, _ => decide
      | 5, _ => decide
      | 6, _ => decide
      | 7, _ => decide) (fun i hi => hfl _ (ev_p1 i hi)) (fun i hi => hfl _ (ev_p2 i hi)) (fun i hi => hfl _ (ev_p3 i hi)) (fun i hi => hfl _ (ev_p4 i hi)) (fun i hi j hj => hfl _ (ev_p5 i hi j hj)) (fun i j hi hj hij => (ev_p6 i hi j hj hij).imp (fun q => hfl _ q) (fun q => hfl _ q)) hA
  have hst : ∀ k : Nat, ∃ t : Nat, k < 3 → (ev_ts k).eval #[Value.ref b] s none [] s = some (.ref t) ∧ va_T .int t (ev_sax k).length (fun j => .int ((ev_sax k).getD j 0)) (ev_A s.heap.size) s s.heap := by
    intro k
    by_cases hk : k < 3
    · obtain ⟨t, ht, hT⟩ := va_Tof (f := fun j => .int ((ev_sax k).getD j 0)) (A := ev_A s.heap.size) (N := (ev_sax k).length) (by
        match k, hk with
        | 0, _ => decide
        | 1, _ => decide
        | 2, _ => decide) (hfl _ (ev_p7 k hk)) (va_eqt (hfl _ (ev_p8 k hk))) (fun j hj => va_eqt (hfl _ (ev_p9 k hk j hj))) hA
      exact ⟨t, fun _ => ⟨ht, hT⟩⟩
    · exact ⟨0, fun q => absurd q hk⟩
  obtain ⟨tt, htt⟩ := Classical.axiomOfChoice hst
  obtain ⟨fv, hfv, hZ4⟩ : ∃ fv : Value, (fv = .null ∨ ∃ t, fv = .ref t) ∧ va_Z "jdk/internal/util/Preconditions" "SIOOBE_FORMATTER" "Ljava/util/function/BiFunction;" fv (ev_A s.heap.size) s s.heap := by
    rcases va_Zqof (A := ev_A s.heap.size) (hts _ ev_p11.2.1) (Fw _ (ev_init_in (c := 12) (by decide))) (hfl _ ev_p12.2) hA with q | ⟨t, q⟩
    · exact ⟨_, Or.inl rfl, q⟩
    · exact ⟨_, Or.inr ⟨t, rfl⟩, q⟩
  obtain ⟨ra, r0, r1, r10, r20⟩ : ∃ ra : Nat → Nat, ra 0 = b ∧ (∀ k, k < 3 → ra (k + 1) = tt k) ∧ (∀ i, i < 8 → ra (10 + i) = adK i) ∧ ∀ i, i < 8 → ra (20 + i) = adV i := by
    refine ⟨fun k => if k = 0 then b else if k < 4 then tt (k - 1) else if k < 20 then adK (k - 10) else adV (k - 20), rfl, fun k hk => ?_, fun i hi => ?_, fun i hi => ?_⟩
    · dsimp only
      rw [if_neg (by omega), if_pos (by omega)]
      rfl
    · dsimp only
      rw [if_neg (by omega), if_neg (by omega), if_pos (by omega)]
      congr 1
      omega
    · dsimp only
      rw [if_neg (by omega), if_neg (by omega), if_neg (by omega)]
      congr 1
      omega
  have hstr : ∀ i, i < 8 → ∀ ys, ys = ev_sby.getD i [] → va_T .byte (ra (20 + i)) ys.length (fun j => .int (ys.getD j 0)) (ev_A s.heap.size) s s.heap := by
    intro i hi ys hys
    have h1 := (hVS.1 i hi).2.2.2
    have h2 := of_decide_eq_true (ev_all ev_p16 hi)
    rw [h2] at h1
    rw [r20 i hi, hys]
    exact h1
  have hRO : ev_RO s.heap.size ra fv ((List.range L).map xs) s s.heap := by
    refine ⟨fun k ys hk => ?_, fun i hi => ?_, fun e0 he0 => ?_, fun j hj => ?_, fun e0 he0 => ?_, va_AO.of (hts _ ev_p11.2.2.1), va_AO.of (hts _ ev_p11.2.2.2)⟩
    · unfold ev_ro at hk
      split at hk <;> cases hk
      · obtain ⟨cell, h1, h2, h3, h4, h5⟩ := hX
        rw [if_pos (by decide), r0]
        refine ⟨cell, h1, h2, h3, ?_, ?_, fun j hj => ?_, hA b hbl⟩
        · rw [List.length_map, List.length_range, h4]; exact Nat.le_refl _
        · rw [List.length_map, List.length_range, h4] <;> rfl
        · rw [List.length_map, List.length_range] at hj
          rw [h5 j hj]
          simp [hj]
      · rw [if_pos (by decide), r1 0 (by decide)]; exact (htt 0 (by decide)).2
      · rw [if_pos (by decide), r1 1 (by decide)]; exact (htt 1 (by decide)).2
      · rw [if_pos (by decide), r1 2 (by decide)]; exact (htt 2 (by decide)).2
      · rw [if_neg (by decide)]; exact hstr 0 (by decide) _ rfl
      · rw [if_neg (by decide)]; exact hstr 1 (by decide) _ rfl
      · rw [if_neg (by decide)]; exact hstr 2 (by decide) _ rfl
      · rw [if_neg (by decide)]; exact hstr 3 (by decide) _ rfl
      · rw [if_neg (by decide)]; exact hstr 4 (by decide) _ rfl
      · rw [if_neg (by decide)]; exact hstr 5 (by decide) _ rfl
      · rw [if_neg (by decide)]; exact hstr 6 (by decide) _ rfl
      · rw [if_neg (by decide)]; exact hstr 7 (by decide) _ rfl
    · obtain ⟨h1, h2, h3, -⟩ := hVS.1 i hi
      rw [r10 i hi, r20 i hi]
      exact ⟨h1, h2, h3⟩
    · have h1 := List.all_eq_true.mp ev_p15 e0 he0
      simp only [Bool.and_eq_true, decide_eq_true_eq] at h1
      obtain ⟨⟨q1, q2⟩, q3⟩ := h1
      obtain ⟨i, hi, hi2⟩ : ∃ i, i < 8 ∧ e0.2 = 10 + i := ⟨e0.2 - 10, by omega, by omega⟩
      rw [q3, hi2, show 10 + i - 10 = i by omega, r10 i hi]
      exact vk_R.of (hts _ (ev_p14 i hi)) (hev i hi)
    · match j, hj with
      | 0, _ => exact va_Zof (hts _ ev_p11.1) (Fw _ (ev_init_in (c := 10) (by decide))) (va_eqi (hfl _ ev_p12.1)) hA
      | 1, _ =>
        have h1 := va_Zref (A := ev_A s.heap.size) (hts _ (ev_p10 0 (by decide))) (Fw _ (ev_init_in (c := 3) (by decide))) (htt 0 (by decide)).1 hA
        have e1 : ev_vl s.heap.size ra fv (ev_sv 1) = .ref (tt 0) := by rw [← r1 0 (by decide)]; rfl
        rw [e1]
        exact h1
      | 2, _ =>
        have h1 := va_Zref (A := ev_A s.heap.size) (hts _ (ev_p10 1 (by decide))) (Fw _ (ev_init_in (c := 3) (by decide))) (htt 1 (by decide)).1 hA
        have e1 : ev_vl s.heap.size ra fv (ev_sv 2) = .ref (tt 1) := by rw [← r1 1 (by decide)]; rfl
        rw [e1]
        exact h1
      | 3, _ =>
        have h1 := va_Zref (A := ev_A s.heap.size) (hts _ (ev_p10 2 (by decide))) (Fw _ (ev_init_in (c := 3) (by decide))) (htt 2 (by decide)).1 hA
        have e1 : ev_vl s.heap.size ra fv (ev_sv 3) = .ref (tt 2) := by rw [← r1 2 (by decide)]; rfl
        rw [e1]
        exact h1
      | 4, _ => exact hZ4
    · exact va_Nw.of rfl (hts _ (of_decide_eq_true (List.all_eq_true.mp ev_p13 e0 he0)))
  have Fr : ev_F s.heap.size ra fv aC (fun k => (dd k).1, fun k => (dd k).2) ((List.range L).map xs) p s m #[Value.ref b] meth c 213 := ⟨hx, hb, hr, hml, hown, Fw, hlocks, fun q => absurd q (by decide), hK, hRO, Nat.le_refl _⟩
  obtain ⟨h', hl', n, hE⟩ := hrun
  obtain ⟨-, G⟩ := ev_sound (base := s.heap.size) (ra := ra) (aC := aC) (D := (fun k => (dd k).1, fun k => (dd k).2)) (l := l) hfv n 60 213 0 _ [] [] _ h' (by decide) hE
  have hl := lv_entry ([.ref b]) (n := 4) (Nat.le_of_ble_eq_true rfl)
  rw [lg_entry_eq]
  generalize (lg_sl ([.ref b]) ++ List.replicate (4 - (lg_sl ([.ref b])).length) Slot.unset).toArray = lsC at hl ⊢
  have hLH : ev_LH s.heap.size ra fv lsC (ev_L 213) [.retAddr 0, .float 0, .float 0, .float 0] := by
    refine ⟨hl.1, hl.2.1, by decide, fun i v hv hk => ?_, fun i x hx => ?_⟩
    · match i, hv with
      | 0, hv =>
        cases hv
        have e1 : ev_vl s.heap.size ra fv (.retAddr 0) = .ref b := by rw [← r0]; rfl
        rw [e1]
        exact hl.2.2 (0, .ref b) List.mem_cons_self
      | 1, hv => cases hv; cases hk
      | 2, hv => cases hv; cases hk
      | 3, hv => cases hv; cases hk
      | i + 4, hv => cases hv
    · match i, hx with
      | 0, hx => cases hx
      | 1, hx => cases hx
      | 2, hx => cases hx
      | 3, hx => cases hx
      | i + 4, hx => cases hx
  have key := G (p := p) (e := e) (R := room_1) (below := below) (H := s.heap) (locs := []) (cells := 0) (slots := 0) (Q := lw_Z below #[Value.ref b] s) (lsC := lsC) Fr (by decide) (by decide)
    (by show 0 + (h'.length - 0) ≤ 600000; omega) (by show 0 + 200 * (h'.length - 0) ≤ 7302250; omega) hLH (fun k q h => by simp [ev_cw] at h) va_S.rf rfl ?_
  · exact key
  · intro H1 locs1 pc1 lsC1 hP1 hS1 hz1 hrd
    refine va_forget (fun q hq => hS1.2.2 q hq) ?_
    refine W.widen (k := 600000) (n := 7302250) (by show 0 + (h'.length - 0) ≤ 600000; omega) (by show 0 + 200 * (h'.length - 0) ≤ 7302250; omega) ?_
    exact lw_ret hx hb hr hlocks hrd.1
end
section
/-! Pure: loops, arrays of ints, numbers, sets as bits. -/
theorem ev_loop (n : Nat) (P : Nat → Prop) (hs : ∀ i, i < n → P (i + 1) → P i) (he : P n) : P 0 := by
  have key : ∀ k, k ≤ n → P (n - k) := by
    intro k
    induction k with
    | zero => intro _; exact he
    | succ k ih =>
      intro hk
      have h1 := ih (by omega)
      refine hs (n - (k + 1)) (by omega) ?_
      rw [show n - (k + 1) + 1 = n - k by omega]
      exact h1
  have := key n (Nat.le_refl n)
  rw [Nat.sub_self] at this
  exact this
/-- from i on -/
theorem ev_loopF (i0 n : Nat) (h0 : i0 ≤ n) (P : Nat → Prop) (hs : ∀ i, i0 ≤ i → i < n → P (i + 1) → P i) (he : P n) : P i0 := by
  have := ev_loop (n - i0) (fun i => P (i0 + i)) (fun i hi K => hs (i0 + i) (by omega) (by omega) K) (by rw [show i0 + (n - i0) = n by omega]; exact he)
  exact this
/-- downwards -/
theorem ev_down (n : Nat) (P : Nat → Prop) (hs : ∀ i, i < n → P i → P (i + 1)) (he : P 0) : P n := by
  induction n with
  | zero => exact he
  | succ n ih => exact hs n (Nat.lt_succ_self n) (ih (fun i hi => hs i (by omega)))
/-- an array of ints of length L; what is said of its places with P -/
def IA (h : ev_H) (k L : Nat) (P : Nat → Prop) (g : Nat → Int32) : Prop := ∃ xs : List Int32, h[k]? = some (.inl (0, xs)) ∧ xs.length = L ∧ ∀ i, i < L → P i → xs.getD i 0 = g i
/-- nothing but the cell k is another -/
def SB (k : Nat) (h h' : ev_H) : Prop := h'.length = h.length ∧ ∀ j, j ≠ k → h'[j]? = h[j]?
/-- nothing but the cells from a to b is another -/
def FR (a b : Nat) (h h' : ev_H) : Prop := h'.length = h.length ∧ ∀ j, (j < a ∨ b < j) → h'[j]? = h[j]?
theorem FR.rf {a b : Nat} {h : ev_H} : FR a b h h := ⟨rfl, fun _ _ => rfl⟩
theorem FR.tr {a b : Nat} {h h1 h2 : ev_H} (x : FR a b h h1) (y : FR a b h1 h2) : FR a b h h2 := ⟨y.1.trans x.1, fun j hj => (y.2 j hj).trans (x.2 j hj)⟩
theorem SB.fr {k a b : Nat} {h h' : ev_H} (x : SB k h h') (ha : a ≤ k) (hb : k ≤ b) : FR a b h h' := ⟨x.1, fun j hj => x.2 j (by omega)⟩
theorem FR.wide {a b a' b' : Nat} {h h' : ev_H} (x : FR a b h h') (ha : a' ≤ a) (hb : b ≤ b') : FR a' b' h h' := ⟨x.1, fun j hj => x.2 j (by omega)⟩
theorem SB.set {k : Nat} {h : ev_H} {c : ev_C} : SB k h (h.set k c) := ⟨by simp, fun j hj => by rw [List.getElem?_set_ne (Ne.symm hj)]⟩
theorem IA.congr {h : ev_H} {k L : Nat} {P Q : Nat → Prop} {g g' : Nat → Int32} (x : IA h k L P g) (hg : ∀ i, i < L → Q i → P i ∧ g i = g' i) : IA h k L Q g' := by
  obtain ⟨xs, h1, h2, h3⟩ := x
  exact ⟨xs, h1, h2, fun i hi hq => (h3 i hi (hg i hi hq).1).trans (hg i hi hq).2⟩
theorem IA.kept {h h' : ev_H} {k L : Nat} {P : Nat → Prop} {g : Nat → Int32} (x : IA h k L P g) (hk : h'[k]? = h[k]?) : IA h' k L P g := by
  obtain ⟨xs, h1, h2, h3⟩ := x
  exact ⟨xs, hk.trans h1, h2, h3⟩
theorem IA.sb {h h' : ev_H} {k j L : Nat} {P : Nat → Prop} {g : Nat → Int32} (x : IA h k L P g) (y : SB j h h') (hk : k ≠ j) : IA h' k L P g := x.kept (y.2 k hk)
theorem IA.fr {h h' : ev_H} {k a b L : Nat} {P : Nat → Prop} {g : Nat → Int32} (x : IA h k L P g) (y : FR a b h h') (hk : k < a ∨ b < k) : IA h' k L P g := x.kept (y.2 k hk)
section PR
variable {scr : List Int32} {d : Nat} {cd : List ev_I} {pc : Nat} {ls st : List Value} {h : ev_H} {r : Option Value × ev_H}
theorem ev_ia (n : Nat) {a L : Nat} {P : Nat → Prop} {g : Nat → Int32} {j x : Int32} (hf : ev_ft cd pc = some (.inl .iaload)) (hA : IA h a L P g) (hj : j = nI n) (hP : P n) (hn : n < L) (hb : n < 1000) (hx : g n = x) (K : ev_V scr d cd (pc + 1) ls (.int x :: st) h r) : ev_V scr d cd pc ls (.int j :: .ref a :: st) h r := by
  obtain ⟨xs, h1, h2, h3⟩ := hA
  exact ev_iald n hf h1 hj (by omega) hb ((h3 n hn hP).trans hx) K
/-- whatever it holds -/
theorem ev_iaw (n : Nat) {a L : Nat} {P : Nat → Prop} {g : Nat → Int32} {j : Int32} (hf : ev_ft cd pc = some (.inl .iaload)) (hA : IA h a L P g) (hj : j = nI n) (hn : n < L) (hb : n < 1000) (K : ∀ x : Int32, (P n → x = g n) → ev_V scr d cd (pc + 1) ls (.int x :: st) h r) : ev_V scr d cd pc ls (.int j :: .ref a :: st) h r := by
  obtain ⟨xs, h1, h2, h3⟩ := hA
  exact ev_iald n hf h1 hj (by omega) hb rfl (K _ (fun q => h3 n hn q))
theorem ev_is (n : Nat) {a L : Nat} {P : Nat → Prop} {g : Nat → Int32} {j x : Int32} (hf : ev_ft cd pc = some (.inl .iastore)) (hA : IA h a L P g) (hj : j = nI n) (hn : n < L) (hb : n < 1000) (K : ∀ h', IA h' a L (fun i => P i ∨ i = n) (fun i => if i = n then x else g i) → SB a h h' → ev_V scr d cd (pc + 1) ls st h' r) : ev_V scr d cd pc ls (.int x :: .int j :: .ref a :: st) h r := by
  obtain ⟨xs, h1, h2, h3⟩ := hA
  refine ev_iast n hf h1 hj (by omega) hb (K _ ⟨xs.set n x, ?_, by simpa using h2, fun i hi hp => ?_⟩ SB.set)
  · rw [List.getElem?_set_self (by exact (List.getElem?_eq_some_iff.mp h1).1)]
  · by_cases e : i = n
    · subst e
      simp [h2, hi]
    · dsimp only
      rw [if_neg e]
      rcases hp with hp | hp
      · rw [← h3 i hi hp]
        simp [List.getD_eq_getElem?_getD, List.getElem?_set, Ne.symm e]
      · exact absurd hp e
/-- a field is put -/
theorem ev_pf {i a c : Nat} {vs : List Value} {x : Int32} (hf : ev_ft cd pc = some (.inl (.putfield i))) (hh : h[a]? = some (.inr (c, vs))) (hc : Nat.beq c (i / 32) = true) (hl : Nat.blt (i % 32) vs.length = true) (K : ∀ h', h'[a]? = some (.inr (c, vs.set (i % 32) (.int x))) → SB a h h' → ev_V scr d cd (pc + 1) ls st h' r) : ev_V scr d cd pc ls (.int x :: .ref a :: st) h r :=
  ev_putf hf hh hc hl (K _ (by rw [List.getElem?_set_self (List.getElem?_eq_some_iff.mp hh).1]) SB.set)
theorem ev_pz {i a c n : Nat} {vs : List Value} {x : Int32} (hf : ev_ft cd pc = some (.inl (.multianewarray i n))) (hh : h[a]? = some (.inr (c, vs))) (hc : Nat.beq c (i / 32) = true) (hl : Nat.blt (i % 32) vs.length = true) (hz : ev_bz x = true) (K : ∀ h', h'[a]? = some (.inr (c, vs.set (i % 32) (.int x))) → SB a h h' → ev_V scr d cd (pc + 1) ls st h' r) : ev_V scr d cd pc ls (.int x :: .ref a :: st) h r :=
  ev_putz hf hh hc hl hz (K _ (by rw [List.getElem?_set_self (List.getElem?_eq_some_iff.mp hh).1]) SB.set)
theorem ev_pr2 {i a c b : Nat} {vs : List Value} (hf : ev_ft cd pc = some (.inl (.putstatic i))) (hh : h[a]? = some (.inr (c, vs))) (hc : Nat.beq c (i / 32) = true) (hl : Nat.blt (i % 32) vs.length = true) (K : ∀ h', h'[a]? = some (.inr (c, vs.set (i % 32) (.ref b))) → SB a h h' → ev_V scr d cd (pc + 1) ls st h' r) : ev_V scr d cd pc ls (.ref b :: .ref a :: st) h r :=
  ev_putr hf hh hc hl (K _ (by rw [List.getElem?_set_self (List.getElem?_eq_some_iff.mp hh).1]) SB.set)
end PR
-- numbers
theorem nI_inc (i : Nat) : ev_inc 1 (nI i) = nI (i + 1) := nI_1 i
theorem tb_or (a b : Nat) : nI a ||| nI b = nI (a ||| b) := by
  apply Int32.toBitVec_inj.mp
  show BitVec.ofNat 32 a ||| BitVec.ofNat 32 b = BitVec.ofNat 32 (a ||| b)
  apply BitVec.eq_of_getLsbD_eq
  intro i hi
  simp [BitVec.getLsbD_ofNat, hi, Nat.testBit_or]
theorem tb_and (a b : Nat) : nI a &&& nI b = nI (a &&& b) := by
  apply Int32.toBitVec_inj.mp
  show BitVec.ofNat 32 a &&& BitVec.ofNat 32 b = BitVec.ofNat 32 (a &&& b)
  apply BitVec.eq_of_getLsbD_eq
  intro i hi
  simp [BitVec.getLsbD_ofNat, hi, Nat.testBit_and]
theorem tb_xor (a b : Nat) : nI a ^^^ nI b = nI (a ^^^ b) := by
  apply Int32.toBitVec_inj.mp
  show BitVec.ofNat 32 a ^^^ BitVec.ofNat 32 b = BitVec.ofNat 32 (a ^^^ b)
  apply BitVec.eq_of_getLsbD_eq
  intro i hi
  simp [BitVec.getLsbD_ofNat, hi, Nat.testBit_xor]
/-- a without b -/
def tb_wo (a b : Nat) : Nat := a ^^^ (a &&& b)
theorem tb_andn (a b : Nat) : nI a &&& (nI b ^^^ (-1)) = nI (tb_wo a b) := by
  have h : nI a &&& (nI b ^^^ (-1)) = nI a ^^^ (nI a &&& nI b) := by
    apply Int32.toBitVec_inj.mp
    show (nI a).toBitVec &&& ((nI b).toBitVec ^^^ (-1 : Int32).toBitVec) = (nI a).toBitVec ^^^ ((nI a).toBitVec &&& (nI b).toBitVec)
    apply BitVec.eq_of_getLsbD_eq
    intro i hi
    have e1 : ((-1 : Int32).toBitVec).getLsbD i = true := by
      have : (-1 : Int32).toBitVec = BitVec.allOnes 32 := by decide
      rw [this, BitVec.getLsbD_allOnes]
      simpa using hi
    simp only [BitVec.getLsbD_and, BitVec.getLsbD_xor, e1]
    cases (nI a).toBitVec.getLsbD i <;> cases (nI b).toBitVec.getLsbD i <;> rfl
  rw [h, tb_and, tb_xor]
  rfl
theorem tb_wo_bit (a b i : Nat) : (tb_wo a b).testBit i = (a.testBit i && !b.testBit i) := by
  unfold tb_wo
  rw [Nat.testBit_xor, Nat.testBit_and]
  cases a.testBit i <;> cases b.testBit i <;> rfl
theorem tb_sh1 : ∀ i, i < 31 → (1 : Int32) <<< (nI i &&& 31) = nI (2 ^ i) := by decide
theorem tb_shl {a : Nat} (i : Nat) (hi : i < 31) : nI a <<< (nI i &&& 31) = nI (a * 2 ^ i) := by
  apply Int32.toBitVec_inj.mp
  have h1 : ∀ i, i < 31 → ((nI i &&& 31).toBitVec.smod 32).toNat = i := by decide
  have h2 := pk_shl (nI a) (nI i &&& 31) i (h1 i hi)
  apply BitVec.eq_of_toNat_eq
  rw [h2]
  show (BitVec.ofNat 32 a).toNat * 2 ^ i % 2 ^ 32 = (BitVec.ofNat 32 (a * 2 ^ i)).toNat
  rw [BitVec.toNat_ofNat, BitVec.toNat_ofNat, Nat.mod_mul_mod]
/-- a bit of a set -/
def tb_b (b : Bool) : Nat := if b = true then 1 else 0
theorem tb_shr {a : Nat} (ha : a < 2 ^ 31) (i : Nat) (hi : i < 31) : nI a >>> (nI i &&& 31) = nI (a / 2 ^ i) := by
  have h1 : ∀ i, i < 31 → ((nI i &&& 31).toBitVec.smod 32).toNat = i := by decide
  exact pk_shrN ha (nI i &&& 31) i (h1 i hi)
theorem tb_bit {a : Nat} (ha : a < 2 ^ 31) (i : Nat) (hi : i < 31) : (nI a >>> (nI i &&& 31)) &&& 1 = nI (tb_b (a.testBit i)) := by
  rw [tb_shr ha i hi]
  rw [show (1 : Int32) = nI 1 from rfl, tb_and]
  congr 1
  rw [show (1 : Nat) = 2 ^ 1 - 1 from rfl, Nat.and_two_pow_sub_one_eq_mod]
  unfold tb_b
  rw [Nat.testBit_eq_decide_div_mod_eq]
  have : a / 2 ^ i % 2 = 0 ∨ a / 2 ^ i % 2 = 1 := by omega
  rcases this with q | q <;> simp [q]
theorem tb_b0 (b : Bool) : nI (tb_b b) = 0 ↔ b = false := by cases b <;> decide
theorem tb_b1 (b : Bool) : nI (tb_b b) = 1 ↔ b = true := by cases b <;> decide
/-- the set of those below n with p -/
def bs (p : Nat → Bool) : Nat → Nat
  | 0 => 0
  | i + 1 => bs p i + (if p i = true then 2 ^ i else 0)
theorem bs_lt (p : Nat → Bool) : ∀ n, bs p n < 2 ^ n
  | 0 => by simp [bs]
  | n + 1 => by
    have := bs_lt p n
    rw [bs, Nat.pow_succ]
    split <;> omega
theorem bs_bit (p : Nat → Bool) : ∀ n i, (bs p n).testBit i = (decide (i < n) && p i)
  | 0, i => by simp [bs]
  | n + 1, i => by
    have ih := bs_bit p n i
    have hlt := bs_lt p n
    rw [bs]
    by_cases hp : p n = true
    · rw [if_pos hp]
      have e : bs p n + 2 ^ n = bs p n ||| 2 ^ n := by
        rw [Nat.add_comm, Nat.or_comm]
        have := Nat.two_pow_add_eq_or_of_lt hlt 1
        simpa using this
      rw [e, Nat.testBit_or, ih, Nat.testBit_two_pow]
      by_cases hi : i = n
      · subst hi
        simp [hp]
      · have h1 : (decide (n = i)) = false := by simpa using Ne.symm hi
        rw [h1, Bool.or_false]
        by_cases h2 : i < n
        · simp [h2, Nat.lt_succ_of_lt h2]
        · have h3 : ¬ i < n + 1 := by omega
          simp [h2, h3]
    · have hp' : p n = false := by simpa using hp
      rw [if_neg hp, Nat.add_zero, ih]
      by_cases hi : i = n
      · subst hi
        simp [hp']
      · by_cases h2 : i < n
        · simp [h2, Nat.lt_succ_of_lt h2]
        · have h3 : ¬ i < n + 1 := by omega
          simp [h2, h3]
theorem bs_cong {p q : Nat → Bool} : ∀ {n : Nat}, (∀ i, i < n → p i = q i) → bs p n = bs q n
  | 0, _ => rfl
  | n + 1, h => by rw [bs, bs, bs_cong (fun i hi => h i (Nat.lt_succ_of_lt hi)), h n (Nat.lt_succ_self n)]
theorem bs_step (p : Nat → Bool) {i : Nat} (hi : i < 31) (hp : p i = true) : nI (bs p i) ||| ((1 : Int32) <<< (nI i &&& 31)) = nI (bs p (i + 1)) := by
  rw [tb_sh1 i hi, tb_or]
  congr 1
  rw [bs, if_pos hp, Nat.add_comm, Nat.or_comm]
  have := Nat.two_pow_add_eq_or_of_lt (bs_lt p i) 1
  rw [Nat.mul_one] at this
  exact this.symm
theorem bs_stay (p : Nat → Bool) {i : Nat} (hp : p i = false) : bs p (i + 1) = bs p i := by
  rw [bs, if_neg (by rw [hp]; decide), Nat.add_zero]
/-- sums -/
def sm (g : Nat → Nat) : Nat → Nat
  | 0 => 0
  | i + 1 => sm g i + g i
theorem sm_cong {g g' : Nat → Nat} : ∀ {n : Nat}, (∀ i, i < n → g i = g' i) → sm g n = sm g' n
  | 0, _ => rfl
  | n + 1, h => by rw [sm, sm, sm_cong (fun i hi => h i (Nat.lt_succ_of_lt hi)), h n (Nat.lt_succ_self n)]
theorem sm_le {g : Nat → Nat} {c : Nat} : ∀ {n : Nat}, (∀ i, i < n → g i ≤ c) → sm g n ≤ n * c
  | 0, _ => by simp [sm]
  | n + 1, h => by
    have := sm_le (g := g) (c := c) (n := n) (fun i hi => h i (Nat.lt_succ_of_lt hi))
    have := h n (Nat.lt_succ_self n)
    rw [sm, Nat.succ_mul]
    omega
theorem sm_mono (g : Nat → Nat) : ∀ {m n : Nat}, m ≤ n → sm g m ≤ sm g n
  | m, 0, h => by rw [Nat.le_zero.mp h]; exact Nat.le_refl _
  | m, n + 1, h => by
    by_cases e : m = n + 1
    · rw [e]; exact Nat.le_refl _
    · have := sm_mono g (show m ≤ n by omega)
      rw [sm]
      omega
theorem sm_add (g g' : Nat → Nat) : ∀ n, sm (fun i => g i + g' i) n = sm g n + sm g' n
  | 0 => rfl
  | n + 1 => by rw [sm, sm, sm, sm_add g g' n]; omega
theorem sm_mul (g : Nat → Nat) (c : Nat) : ∀ n, sm (fun i => g i * c) n = sm g n * c
  | 0 => by simp [sm]
  | n + 1 => by rw [sm, sm, sm_mul g c n, Nat.add_mul]
/-- how many of the first eight bits -/
def pc8 (x : Nat) : Nat := sm (fun i => tb_b (x.testBit i)) 8
end
section
/-! The same rules, for an end that is said by a predicate. -/
def ev_X (scr : List Int32) (d : Nat) (cd : List ev_I) (pc : Nat) (ls st : List Value) (h : ev_H) (Q : Option Value → ev_H → Prop) : Prop := ∃ v h', ev_V scr d cd pc ls st h (v, h') ∧ Q v h'
section XR
variable {scr : List Int32} {d : Nat} {cd : List ev_I} {pc : Nat} {ls st : List Value} {h : ev_H} {Q : Option Value → ev_H → Prop}
theorem ex_of {v : Option Value} {h' : ev_H} (K : ev_V scr d cd pc ls st h (v, h')) (q : Q v h') : ev_X scr d cd pc ls st h Q := ⟨v, h', K, q⟩
theorem ex_mono {Q' : Option Value → ev_H → Prop} (K : ev_X scr d cd pc ls st h Q') (q : ∀ v h', Q' v h' → Q v h') : ev_X scr d cd pc ls st h Q := by
  obtain ⟨v, h', k, q'⟩ := K
  exact ⟨v, h', k, q v h' q'⟩
theorem ex_more {d' : Nat} (hd : d ≤ d') (K : ev_X scr d cd pc ls st h Q) : ev_X scr d' cd pc ls st h Q := by
  obtain ⟨v, h', k, q'⟩ := K
  exact ⟨v, h', k.more hd, q'⟩
theorem ex_step {i : ev_I} {pc' : Nat} {ls' st' : List Value} {h' : ev_H} (hf : ev_ft cd pc = some i) (hs : ev_S scr i pc ls st h = some (.inl (pc', ls', st', h'))) (K : ev_X scr d cd pc' ls' st' h' Q) : ev_X scr d cd pc ls st h Q := by
  obtain ⟨v, h2, k, q⟩ := K
  exact ⟨v, h2, ev_step hf hs k, q⟩
theorem ex_go (n : Nat) {pc' : Nat} {ls' st' : List Value} (hr : ev_run n cd pc ls st = (pc', ls', st')) (K : ev_X scr d cd pc' ls' st' h Q) : ev_X scr d cd pc ls st h Q := by
  obtain ⟨v, h2, k, q⟩ := K
  exact ⟨v, h2, ev_go n hr k, q⟩
theorem ex_iret {x : Int32} (hf : ev_ft cd pc = some (.inl .ireturn)) (q : Q (some (.int x)) h) : ev_X scr d cd pc ls [.int x] h Q := ⟨_, _, ev_iret hf, q⟩
theorem ex_lret {x : Int64} (hf : ev_ft cd pc = some (.inl .lreturn)) (q : Q (some (.long x)) h) : ev_X scr d cd pc ls [.long x] h Q := ⟨_, _, ev_lret hf, q⟩
theorem ex_vret (hf : ev_ft cd pc = some (.inl .return_)) (q : Q none h) : ev_X scr d cd pc ls [] h Q := ⟨_, _, ev_vret hf, q⟩
theorem ex_tret {x : Int32} {t : Nat} (hf : ev_ft cd pc = some (.inl (.ret t))) (hn : ev_nrw t x = true) (q : Q (some (.int x)) h) : ev_X scr d cd pc ls [.int x] h Q := ⟨_, _, ev_tret hf hn, q⟩
theorem ex_aret {x : Nat} (hf : ev_ft cd pc = some (.inl .areturn)) (hx : Nat.beq x 4 = false) (q : Q (some (.retAddr x)) h) : ev_X scr d cd pc ls [.retAddr x] h Q := ⟨_, _, ev_aret hf hx, q⟩
/-- a call of a method that changes nothing, or whose end is known -/
theorem ex_cs {k d' : Nat} {cd' : List ev_I} {mL np own : Nat} {v : Option Value} {h' : ev_H} (hf : ev_ft cd pc = some (.inl (.invokestatic k))) (hp : ev_pr k = some (cd', mL, np, own)) (hl : (Nat.ble np st.length && Nat.ble (st.drop np).length 4 && Nat.ble (ev_wd (st.take np)) mL) = true) (hd : d' < d)
    (C : ev_V scr d' cd' 0 (ev_lay (st.take np).reverse mL) [] h (v, h')) (K : ev_X scr d cd (pc + 1) ls (v.toList ++ st.drop np) h' Q) : ev_X scr d cd pc ls st h Q := by
  obtain ⟨v2, h2, k, q⟩ := K
  exact ⟨v2, h2, ev_cs hf hp hl hd C k, q⟩
theorem ex_cv {k d' b : Nat} {cd' : List ev_I} {mL np own : Nat} {vs : List Value} {v : Option Value} {h' : ev_H} (hf : ev_ft cd pc = some (.inl (.invokevirtual k))) (hp : ev_pr k = some (cd', mL, np, own)) (hl : (Nat.ble np st.length && Nat.ble (st.drop np).length 4 && Nat.ble (ev_wd (st.take np)) mL) = true) (hb : ev_lg (st.take np).reverse 0 = some (.ref b)) (hh : h[b]? = some (.inr (own, vs))) (ho : Nat.blt own 7 = true) (hd : d' < d)
    (C : ev_V scr d' cd' 0 (ev_lay (st.take np).reverse mL) [] h (v, h')) (K : ev_X scr d cd (pc + 1) ls (v.toList ++ st.drop np) h' Q) : ev_X scr d cd pc ls st h Q := by
  obtain ⟨v2, h2, k, q⟩ := K
  exact ⟨v2, h2, ev_cv hf hp hl hb hh ho hd C k, q⟩
theorem ex_ct {k d' b : Nat} {cd' : List ev_I} {mL np : Nat} {v : Option Value} {h' : ev_H} (hf : ev_ft cd pc = some (.inl (.invokevirtual k))) (hp : ev_pr k = some (cd', mL, np, 10)) (hl : (Nat.ble np st.length && Nat.ble (st.drop np).length 4 && Nat.ble (ev_wd (st.take np)) mL) = true) (hb : ev_lg (st.take np).reverse 0 = some (.retAddr b)) (hh : (Nat.blt 9 b && Nat.blt b 18) = true) (hd : d' < d)
    (C : ev_V scr d' cd' 0 (ev_lay (st.take np).reverse mL) [] h (v, h')) (K : ev_X scr d cd (pc + 1) ls (v.toList ++ st.drop np) h' Q) : ev_X scr d cd pc ls st h Q := by
  obtain ⟨v2, h2, k, q⟩ := K
  exact ⟨v2, h2, ev_ct hf hp hl hb hh hd C k, q⟩
/-- a call of a method whose end is said by a predicate -/
theorem ex_csx {k d' : Nat} {cd' : List ev_I} {mL np own : Nat} {Q' : Option Value → ev_H → Prop} (hf : ev_ft cd pc = some (.inl (.invokestatic k))) (hp : ev_pr k = some (cd', mL, np, own)) (hl : (Nat.ble np st.length && Nat.ble (st.drop np).length 4 && Nat.ble (ev_wd (st.take np)) mL) = true) (hd : d' < d)
    (C : ev_X scr d' cd' 0 (ev_lay (st.take np).reverse mL) [] h Q') (K : ∀ v h', Q' v h' → ev_X scr d cd (pc + 1) ls (v.toList ++ st.drop np) h' Q) : ev_X scr d cd pc ls st h Q := by
  obtain ⟨v1, h1, k1, q1⟩ := C
  exact ex_cs hf hp hl hd k1 (K v1 h1 q1)
theorem ex_cvx {k d' b : Nat} {cd' : List ev_I} {mL np own : Nat} {vs : List Value} {Q' : Option Value → ev_H → Prop} (hf : ev_ft cd pc = some (.inl (.invokevirtual k))) (hp : ev_pr k = some (cd', mL, np, own)) (hl : (Nat.ble np st.length && Nat.ble (st.drop np).length 4 && Nat.ble (ev_wd (st.take np)) mL) = true) (hb : ev_lg (st.take np).reverse 0 = some (.ref b)) (hh : h[b]? = some (.inr (own, vs))) (ho : Nat.blt own 7 = true) (hd : d' < d)
    (C : ev_X scr d' cd' 0 (ev_lay (st.take np).reverse mL) [] h Q') (K : ∀ v h', Q' v h' → ev_X scr d cd (pc + 1) ls (v.toList ++ st.drop np) h' Q) : ev_X scr d cd pc ls st h Q := by
  obtain ⟨v1, h1, k1, q1⟩ := C
  exact ex_cv hf hp hl hb hh ho hd k1 (K v1 h1 q1)
theorem ex_nop (hf : ev_ft cd pc = some (.inl .nop)) (K : ev_X scr d cd (pc + 1) ls st h Q) : ev_X scr d cd pc ls st h Q := ex_step hf rfl K
theorem ex_getf {i a c : Nat} {vs : List Value} {v : Value} (hf : ev_ft cd pc = some (.inl (.getfield i))) (hh : h[a]? = some (.inr (c, vs))) (hc : Nat.beq c (i / 32) = true) (hv : vs[i % 32]? = some v) (K : ev_X scr d cd (pc + 1) ls (v :: st) h Q) : ev_X scr d cd pc ls (.ref a :: st) h Q := by
  refine ex_step hf (pc' := pc + 1) (ls' := ls) (st' := v :: st) (h' := h) ?_ K
  simp only [ev_S, ev_xP, ev_xB, ev_xH, hh, hc, hv]
theorem ex_putf {i a c : Nat} {vs : List Value} {x : Int32} (hf : ev_ft cd pc = some (.inl (.putfield i))) (hh : h[a]? = some (.inr (c, vs))) (hc : Nat.beq c (i / 32) = true) (hl : Nat.blt (i % 32) vs.length = true) (K : ev_X scr d cd (pc + 1) ls st (h.set a (.inr (c, vs.set (i % 32) (.int x)))) Q) : ev_X scr d cd pc ls (.int x :: .ref a :: st) h Q := by
  refine ex_step hf ?_ K
  simp only [ev_S, ev_xP, ev_xB, ev_xH, hh, hc, hl]
theorem ex_putz {i a c n : Nat} {vs : List Value} {x : Int32} (hf : ev_ft cd pc = some (.inl (.multianewarray i n))) (hh : h[a]? = some (.inr (c, vs))) (hc : Nat.beq c (i / 32) = true) (hl : Nat.blt (i % 32) vs.length = true) (hz : ev_bz x = true) (K : ev_X scr d cd (pc + 1) ls st (h.set a (.inr (c, vs.set (i % 32) (.int x)))) Q) : ev_X scr d cd pc ls (.int x :: .ref a :: st) h Q := by
  refine ex_step hf ?_ K
  simp only [ev_S, ev_xP, ev_xB, ev_xH, hh, hc, hl, hz]
theorem ex_putr {i a c b : Nat} {vs : List Value} (hf : ev_ft cd pc = some (.inl (.putstatic i))) (hh : h[a]? = some (.inr (c, vs))) (hc : Nat.beq c (i / 32) = true) (hl : Nat.blt (i % 32) vs.length = true) (K : ev_X scr d cd (pc + 1) ls st (h.set a (.inr (c, vs.set (i % 32) (.ref b)))) Q) : ev_X scr d cd pc ls (.ref b :: .ref a :: st) h Q := by
  refine ex_step hf ?_ K
  simp only [ev_S, ev_xP, ev_xB, ev_xH, hh, hc, hl]
theorem ex_iald (n : Nat) {a : Nat} {j x : Int32} {xs : List Int32} (hf : ev_ft cd pc = some (.inl .iaload)) (hh : h[a]? = some (.inl (0, xs))) (hj : j = nI n) (hn : n < xs.length) (hb : n < 1000) (hx : xs.getD n 0 = x) (K : ev_X scr d cd (pc + 1) ls (.int x :: st) h Q) : ev_X scr d cd pc ls (.int j :: .ref a :: st) h Q := by
  obtain ⟨h1, h2⟩ := ev_in_of hj hn hb
  refine ex_step hf (pc' := pc + 1) (ls' := ls) (st' := .int x :: st) (h' := h) ?_ K
  simp only [ev_S, ev_xP, ev_xB, ev_xH, hh, h1, h2, hx]
theorem ex_bald (n : Nat) {a : Nat} {j x : Int32} {xs : List Int32} (hf : ev_ft cd pc = some (.inl .baload)) (hh : h[a]? = some (.inl (1, xs)) ∨ h[a]? = some (.inl (2, xs))) (hj : j = nI n) (hn : n < xs.length) (hb : n < 1000) (hx : xs.getD n 0 = x) (K : ev_X scr d cd (pc + 1) ls (.int x :: st) h Q) : ev_X scr d cd pc ls (.int j :: .ref a :: st) h Q := by
  obtain ⟨h1, h2⟩ := ev_in_of hj hn hb
  refine ex_step hf (pc' := pc + 1) (ls' := ls) (st' := .int x :: st) (h' := h) ?_ K
  rcases hh with hh | hh <;> simp only [ev_S, ev_xP, ev_xB, ev_xH, hh, h1, h2, hx]
theorem ex_iast (n : Nat) {a : Nat} {j x : Int32} {xs : List Int32} (hf : ev_ft cd pc = some (.inl .iastore)) (hh : h[a]? = some (.inl (0, xs))) (hj : j = nI n) (hn : n < xs.length) (hb : n < 1000) (K : ev_X scr d cd (pc + 1) ls st (h.set a (.inl (0, xs.set n x))) Q) : ev_X scr d cd pc ls (.int x :: .int j :: .ref a :: st) h Q := by
  obtain ⟨h1, h2⟩ := ev_in_of hj hn hb
  refine ex_step hf (pc' := pc + 1) (ls' := ls) (st' := st) (h' := h.set a (.inl (0, xs.set n x))) ?_ K
  simp only [ev_S, ev_xP, ev_xB, ev_xH, hh, h1, h2]
theorem ex_bast1 (n : Nat) {a : Nat} {j x : Int32} {xs : List Int32} (hf : ev_ft cd pc = some (.inl .bastore)) (hh : h[a]? = some (.inl (1, xs))) (hj : j = nI n) (hn : n < xs.length) (hb : n < 1000) (K : ev_X scr d cd (pc + 1) ls st (h.set a (.inl (1, xs.set n (vp_nar .byte x)))) Q) : ev_X scr d cd pc ls (.int x :: .int j :: .ref a :: st) h Q := by
  obtain ⟨h1, h2⟩ := ev_in_of hj hn hb
  refine ex_step hf (pc' := pc + 1) (ls' := ls) (st' := st) (h' := h.set a (.inl (1, xs.set n (vp_nar .byte x)))) ?_ K
  simp only [ev_S, ev_xP, ev_xB, ev_xH, hh, h1, h2]
theorem ex_bast2 (n : Nat) {a : Nat} {j x : Int32} {xs : List Int32} (hf : ev_ft cd pc = some (.inl .bastore)) (hh : h[a]? = some (.inl (2, xs))) (hj : j = nI n) (hn : n < xs.length) (hb : n < 1000) (K : ev_X scr d cd (pc + 1) ls st (h.set a (.inl (2, xs.set n (vp_nar .boolean x)))) Q) : ev_X scr d cd pc ls (.int x :: .int j :: .ref a :: st) h Q := by
  obtain ⟨h1, h2⟩ := ev_in_of hj hn hb
  refine ex_step hf (pc' := pc + 1) (ls' := ls) (st' := st) (h' := h.set a (.inl (2, xs.set n (vp_nar .boolean x)))) ?_ K
  simp only [ev_S, ev_xP, ev_xB, ev_xH, hh, h1, h2]
theorem ex_aald (n : Nat) {a b c : Nat} {j : Int32} {vs : List Value} (hf : ev_ft cd pc = some (.inl .aaload)) (hh : h[a]? = some (.inr (c, vs))) (hc : (Nat.beq c 14 || Nat.beq c 12) = true) (hj : j = nI n) (hn : n < vs.length) (hb : n < 1000) (hx : vs[n]? = some (.ref b)) (K : ev_X scr d cd (pc + 1) ls (.ref b :: st) h Q) : ev_X scr d cd pc ls (.int j :: .ref a :: st) h Q := by
  obtain ⟨h1, h2⟩ := ev_in_of hj hn hb
  refine ex_step hf (pc' := pc + 1) (ls' := ls) (st' := .ref b :: st) (h' := h) ?_ K
  simp only [ev_S, ev_xP, ev_xB, ev_xH, hh, hc, h1, h2, hx]
theorem ex_fald (n : Nat) {a : Nat} {j x : Int32} {xs : List Int32} (hf : ev_ft cd pc = some (.inl .faload)) (ha : Nat.blt a 4 = true) (hh : ev_ro scr a = some xs) (hj : j = nI n) (hn : n < xs.length) (hb : n < 1000) (hx : xs.getD n 0 = x) (K : ev_X scr d cd (pc + 1) ls (.int x :: st) h Q) : ev_X scr d cd pc ls (.int j :: .retAddr a :: st) h Q := by
  obtain ⟨h1, h2⟩ := ev_in_of hj hn hb
  refine ex_step hf (pc' := pc + 1) (ls' := ls) (st' := .int x :: st) (h' := h) ?_ K
  simp only [ev_S, ev_xP, ev_xB, ev_xH, ha, hh, h1, h2, hx]
theorem ex_cald (n : Nat) {a : Nat} {j x : Int32} {xs : List Int32} (hf : ev_ft cd pc = some (.inl .caload)) (ha : Nat.blt a 20 = false) (hh : ev_ro scr a = some xs) (hj : j = nI n) (hn : n < xs.length) (hb : n < 1000) (hx : xs.getD n 0 = x) (K : ev_X scr d cd (pc + 1) ls (.int x :: st) h Q) : ev_X scr d cd pc ls (.int j :: .retAddr a :: st) h Q := by
  obtain ⟨h1, h2⟩ := ev_in_of hj hn hb
  refine ex_step hf (pc' := pc + 1) (ls' := ls) (st' := .int x :: st) (h' := h) ?_ K
  simp only [ev_S, ev_xP, ev_xB, ev_xH, ha, hh, h1, h2, hx]
theorem ex_alen {a : Nat} {xs : List Int32} (hf : ev_ft cd pc = some (.inl .arraylength)) (hh : ev_ro scr a = some xs) (K : ev_X scr d cd (pc + 1) ls (.int (Int32.ofNat xs.length) :: st) h Q) : ev_X scr d cd pc ls (.retAddr a :: st) h Q := by
  refine ex_step hf (pc' := pc + 1) (ls' := ls) (st' := .int (Int32.ofNat xs.length) :: st) (h' := h) ?_ K
  simp only [ev_S, ev_xP, ev_xB, ev_xH, hh]
theorem ex_cbr {c : ClassFile.Cond} {x y : Int32} {t : Int} (b : Bool) (hb : ev_cb c x y = b) (hf : ev_ft cd pc = some (.inl (.if_icmp c t))) (K : ev_X scr d cd (ev_br b t.toNat (pc + 1)) ls st h Q) : ev_X scr d cd pc ls (.int y :: .int x :: st) h Q := by
  refine ex_step hf ?_ K
  simp only [ev_S, ev_xP, ev_xB, hb]
theorem ex_cbr0 {c : ClassFile.Cond} {x : Int32} {t : Int} (b : Bool) (hb : ev_cb c x 0 = b) (hf : ev_ft cd pc = some (.inl (.ifCond c t))) (K : ev_X scr d cd (ev_br b t.toNat (pc + 1)) ls st h Q) : ev_X scr d cd pc ls (.int x :: st) h Q := by
  refine ex_step hf ?_ K
  simp only [ev_S, ev_xP, ev_xB, hb]
theorem ex_ieq {x y : Int32} {t : Int} (hf : ev_ft cd pc = some (.inl (.if_icmp .eq t))) (kt : x = y → ev_X scr d cd t.toNat ls st h Q) (kf : ¬ x = y → ev_X scr d cd (pc + 1) ls st h Q) : ev_X scr d cd pc ls (.int y :: .int x :: st) h Q := by
  by_cases hc : x = y
  · exact ex_cbr (c := .eq) true (decide_eq_true hc) hf (kt hc)
  · exact ex_cbr (c := .eq) false (decide_eq_false hc) hf (kf hc)
theorem ex_zeq {x : Int32} {t : Int} (hf : ev_ft cd pc = some (.inl (.ifCond .eq t))) (kt : x = 0 → ev_X scr d cd t.toNat ls st h Q) (kf : ¬ x = 0 → ev_X scr d cd (pc + 1) ls st h Q) : ev_X scr d cd pc ls (.int x :: st) h Q := by
  by_cases hc : x = 0
  · exact ex_cbr0 (c := .eq) true (decide_eq_true hc) hf (kt hc)
  · exact ex_cbr0 (c := .eq) false (decide_eq_false hc) hf (kf hc)
theorem ex_ine {x y : Int32} {t : Int} (hf : ev_ft cd pc = some (.inl (.if_icmp .ne t))) (kt : ¬ x = y → ev_X scr d cd t.toNat ls st h Q) (kf : x = y → ev_X scr d cd (pc + 1) ls st h Q) : ev_X scr d cd pc ls (.int y :: .int x :: st) h Q := by
  by_cases hc : ¬ x = y
  · exact ex_cbr (c := .ne) true (decide_eq_true hc) hf (kt hc)
  · exact ex_cbr (c := .ne) false (decide_eq_false hc) hf (kf (Decidable.not_not.mp hc))
theorem ex_zne {x : Int32} {t : Int} (hf : ev_ft cd pc = some (.inl (.ifCond .ne t))) (kt : ¬ x = 0 → ev_X scr d cd t.toNat ls st h Q) (kf : x = 0 → ev_X scr d cd (pc + 1) ls st h Q) : ev_X scr d cd pc ls (.int x :: st) h Q := by
  by_cases hc : ¬ x = 0
  · exact ex_cbr0 (c := .ne) true (decide_eq_true hc) hf (kt hc)
  · exact ex_cbr0 (c := .ne) false (decide_eq_false hc) hf (kf (Decidable.not_not.mp hc))
theorem ex_ilt {x y : Int32} {t : Int} (hf : ev_ft cd pc = some (.inl (.if_icmp .lt t))) (kt : x < y → ev_X scr d cd t.toNat ls st h Q) (kf : ¬ x < y → ev_X scr d cd (pc + 1) ls st h Q) : ev_X scr d cd pc ls (.int y :: .int x :: st) h Q := by
  by_cases hc : x < y
  · exact ex_cbr (c := .lt) true (decide_eq_true hc) hf (kt hc)
  · exact ex_cbr (c := .lt) false (decide_eq_false hc) hf (kf hc)
theorem ex_zlt {x : Int32} {t : Int} (hf : ev_ft cd pc = some (.inl (.ifCond .lt t))) (kt : x < 0 → ev_X scr d cd t.toNat ls st h Q) (kf : ¬ x < 0 → ev_X scr d cd (pc + 1) ls st h Q) : ev_X scr d cd pc ls (.int x :: st) h Q := by
  by_cases hc : x < 0
  · exact ex_cbr0 (c := .lt) true (decide_eq_true hc) hf (kt hc)
  · exact ex_cbr0 (c := .lt) false (decide_eq_false hc) hf (kf hc)
theorem ex_ige {x y : Int32} {t : Int} (hf : ev_ft cd pc = some (.inl (.if_icmp .ge t))) (kt : y ≤ x → ev_X scr d cd t.toNat ls st h Q) (kf : ¬ y ≤ x → ev_X scr d cd (pc + 1) ls st h Q) : ev_X scr d cd pc ls (.int y :: .int x :: st) h Q := by
  by_cases hc : y ≤ x
  · exact ex_cbr (c := .ge) true (decide_eq_true hc) hf (kt hc)
  · exact ex_cbr (c := .ge) false (decide_eq_false hc) hf (kf hc)
theorem ex_zge {x : Int32} {t : Int} (hf : ev_ft cd pc = some (.inl (.ifCond .ge t))) (kt : 0 ≤ x → ev_X scr d cd t.toNat ls st h Q) (kf : ¬ 0 ≤ x → ev_X scr d cd (pc + 1) ls st h Q) : ev_X scr d cd pc ls (.int x :: st) h Q := by
  by_cases hc : 0 ≤ x
  · exact ex_cbr0 (c := .ge) true (decide_eq_true hc) hf (kt hc)
  · exact ex_cbr0 (c := .ge) false (decide_eq_false hc) hf (kf hc)
theorem ex_igt {x y : Int32} {t : Int} (hf : ev_ft cd pc = some (.inl (.if_icmp .gt t))) (kt : y < x → ev_X scr d cd t.toNat ls st h Q) (kf : ¬ y < x → ev_X scr d cd (pc + 1) ls st h Q) : ev_X scr d cd pc ls (.int y :: .int x :: st) h Q := by
  by_cases hc : y < x
  · exact ex_cbr (c := .gt) true (decide_eq_true hc) hf (kt hc)
  · exact ex_cbr (c := .gt) false (decide_eq_false hc) hf (kf hc)
theorem ex_zgt {x : Int32} {t : Int} (hf : ev_ft cd pc = some (.inl (.ifCond .gt t))) (kt : 0 < x → ev_X scr d cd t.toNat ls st h Q) (kf : ¬ 0 < x → ev_X scr d cd (pc + 1) ls st h Q) : ev_X scr d cd pc ls (.int x :: st) h Q := by
  by_cases hc : 0 < x
  · exact ex_cbr0 (c := .gt) true (decide_eq_true hc) hf (kt hc)
  · exact ex_cbr0 (c := .gt) false (decide_eq_false hc) hf (kf hc)
theorem ex_ile {x y : Int32} {t : Int} (hf : ev_ft cd pc = some (.inl (.if_icmp .le t))) (kt : x ≤ y → ev_X scr d cd t.toNat ls st h Q) (kf : ¬ x ≤ y → ev_X scr d cd (pc + 1) ls st h Q) : ev_X scr d cd pc ls (.int y :: .int x :: st) h Q := by
  by_cases hc : x ≤ y
  · exact ex_cbr (c := .le) true (decide_eq_true hc) hf (kt hc)
  · exact ex_cbr (c := .le) false (decide_eq_false hc) hf (kf hc)
theorem ex_zle {x : Int32} {t : Int} (hf : ev_ft cd pc = some (.inl (.ifCond .le t))) (kt : x ≤ 0 → ev_X scr d cd t.toNat ls st h Q) (kf : ¬ x ≤ 0 → ev_X scr d cd (pc + 1) ls st h Q) : ev_X scr d cd pc ls (.int x :: st) h Q := by
  by_cases hc : x ≤ 0
  · exact ex_cbr0 (c := .le) true (decide_eq_true hc) hf (kt hc)
  · exact ex_cbr0 (c := .le) false (decide_eq_false hc) hf (kf hc)
theorem ex_idiv {x y v : Int32} (hf : ev_ft cd pc = some (.inl .idiv)) (hy : ¬ y = 0) (hv : x / y = v) (K : ev_X scr d cd (pc + 1) ls (.int v :: st) h Q) : ev_X scr d cd pc ls (.int y :: .int x :: st) h Q := by
  refine ex_step hf (pc' := pc + 1) (ls' := ls) (st' := .int v :: st) (h' := h) ?_ K
  simp only [ev_S, ev_xP, ev_xB, hy, if_false, hv]
theorem ex_irem {x y v : Int32} (hf : ev_ft cd pc = some (.inl .irem)) (hy : ¬ y = 0) (hv : x - x / y * y = v) (K : ev_X scr d cd (pc + 1) ls (.int v :: st) h Q) : ev_X scr d cd pc ls (.int y :: .int x :: st) h Q := by
  refine ex_step hf (pc' := pc + 1) (ls' := ls) (st' := .int v :: st) (h' := h) ?_ K
  simp only [ev_S, ev_xP, ev_xB, hy, if_false, hv]
theorem ex_ldiv {x y v : Int64} (hf : ev_ft cd pc = some (.inl .ldiv)) (hy : ¬ y = 0) (hv : x / y = v) (K : ev_X scr d cd (pc + 1) ls (.long v :: st) h Q) : ev_X scr d cd pc ls (.long y :: .long x :: st) h Q := by
  refine ex_step hf (pc' := pc + 1) (ls' := ls) (st' := .long v :: st) (h' := h) ?_ K
  simp only [ev_S, ev_xP, ev_xB, hy, if_false, hv]
theorem ex_lrem {x y v : Int64} (hf : ev_ft cd pc = some (.inl .lrem)) (hy : ¬ y = 0) (hv : x - x / y * y = v) (K : ev_X scr d cd (pc + 1) ls (.long v :: st) h Q) : ev_X scr d cd pc ls (.long y :: .long x :: st) h Q := by
  refine ex_step hf (pc' := pc + 1) (ls' := ls) (st' := .long v :: st) (h' := h) ?_ K
  simp only [ev_S, ev_xP, ev_xB, hy, if_false, hv]
theorem ex_tsw {x : Int32} {d0 lo hi : Int} {offs : Array Int} {t : Nat} (hf : ev_ft cd pc = some (.inl (.tableswitch d0 lo hi offs))) (ht : (if x.toInt < lo ∨ hi < x.toInt then d0.toNat else (offs.toList.getD (x.toInt - lo).toNat d0).toNat) = t) (K : ev_X scr d cd t ls st h Q) : ev_X scr d cd pc ls (.int x :: st) h Q := by
  refine ex_step hf ?_ K
  simp only [ev_S, ev_xP, ev_xB, ht]
theorem ex_lsw {x : Int32} {d0 : Int} {ps : Array (Int × Int)} {t : Nat} (hf : ev_ft cd pc = some (.inl (.lookupswitch d0 ps))) (ht : (Op.lookupswitch.offset ps.toList d0 x.toInt).toNat = t) (K : ev_X scr d cd t ls st h Q) : ev_X scr d cd pc ls (.int x :: st) h Q := by
  refine ex_step hf ?_ K
  simp only [ev_S, ev_xP, ev_xB, ht]
theorem ex_ia (n : Nat) {a L : Nat} {P : Nat → Prop} {g : Nat → Int32} {j x : Int32} (hf : ev_ft cd pc = some (.inl .iaload)) (hA : IA h a L P g) (hj : j = nI n) (hP : P n) (hn : n < L) (hb : n < 1000) (hx : g n = x) (K : ev_X scr d cd (pc + 1) ls (.int x :: st) h Q) : ev_X scr d cd pc ls (.int j :: .ref a :: st) h Q := by
  obtain ⟨xs, h1, h2, h3⟩ := hA
  exact ex_iald n hf h1 hj (by omega) hb ((h3 n hn hP).trans hx) K
theorem ex_iaw (n : Nat) {a L : Nat} {P : Nat → Prop} {g : Nat → Int32} {j : Int32} (hf : ev_ft cd pc = some (.inl .iaload)) (hA : IA h a L P g) (hj : j = nI n) (hn : n < L) (hb : n < 1000) (K : ∀ x : Int32, (P n → x = g n) → ev_X scr d cd (pc + 1) ls (.int x :: st) h Q) : ev_X scr d cd pc ls (.int j :: .ref a :: st) h Q := by
  obtain ⟨xs, h1, h2, h3⟩ := hA
  exact ex_iald n hf h1 hj (by omega) hb rfl (K _ (fun q => h3 n hn q))
theorem ex_is (n : Nat) {a L : Nat} {P : Nat → Prop} {g : Nat → Int32} {j x : Int32} (hf : ev_ft cd pc = some (.inl .iastore)) (hA : IA h a L P g) (hj : j = nI n) (hn : n < L) (hb : n < 1000) (K : ∀ h', IA h' a L (fun i => P i ∨ i = n) (fun i => if i = n then x else g i) → SB a h h' → ev_X scr d cd (pc + 1) ls st h' Q) : ev_X scr d cd pc ls (.int x :: .int j :: .ref a :: st) h Q := by
  obtain ⟨xs, h1, h2, h3⟩ := hA
  refine ex_iast n hf h1 hj (by omega) hb (K _ ⟨xs.set n x, ?_, by simpa using h2, fun i hi hp => ?_⟩ SB.set)
  · rw [List.getElem?_set_self (by exact (List.getElem?_eq_some_iff.mp h1).1)]
  · by_cases e : i = n
    · subst e
      simp [h2, hi]
    · dsimp only
      rw [if_neg e]
      rcases hp with hp | hp
      · rw [← h3 i hi hp]
        simp [List.getD_eq_getElem?_getD, List.getElem?_set, Ne.symm e]
      · exact absurd hp e
theorem ex_pf {i a c : Nat} {vs : List Value} {x : Int32} (hf : ev_ft cd pc = some (.inl (.putfield i))) (hh : h[a]? = some (.inr (c, vs))) (hc : Nat.beq c (i / 32) = true) (hl : Nat.blt (i % 32) vs.length = true) (K : ∀ h', h'[a]? = some (.inr (c, vs.set (i % 32) (.int x))) → SB a h h' → ev_X scr d cd (pc + 1) ls st h' Q) : ev_X scr d cd pc ls (.int x :: .ref a :: st) h Q :=
  ex_putf hf hh hc hl (K _ (by rw [List.getElem?_set_self (List.getElem?_eq_some_iff.mp hh).1]) SB.set)
theorem ex_pz {i a c n : Nat} {vs : List Value} {x : Int32} (hf : ev_ft cd pc = some (.inl (.multianewarray i n))) (hh : h[a]? = some (.inr (c, vs))) (hc : Nat.beq c (i / 32) = true) (hl : Nat.blt (i % 32) vs.length = true) (hz : ev_bz x = true) (K : ∀ h', h'[a]? = some (.inr (c, vs.set (i % 32) (.int x))) → SB a h h' → ev_X scr d cd (pc + 1) ls st h' Q) : ev_X scr d cd pc ls (.int x :: .ref a :: st) h Q :=
  ex_putz hf hh hc hl hz (K _ (by rw [List.getElem?_set_self (List.getElem?_eq_some_iff.mp hh).1]) SB.set)
theorem ex_pr2 {i a c b : Nat} {vs : List Value} (hf : ev_ft cd pc = some (.inl (.putstatic i))) (hh : h[a]? = some (.inr (c, vs))) (hc : Nat.beq c (i / 32) = true) (hl : Nat.blt (i % 32) vs.length = true) (K : ∀ h', h'[a]? = some (.inr (c, vs.set (i % 32) (.ref b))) → SB a h h' → ev_X scr d cd (pc + 1) ls st h' Q) : ev_X scr d cd pc ls (.ref b :: .ref a :: st) h Q :=
  ex_putr hf hh hc hl (K _ (by rw [List.getElem?_set_self (List.getElem?_eq_some_iff.mp hh).1]) SB.set)
end XR
end
section
/-! A turn whose side is known. -/
section EVT
variable {scr : List Int32} {d : Nat} {cd : List ev_I} {pc : Nat} {ls st : List Value} {h : ev_H} {r : Option Value × ev_H}
theorem ev_ieqT {x y : Int32} {t : Int} (hf : ev_ft cd pc = some (.inl (.if_icmp .eq t))) (hc : x = y) (K : ev_V scr d cd t.toNat ls st h r) : ev_V scr d cd pc ls (.int y :: .int x :: st) h r := ev_cbr (c := .eq) true (decide_eq_true hc) hf K
theorem ev_ieqF {x y : Int32} {t : Int} (hf : ev_ft cd pc = some (.inl (.if_icmp .eq t))) (hc : ¬ x = y) (K : ev_V scr d cd (pc + 1) ls st h r) : ev_V scr d cd pc ls (.int y :: .int x :: st) h r := ev_cbr (c := .eq) false (decide_eq_false hc) hf K
theorem ev_zeqT {x : Int32} {t : Int} (hf : ev_ft cd pc = some (.inl (.ifCond .eq t))) (hc : x = 0) (K : ev_V scr d cd t.toNat ls st h r) : ev_V scr d cd pc ls (.int x :: st) h r := ev_cbr0 (c := .eq) true (decide_eq_true hc) hf K
theorem ev_zeqF {x : Int32} {t : Int} (hf : ev_ft cd pc = some (.inl (.ifCond .eq t))) (hc : ¬ x = 0) (K : ev_V scr d cd (pc + 1) ls st h r) : ev_V scr d cd pc ls (.int x :: st) h r := ev_cbr0 (c := .eq) false (decide_eq_false hc) hf K
theorem ev_ineT {x y : Int32} {t : Int} (hf : ev_ft cd pc = some (.inl (.if_icmp .ne t))) (hc : ¬ x = y) (K : ev_V scr d cd t.toNat ls st h r) : ev_V scr d cd pc ls (.int y :: .int x :: st) h r := ev_cbr (c := .ne) true (decide_eq_true hc) hf K
theorem ev_ineF {x y : Int32} {t : Int} (hf : ev_ft cd pc = some (.inl (.if_icmp .ne t))) (hc : x = y) (K : ev_V scr d cd (pc + 1) ls st h r) : ev_V scr d cd pc ls (.int y :: .int x :: st) h r := ev_cbr (c := .ne) false (decide_eq_false (Decidable.not_not.mpr hc)) hf K
theorem ev_zneT {x : Int32} {t : Int} (hf : ev_ft cd pc = some (.inl (.ifCond .ne t))) (hc : ¬ x = 0) (K : ev_V scr d cd t.toNat ls st h r) : ev_V scr d cd pc ls (.int x :: st) h r := ev_cbr0 (c := .ne) true (decide_eq_true hc) hf K
theorem ev_zneF {x : Int32} {t : Int} (hf : ev_ft cd pc = some (.inl (.ifCond .ne t))) (hc : x = 0) (K : ev_V scr d cd (pc + 1) ls st h r) : ev_V scr d cd pc ls (.int x :: st) h r := ev_cbr0 (c := .ne) false (decide_eq_false (Decidable.not_not.mpr hc)) hf K
theorem ev_iltT {x y : Int32} {t : Int} (hf : ev_ft cd pc = some (.inl (.if_icmp .lt t))) (hc : x < y) (K : ev_V scr d cd t.toNat ls st h r) : ev_V scr d cd pc ls (.int y :: .int x :: st) h r := ev_cbr (c := .lt) true (decide_eq_true hc) hf K
theorem ev_iltF {x y : Int32} {t : Int} (hf : ev_ft cd pc = some (.inl (.if_icmp .lt t))) (hc : ¬ x < y) (K : ev_V scr d cd (pc + 1) ls st h r) : ev_V scr d cd pc ls (.int y :: .int x :: st) h r := ev_cbr (c := .lt) false (decide_eq_false hc) hf K
theorem ev_zltT {x : Int32} {t : Int} (hf : ev_ft cd pc = some (.inl (.ifCond .lt t))) (hc : x < 0) (K : ev_V scr d cd t.toNat ls st h r) : ev_V scr d cd pc ls (.int x :: st) h r := ev_cbr0 (c := .lt) true (decide_eq_true hc) hf K
theorem ev_zltF {x : Int32} {t : Int} (hf : ev_ft cd pc = some (.inl (.ifCond .lt t))) (hc : ¬ x < 0) (K : ev_V scr d cd (pc + 1) ls st h r) : ev_V scr d cd pc ls (.int x :: st) h r := ev_cbr0 (c := .lt) false (decide_eq_false hc) hf K
theorem ev_igeT {x y : Int32} {t : Int} (hf : ev_ft cd pc = some (.inl (.if_icmp .ge t))) (hc : y ≤ x) (K : ev_V scr d cd t.toNat ls st h r) : ev_V scr d cd pc ls (.int y :: .int x :: st) h r := ev_cbr (c := .ge) true (decide_eq_true hc) hf K
theorem ev_igeF {x y : Int32} {t : Int} (hf : ev_ft cd pc = some (.inl (.if_icmp .ge t))) (hc : ¬ y ≤ x) (K : ev_V scr d cd (pc + 1) ls st h r) : ev_V scr d cd pc ls (.int y :: .int x :: st) h r := ev_cbr (c := .ge) false (decide_eq_false hc) hf K
theorem ev_zgeT {x : Int32} {t : Int} (hf : ev_ft cd pc = some (.inl (.ifCond .ge t))) (hc : 0 ≤ x) (K : ev_V scr d cd t.toNat ls st h r) : ev_V scr d cd pc ls (.int x :: st) h r := ev_cbr0 (c := .ge) true (decide_eq_true hc) hf K
theorem ev_zgeF {x : Int32} {t : Int} (hf : ev_ft cd pc = some (.inl (.ifCond .ge t))) (hc : ¬ 0 ≤ x) (K : ev_V scr d cd (pc + 1) ls st h r) : ev_V scr d cd pc ls (.int x :: st) h r := ev_cbr0 (c := .ge) false (decide_eq_false hc) hf K
theorem ev_igtT {x y : Int32} {t : Int} (hf : ev_ft cd pc = some (.inl (.if_icmp .gt t))) (hc : y < x) (K : ev_V scr d cd t.toNat ls st h r) : ev_V scr d cd pc ls (.int y :: .int x :: st) h r := ev_cbr (c := .gt) true (decide_eq_true hc) hf K
theorem ev_igtF {x y : Int32} {t : Int} (hf : ev_ft cd pc = some (.inl (.if_icmp .gt t))) (hc : ¬ y < x) (K : ev_V scr d cd (pc + 1) ls st h r) : ev_V scr d cd pc ls (.int y :: .int x :: st) h r := ev_cbr (c := .gt) false (decide_eq_false hc) hf K
theorem ev_zgtT {x : Int32} {t : Int} (hf : ev_ft cd pc = some (.inl (.ifCond .gt t))) (hc : 0 < x) (K : ev_V scr d cd t.toNat ls st h r) : ev_V scr d cd pc ls (.int x :: st) h r := ev_cbr0 (c := .gt) true (decide_eq_true hc) hf K
theorem ev_zgtF {x : Int32} {t : Int} (hf : ev_ft cd pc = some (.inl (.ifCond .gt t))) (hc : ¬ 0 < x) (K : ev_V scr d cd (pc + 1) ls st h r) : ev_V scr d cd pc ls (.int x :: st) h r := ev_cbr0 (c := .gt) false (decide_eq_false hc) hf K
theorem ev_ileT {x y : Int32} {t : Int} (hf : ev_ft cd pc = some (.inl (.if_icmp .le t))) (hc : x ≤ y) (K : ev_V scr d cd t.toNat ls st h r) : ev_V scr d cd pc ls (.int y :: .int x :: st) h r := ev_cbr (c := .le) true (decide_eq_true hc) hf K
theorem ev_ileF {x y : Int32} {t : Int} (hf : ev_ft cd pc = some (.inl (.if_icmp .le t))) (hc : ¬ x ≤ y) (K : ev_V scr d cd (pc + 1) ls st h r) : ev_V scr d cd pc ls (.int y :: .int x :: st) h r := ev_cbr (c := .le) false (decide_eq_false hc) hf K
theorem ev_zleT {x : Int32} {t : Int} (hf : ev_ft cd pc = some (.inl (.ifCond .le t))) (hc : x ≤ 0) (K : ev_V scr d cd t.toNat ls st h r) : ev_V scr d cd pc ls (.int x :: st) h r := ev_cbr0 (c := .le) true (decide_eq_true hc) hf K
theorem ev_zleF {x : Int32} {t : Int} (hf : ev_ft cd pc = some (.inl (.ifCond .le t))) (hc : ¬ x ≤ 0) (K : ev_V scr d cd (pc + 1) ls st h r) : ev_V scr d cd pc ls (.int x :: st) h r := ev_cbr0 (c := .le) false (decide_eq_false hc) hf K
end EVT
section EXT
variable {scr : List Int32} {d : Nat} {cd : List ev_I} {pc : Nat} {ls st : List Value} {h : ev_H} {Q : Option Value → ev_H → Prop}
theorem ex_ieqT {x y : Int32} {t : Int} (hf : ev_ft cd pc = some (.inl (.if_icmp .eq t))) (hc : x = y) (K : ev_X scr d cd t.toNat ls st h Q) : ev_X scr d cd pc ls (.int y :: .int x :: st) h Q := ex_cbr (c := .eq) true (decide_eq_true hc) hf K
theorem ex_ieqF {x y : Int32} {t : Int} (hf : ev_ft cd pc = some (.inl (.if_icmp .eq t))) (hc : ¬ x = y) (K : ev_X scr d cd (pc + 1) ls st h Q) : ev_X scr d cd pc ls (.int y :: .int x :: st) h Q := ex_cbr (c := .eq) false (decide_eq_false hc) hf K
theorem ex_zeqT {x : Int32} {t : Int} (hf : ev_ft cd pc = some (.inl (.ifCond .eq t))) (hc : x = 0) (K : ev_X scr d cd t.toNat ls st h Q) : ev_X scr d cd pc ls (.int x :: st) h Q := ex_cbr0 (c := .eq) true (decide_eq_true hc) hf K
theorem ex_zeqF {x : Int32} {t : Int} (hf : ev_ft cd pc = some (.inl (.ifCond .eq t))) (hc : ¬ x = 0) (K : ev_X scr d cd (pc + 1) ls st h Q) : ev_X scr d cd pc ls (.int x :: st) h Q := ex_cbr0 (c := .eq) false (decide_eq_false hc) hf K
theorem ex_ineT {x y : Int32} {t : Int} (hf : ev_ft cd pc = some (.inl (.if_icmp .ne t))) (hc : ¬ x = y) (K : ev_X scr d cd t.toNat ls st h Q) : ev_X scr d cd pc ls (.int y :: .int x :: st) h Q := ex_cbr (c := .ne) true (decide_eq_true hc) hf K
theorem ex_ineF {x y : Int32} {t : Int} (hf : ev_ft cd pc = some (.inl (.if_icmp .ne t))) (hc : x = y) (K : ev_X scr d cd (pc + 1) ls st h Q) : ev_X scr d cd pc ls (.int y :: .int x :: st) h Q := ex_cbr (c := .ne) false (decide_eq_false (Decidable.not_not.mpr hc)) hf K
theorem ex_zneT {x : Int32} {t : Int} (hf : ev_ft cd pc = some (.inl (.ifCond .ne t))) (hc : ¬ x = 0) (K : ev_X scr d cd t.toNat ls st h Q) : ev_X scr d cd pc ls (.int x :: st) h Q := ex_cbr0 (c := .ne) true (decide_eq_true hc) hf K
theorem ex_zneF {x : Int32} {t : Int} (hf : ev_ft cd pc = some (.inl (.ifCond .ne t))) (hc : x = 0) (K : ev_X scr d cd (pc + 1) ls st h Q) : ev_X scr d cd pc ls (.int x :: st) h Q := ex_cbr0 (c := .ne) false (decide_eq_false (Decidable.not_not.mpr hc)) hf K
theorem ex_iltT {x y : Int32} {t : Int} (hf : ev_ft cd pc = some (.inl (.if_icmp .lt t))) (hc : x < y) (K : ev_X scr d cd t.toNat ls st h Q) : ev_X scr d cd pc ls (.int y :: .int x :: st) h Q := ex_cbr (c := .lt) true (decide_eq_true hc) hf K
theorem ex_iltF {x y : Int32} {t : Int} (hf : ev_ft cd pc = some (.inl (.if_icmp .lt t))) (hc : ¬ x < y) (K : ev_X scr d cd (pc + 1) ls st h Q) : ev_X scr d cd pc ls (.int y :: .int x :: st) h Q := ex_cbr (c := .lt) false (decide_eq_false hc) hf K
theorem ex_zltT {x : Int32} {t : Int} (hf : ev_ft cd pc = some (.inl (.ifCond .lt t))) (hc : x < 0) (K : ev_X scr d cd t.toNat ls st h Q) : ev_X scr d cd pc ls (.int x :: st) h Q := ex_cbr0 (c := .lt) true (decide_eq_true hc) hf K
theorem ex_zltF {x : Int32} {t : Int} (hf : ev_ft cd pc = some (.inl (.ifCond .lt t))) (hc : ¬ x < 0) (K : ev_X scr d cd (pc + 1) ls st h Q) : ev_X scr d cd pc ls (.int x :: st) h Q := ex_cbr0 (c := .lt) false (decide_eq_false hc) hf K
theorem ex_igeT {x y : Int32} {t : Int} (hf : ev_ft cd pc = some (.inl (.if_icmp .ge t))) (hc : y ≤ x) (K : ev_X scr d cd t.toNat ls st h Q) : ev_X scr d cd pc ls (.int y :: .int x :: st) h Q := ex_cbr (c := .ge) true (decide_eq_true hc) hf K
theorem ex_igeF {x y : Int32} {t : Int} (hf : ev_ft cd pc = some (.inl (.if_icmp .ge t))) (hc : ¬ y ≤ x) (K : ev_X scr d cd (pc + 1) ls st h Q) : ev_X scr d cd pc ls (.int y :: .int x :: st) h Q := ex_cbr (c := .ge) false (decide_eq_false hc) hf K
theorem ex_zgeT {x : Int32} {t : Int} (hf : ev_ft cd pc = some (.inl (.ifCond .ge t))) (hc : 0 ≤ x) (K : ev_X scr d cd t.toNat ls st h Q) : ev_X scr d cd pc ls (.int x :: st) h Q := ex_cbr0 (c := .ge) true (decide_eq_true hc) hf K
theorem ex_zgeF {x : Int32} {t : Int} (hf : ev_ft cd pc = some (.inl (.ifCond .ge t))) (hc : ¬ 0 ≤ x) (K : ev_X scr d cd (pc + 1) ls st h Q) : ev_X scr d cd pc ls (.int x :: st) h Q := ex_cbr0 (c := .ge) false (decide_eq_false hc) hf K
theorem ex_igtT {x y : Int32} {t : Int} (hf : ev_ft cd pc = some (.inl (.if_icmp .gt t))) (hc : y < x) (K : ev_X scr d cd t.toNat ls st h Q) : ev_X scr d cd pc ls (.int y :: .int x :: st) h Q := ex_cbr (c := .gt) true (decide_eq_true hc) hf K
theorem ex_igtF {x y : Int32} {t : Int} (hf : ev_ft cd pc = some (.inl (.if_icmp .gt t))) (hc : ¬ y < x) (K : ev_X scr d cd (pc + 1) ls st h Q) : ev_X scr d cd pc ls (.int y :: .int x :: st) h Q := ex_cbr (c := .gt) false (decide_eq_false hc) hf K
theorem ex_zgtT {x : Int32} {t : Int} (hf : ev_ft cd pc = some (.inl (.ifCond .gt t))) (hc : 0 < x) (K : ev_X scr d cd t.toNat ls st h Q) : ev_X scr d cd pc ls (.int x :: st) h Q := ex_cbr0 (c := .gt) true (decide_eq_true hc) hf K
theorem ex_zgtF {x : Int32} {t : Int} (hf : ev_ft cd pc = some (.inl (.ifCond .gt t))) (hc : ¬ 0 < x) (K : ev_X scr d cd (pc + 1) ls st h Q) : ev_X scr d cd pc ls (.int x :: st) h Q := ex_cbr0 (c := .gt) false (decide_eq_false hc) hf K
theorem ex_ileT {x y : Int32} {t : Int} (hf : ev_ft cd pc = some (.inl (.if_icmp .le t))) (hc : x ≤ y) (K : ev_X scr d cd t.toNat ls st h Q) : ev_X scr d cd pc ls (.int y :: .int x :: st) h Q := ex_cbr (c := .le) true (decide_eq_true hc) hf K
theorem ex_ileF {x y : Int32} {t : Int} (hf : ev_ft cd pc = some (.inl (.if_icmp .le t))) (hc : ¬ x ≤ y) (K : ev_X scr d cd (pc + 1) ls st h Q) : ev_X scr d cd pc ls (.int y :: .int x :: st) h Q := ex_cbr (c := .le) false (decide_eq_false hc) hf K
theorem ex_zleT {x : Int32} {t : Int} (hf : ev_ft cd pc = some (.inl (.ifCond .le t))) (hc : x ≤ 0) (K : ev_X scr d cd t.toNat ls st h Q) : ev_X scr d cd pc ls (.int x :: st) h Q := ex_cbr0 (c := .le) true (decide_eq_true hc) hf K
theorem ex_zleF {x : Int32} {t : Int} (hf : ev_ft cd pc = some (.inl (.ifCond .le t))) (hc : ¬ x ≤ 0) (K : ev_X scr d cd (pc + 1) ls st h Q) : ev_X scr d cd pc ls (.int x :: st) h Q := ex_cbr0 (c := .le) false (decide_eq_false hc) hf K
end EXT
end
section
/-! A local that nobody has set may as well hold something. -/
def ev_W1 (a b : Value) : Prop := a = b ∨ (a = .float 0 ∧ ev_half b = false ∧ ev_isL b = false)
def ev_W : List Value → List Value → Prop
  | [], [] => True
  | a :: l, b :: l' => ev_W1 a b ∧ ev_W l l'
  | _, _ => False
theorem ev_W.rf : ∀ l : List Value, ev_W l l
  | [] => trivial
  | a :: l => ⟨Or.inl rfl, ev_W.rf l⟩
theorem ev_W.lg : ∀ {l l' : List Value} {k : Nat} {v : Value}, ev_W l l' → ev_lg l k = some v → v ≠ .float 0 → ev_lg l' k = some v
  | [], [], _, _, _, h, _ => by cases h
  | a :: l, b :: l', 0, v, w, h, hv => by
    have e : a = v := by simpa [ev_lg] using h
    rcases w.1 with q | q
    · rw [ev_lg, ← q, e]
    · exact absurd (e.symm.trans q.1) hv
  | a :: l, b :: l', k + 1, v, w, h, hv => ev_W.lg (l := l) (l' := l') (k := k) w.2 h hv
theorem ev_W1.half {a b : Value} (w : ev_W1 a b) (h : (!ev_half a) = true) : (!ev_half b) = true := by
  rcases w with q | q
  · rw [← q]; exact h
  · rw [q.2.1]; rfl
theorem ev_W.ok1 : ∀ {l l' : List Value} {k : Nat}, ev_W l l' → ev_ok1 l k = true → ev_ok1 l' k = true
  | [], [], _, _, h => h
  | a :: l, b :: l', 0, w, h => w.1.half h
  | a :: l, b :: l', k + 1, w, h => ev_W.ok1 (l := l) (l' := l') (k := k) w.2 h
theorem ev_W.ok2 : ∀ {l l' : List Value} {k : Nat}, ev_W l l' → ev_ok2 l k = true → ev_ok2 l' k = true
  | [], [], _, _, h => h
  | [a], [b], 0, w, h => by cases h
  | a :: a2 :: l, b :: b2 :: l', 0, w, h => w.1.half h
  | a :: l, b :: l', k + 1, w, h => ev_W.ok2 (l := l) (l' := l') (k := k) w.2 (by simpa [ev_ok2] using h) |> fun q => by simpa [ev_ok2] using q
theorem ev_W.un : ∀ {l l' : List Value}, ev_W l l' → ev_W (ev_un l) (ev_un l')
  | [], [], w => w
  | a :: l, b :: l', w => ⟨Or.inl rfl, w.2⟩
theorem ev_W.s1 : ∀ {l l' : List Value} {k : Nat} {v : Value}, ev_W l l' → ev_W (ev_s1 l k v) (ev_s1 l' k v)
  | [], [], _, _, w => w
  | a :: l, b :: l', 0, v, w => by
    rcases w.1 with q | q
    · subst q
      unfold ev_s1
      cases ev_isL a
      · exact ⟨Or.inl rfl, w.2⟩
      · exact ⟨Or.inl rfl, ev_W.un w.2⟩
    · unfold ev_s1
      rw [q.1, q.2.2]
      exact ⟨Or.inl rfl, w.2⟩
  | a :: l, b :: l', k + 1, v, w => ⟨w.1, ev_W.s1 (l := l) (l' := l') (k := k) w.2⟩
theorem ev_W.s2 : ∀ {l l' : List Value} {k : Nat} {v : Value}, ev_W l l' → ev_W (ev_s2 l k v) (ev_s2 l' k v)
  | [], [], k, _, w => by cases k <;> exact w
  | [a], [b], 0, v, w => w
  | a :: a2 :: l, b :: b2 :: l', 0, v, w => ⟨Or.inl rfl, Or.inl rfl, w.2.2⟩
  | a :: l, b :: l', k + 1, v, w => by
    have := ev_W.s2 (l := l) (l' := l') (k := k) (v := v) w.2
    have e1 : ev_s2 (a :: l) (k + 1) v = a :: ev_s2 l k v := by cases l <;> rfl
    have e2 : ev_s2 (b :: l') (k + 1) v = b :: ev_s2 l' k v := by cases l' <;> rfl
    rw [e1, e2]
    exact ⟨w.1, this⟩
theorem nx_W {pc : Nat} {ls ls' : List Value} {o : Option (List Value)} {q : Nat × List Value × List Value} (w : ev_W ls ls') (h : ev_nx pc ls o = some q) : ∃ l1', ev_nx pc ls' o = some (q.1, l1', q.2.2) ∧ ev_W q.2.1 l1' := by
  cases o with
  | none => cases h
  | some st => cases h; exact ⟨ls', rfl, w⟩
theorem xP_W (i : ev_I) {pc : Nat} {ls ls' st : List Value} (w : ev_W ls ls') {q : Nat × List Value × List Value} (h : ev_xP i pc ls st = some q) : ∃ l1', ev_xP i pc ls' st = some (q.1, l1', q.2.2) ∧ ev_W q.2.1 l1' := by
  cases i with
  | inr v => cases h; exact ⟨ls', rfl, w⟩
  | inl ins =>
    unfold ev_xP at h ⊢
    dsimp only at h ⊢
    split at h
    all_goals first
      | exact nx_W w h
      | (cases h; done)
      | (cases h; exact ⟨ls', rfl, w⟩)
      | skip
    · split at h
      · rename_i e
        cases h
        rw [w.lg e (by intro c; cases c)]
        exact ⟨ls', rfl, w⟩
      · cases h
    · split at h
      · rename_i e
        cases h
        rw [w.lg e (by intro c; cases c)]
        exact ⟨ls', rfl, w⟩
      · cases h
    · split at h
      · rename_i e
        cases h
        rw [w.lg e (by intro c; cases c)]
        exact ⟨ls', rfl, w⟩
      · rename_i e
        rw [w.lg e (by intro c; cases c)]
        dsimp only
        split at h
        · cases h
        · cases h
          exact ⟨ls', rfl, w⟩
      · cases h
    · split at h
      · split at h
        · rename_i e
          cases h
          rw [w.ok1 e]
          exact ⟨_, rfl, w.s1⟩
        · cases h
      · cases h
    · split at h
      · split at h
        · rename_i e
          cases h
          rw [w.ok1 e]
          exact ⟨_, rfl, w.s1⟩
        · cases h
      · cases h
    · split at h
      · split at h
        · rename_i e
          cases h
          rw [w.ok2 e]
          exact ⟨_, rfl, w.s2⟩
        · cases h
      · cases h
    · split at h
      · rename_i e
        split at h
        · rename_i e2
          cases h
          rw [w.lg e (by intro c; cases c)]
          dsimp only
          rw [w.ok1 e2]
          exact ⟨_, rfl, w.s1⟩
        · cases h
      · cases h
    all_goals
      split at h
      all_goals first
        | (cases h; done)
        | (cases h; exact ⟨ls', rfl, w⟩)
theorem xP_N (scr : List Int32) (i : ev_I) {pc : Nat} {ls : List Value} {st : List Value} (h : ev_H) (hn : ev_xP i pc ls st = none) : (∀ ls', ev_xP i pc ls' st = none) ∨ (ev_xB i pc st = none ∧ ev_xH scr i st h = none ∧ ev_xR i st = none ∧ ev_xC i = none) := by
  cases i with
  | inr v => cases hn
  | inl ins =>
    cases ins
    all_goals first
      | exact Or.inr ⟨rfl, rfl, rfl, rfl⟩
      | exact Or.inl (fun _ => rfl)
theorem ev_weak0 (scr : List Int32) : ∀ (n d : Nat) (cd : List ev_I) (pc : Nat) (ls ls' st : List Value) (h : ev_H) (r : Option Value × ev_H), ev_W ls ls' → ev_E scr n d cd pc ls st h = some r → ev_E scr n d cd pc ls' st h = some r := by
  intro n
  induction n with
  | zero => intro d cd pc ls ls' st h r _ hr; cases hr
  | succ n ih =>
    intro d cd pc ls ls' st h r w hr
    unfold ev_E at hr ⊢
    cases hf : ev_ft cd pc with
    | none => rw [hf] at hr; cases hr
    | some i =>
      rw [hf] at hr
      dsimp only at hr ⊢
      have key : (∃ pc' l1 l1' st' h', ev_S scr i pc ls st h = some (.inl (pc', l1, st', h')) ∧ ev_S scr i pc ls' st h = some (.inl (pc', l1', st', h')) ∧ ev_W l1 l1') ∨ (∃ q, ev_S scr i pc ls st h = some (.inr q) ∧ ev_S scr i pc ls' st h = some (.inr q)) ∨ ev_S scr i pc ls st h = none := by
        cases hp : ev_xP i pc ls st with
        | some q =>
          obtain ⟨l1', e, w'⟩ := xP_W i w hp
          refine Or.inl ⟨q.1, q.2.1, l1', q.2.2, h, ?_, ?_, w'⟩
          · unfold ev_S; rw [hp]
          · unfold ev_S; rw [e]
        | none =>
          rcases xP_N scr i h hp with c | c
          · have e := c ls'
            cases hb : ev_xB i pc st with
            | some q =>
              refine Or.inl ⟨q.1, ls, ls', q.2, h, ?_, ?_, w⟩
              · unfold ev_S; rw [hp, hb]
              · unfold ev_S; rw [e, hb]
            | none =>
              cases hh : ev_xH scr i st h with
              | some q =>
                refine Or.inl ⟨pc + 1, ls, ls', q.1, q.2, ?_, ?_, w⟩
                · unfold ev_S; rw [hp, hb, hh]
                · unfold ev_S; rw [e, hb, hh]
              | none =>
                refine Or.inr ?_
                cases hx : ev_S scr i pc ls st h with
                | none => exact Or.inr rfl
                | some q =>
                  refine Or.inl ?_
                  unfold ev_S at hx ⊢
                  rw [hp, hb, hh] at hx
                  rw [e, hb, hh]
                  dsimp only at hx ⊢
                  cases hr2 : ev_xR i st with
                  | some v => rw [hr2] at hx; cases hx; exact ⟨_, rfl, rfl⟩
                  | none =>
                    rw [hr2] at hx
                    cases hc : ev_xC i with
                    | some k => rw [hc] at hx; cases hx; exact ⟨_, rfl, rfl⟩
                    | none => rw [hc] at hx; cases hx
          · refine Or.inr (Or.inr ?_)
            unfold ev_S
            rw [hp, c.1, c.2.1, c.2.2.1, c.2.2.2]
      rcases key with ⟨pc', l1, l1', st', h', e1, e2, w'⟩ | ⟨q, e1, e2⟩ | e1
      · rw [e1] at hr
        rw [e2]
        exact ih _ _ _ _ _ _ _ _ w' hr
      · rw [e1] at hr
        rw [e2]
        match q, hr with
        | .inl v, hr => exact hr
        | .inr k, hr =>
          dsimp only at hr ⊢
          cases d with
          | zero => exact hr
          | succ d' =>
            dsimp only at hr ⊢
            cases hk : ev_pr k with
            | none =>
              rw [hk] at hr
              dsimp only at hr ⊢
              split at hr
              · exact ih _ _ _ _ _ _ _ _ w hr
              · cases hr
            | some p =>
              obtain ⟨cd', mL, np, own⟩ := p
              rw [hk] at hr
              dsimp only at hr ⊢
              split at hr
              · cases hr
              · split at hr
                · cases hr
                · exact ih _ _ _ _ _ _ _ _ w hr
      · rw [e1] at hr
        cases hr
section WK
variable {scr : List Int32} {d : Nat} {cd : List ev_I} {pc : Nat} {ls ls' st : List Value} {h : ev_H}
theorem ev_weak {r : Option Value × ev_H} (K : ev_V scr d cd pc ls st h r) (w : ev_W ls ls') : ev_V scr d cd pc ls' st h r := by
  obtain ⟨n, e⟩ := K
  exact ⟨n, ev_weak0 scr n d cd pc ls ls' st h r w e⟩
theorem ex_weak {Q : Option Value → ev_H → Prop} (K : ev_X scr d cd pc ls st h Q) (w : ev_W ls ls') : ev_X scr d cd pc ls' st h Q := by
  obtain ⟨v, h2, k, q⟩ := K
  exact ⟨v, h2, ev_weak k w, q⟩
theorem W_e {a : Value} {l l' : List Value} (w : ev_W l l') : ev_W (a :: l) (a :: l') := ⟨Or.inl rfl, w⟩
theorem W_i {x : Int32} {l l' : List Value} (w : ev_W l l') : ev_W (.float 0 :: l) (.int x :: l') := ⟨Or.inr ⟨rfl, rfl, rfl⟩, w⟩
theorem W_r {x : Nat} {l l' : List Value} (w : ev_W l l') : ev_W (.float 0 :: l) (.ref x :: l') := ⟨Or.inr ⟨rfl, rfl, rfl⟩, w⟩
theorem W_n : ev_W [] [] := trivial
end WK
end
section
/-! A turn whose two sides meet again. -/
section EVM
variable {scr : List Int32} {d : Nat} {cd : List ev_I} {pc : Nat} {ls st st1 : List Value} {h : ev_H} {r : Option Value × ev_H}
theorem ev_ieqM (n1 n2 J : Nat) {x y p q v : Int32} {t : Int} (hf : ev_ft cd pc = some (.inl (.if_icmp .eq t))) (h1 : ev_run n1 cd t.toNat ls st = (J, ls, .int p :: st1)) (h2 : ev_run n2 cd (pc + 1) ls st = (J, ls, .int q :: st1)) (hv : (if x = y then p else q) = v) (K : ev_V scr d cd J ls (.int v :: st1) h r) : ev_V scr d cd pc ls (.int y :: .int x :: st) h r := by
  refine ev_ieq hf (fun c => ev_go n1 h1 ?_) (fun c => ev_go n2 h2 ?_)
  · rw [if_pos c] at hv; rw [hv]; exact K
  · rw [if_neg c] at hv; rw [hv]; exact K
theorem ev_zeqM (n1 n2 J : Nat) {x p q v : Int32} {t : Int} (hf : ev_ft cd pc = some (.inl (.ifCond .eq t))) (h1 : ev_run n1 cd t.toNat ls st = (J, ls, .int p :: st1)) (h2 : ev_run n2 cd (pc + 1) ls st = (J, ls, .int q :: st1)) (hv : (if x = 0 then p else q) = v) (K : ev_V scr d cd J ls (.int v :: st1) h r) : ev_V scr d cd pc ls (.int x :: st) h r := by
  refine ev_zeq hf (fun c => ev_go n1 h1 ?_) (fun c => ev_go n2 h2 ?_)
  · rw [if_pos c] at hv; rw [hv]; exact K
  · rw [if_neg c] at hv; rw [hv]; exact K
theorem ev_ineM (n1 n2 J : Nat) {x y p q v : Int32} {t : Int} (hf : ev_ft cd pc = some (.inl (.if_icmp .ne t))) (h1 : ev_run n1 cd t.toNat ls st = (J, ls, .int p :: st1)) (h2 : ev_run n2 cd (pc + 1) ls st = (J, ls, .int q :: st1)) (hv : (if x = y then q else p) = v) (K : ev_V scr d cd J ls (.int v :: st1) h r) : ev_V scr d cd pc ls (.int y :: .int x :: st) h r := by
  refine ev_ine hf (fun c => ev_go n1 h1 ?_) (fun c => ev_go n2 h2 ?_)
  · rw [if_neg c] at hv; rw [hv]; exact K
  · rw [if_pos c] at hv; rw [hv]; exact K
theorem ev_zneM (n1 n2 J : Nat) {x p q v : Int32} {t : Int} (hf : ev_ft cd pc = some (.inl (.ifCond .ne t))) (h1 : ev_run n1 cd t.toNat ls st = (J, ls, .int p :: st1)) (h2 : ev_run n2 cd (pc + 1) ls st = (J, ls, .int q :: st1)) (hv : (if x = 0 then q else p) = v) (K : ev_V scr d cd J ls (.int v :: st1) h r) : ev_V scr d cd pc ls (.int x :: st) h r := by
  refine ev_zne hf (fun c => ev_go n1 h1 ?_) (fun c => ev_go n2 h2 ?_)
  · rw [if_neg c] at hv; rw [hv]; exact K
  · rw [if_pos c] at hv; rw [hv]; exact K
theorem ev_iltM (n1 n2 J : Nat) {x y p q v : Int32} {t : Int} (hf : ev_ft cd pc = some (.inl (.if_icmp .lt t))) (h1 : ev_run n1 cd t.toNat ls st = (J, ls, .int p :: st1)) (h2 : ev_run n2 cd (pc + 1) ls st = (J, ls, .int q :: st1)) (hv : (if x < y then p else q) = v) (K : ev_V scr d cd J ls (.int v :: st1) h r) : ev_V scr d cd pc ls (.int y :: .int x :: st) h r := by
  refine ev_ilt hf (fun c => ev_go n1 h1 ?_) (fun c => ev_go n2 h2 ?_)
  · rw [if_pos c] at hv; rw [hv]; exact K
  · rw [if_neg c] at hv; rw [hv]; exact K
theorem ev_zltM (n1 n2 J : Nat) {x p q v : Int32} {t : Int} (hf : ev_ft cd pc = some (.inl (.ifCond .lt t))) (h1 : ev_run n1 cd t.toNat ls st = (J, ls, .int p :: st1)) (h2 : ev_run n2 cd (pc + 1) ls st = (J, ls, .int q :: st1)) (hv : (if x < 0 then p else q) = v) (K : ev_V scr d cd J ls (.int v :: st1) h r) : ev_V scr d cd pc ls (.int x :: st) h r := by
  refine ev_zlt hf (fun c => ev_go n1 h1 ?_) (fun c => ev_go n2 h2 ?_)
  · rw [if_pos c] at hv; rw [hv]; exact K
  · rw [if_neg c] at hv; rw [hv]; exact K
theorem ev_igeM (n1 n2 J : Nat) {x y p q v : Int32} {t : Int} (hf : ev_ft cd pc = some (.inl (.if_icmp .ge t))) (h1 : ev_run n1 cd t.toNat ls st = (J, ls, .int p :: st1)) (h2 : ev_run n2 cd (pc + 1) ls st = (J, ls, .int q :: st1)) (hv : (if y ≤ x then p else q) = v) (K : ev_V scr d cd J ls (.int v :: st1) h r) : ev_V scr d cd pc ls (.int y :: .int x :: st) h r := by
  refine ev_ige hf (fun c => ev_go n1 h1 ?_) (fun c => ev_go n2 h2 ?_)
  · rw [if_pos c] at hv; rw [hv]; exact K
  · rw [if_neg c] at hv; rw [hv]; exact K
theorem ev_zgeM (n1 n2 J : Nat) {x p q v : Int32} {t : Int} (hf : ev_ft cd pc = some (.inl (.ifCond .ge t))) (h1 : ev_run n1 cd t.toNat ls st = (J, ls, .int p :: st1)) (h2 : ev_run n2 cd (pc + 1) ls st = (J, ls, .int q :: st1)) (hv : (if 0 ≤ x then p else q) = v) (K : ev_V scr d cd J ls (.int v :: st1) h r) : ev_V scr d cd pc ls (.int x :: st) h r := by
  refine ev_zge hf (fun c => ev_go n1 h1 ?_) (fun c => ev_go n2 h2 ?_)
  · rw [if_pos c] at hv; rw [hv]; exact K
  · rw [if_neg c] at hv; rw [hv]; exact K
theorem ev_igtM (n1 n2 J : Nat) {x y p q v : Int32} {t : Int} (hf : ev_ft cd pc = some (.inl (.if_icmp .gt t))) (h1 : ev_run n1 cd t.toNat ls st = (J, ls, .int p :: st1)) (h2 : ev_run n2 cd (pc + 1) ls st = (J, ls, .int q :: st1)) (hv : (if y < x then p else q) = v) (K : ev_V scr d cd J ls (.int v :: st1) h r) : ev_V scr d cd pc ls (.int y :: .int x :: st) h r := by
  refine ev_igt hf (fun c => ev_go n1 h1 ?_) (fun c => ev_go n2 h2 ?_)
  · rw [if_pos c] at hv; rw [hv]; exact K
  · rw [if_neg c] at hv; rw [hv]; exact K
theorem ev_zgtM (n1 n2 J : Nat) {x p q v : Int32} {t : Int} (hf : ev_ft cd pc = some (.inl (.ifCond .gt t))) (h1 : ev_run n1 cd t.toNat ls st = (J, ls, .int p :: st1)) (h2 : ev_run n2 cd (pc + 1) ls st = (J, ls, .int q :: st1)) (hv : (if 0 < x then p else q) = v) (K : ev_V scr d cd J ls (.int v :: st1) h r) : ev_V scr d cd pc ls (.int x :: st) h r := by
  refine ev_zgt hf (fun c => ev_go n1 h1 ?_) (fun c => ev_go n2 h2 ?_)
  · rw [if_pos c] at hv; rw [hv]; exact K
  · rw [if_neg c] at hv; rw [hv]; exact K
theorem ev_ileM (n1 n2 J : Nat) {x y p q v : Int32} {t : Int} (hf : ev_ft cd pc = some (.inl (.if_icmp .le t))) (h1 : ev_run n1 cd t.toNat ls st = (J, ls, .int p :: st1)) (h2 : ev_run n2 cd (pc + 1) ls st = (J, ls, .int q :: st1)) (hv : (if x ≤ y then p else q) = v) (K : ev_V scr d cd J ls (.int v :: st1) h r) : ev_V scr d cd pc ls (.int y :: .int x :: st) h r := by
  refine ev_ile hf (fun c => ev_go n1 h1 ?_) (fun c => ev_go n2 h2 ?_)
  · rw [if_pos c] at hv; rw [hv]; exact K
  · rw [if_neg c] at hv; rw [hv]; exact K
theorem ev_zleM (n1 n2 J : Nat) {x p q v : Int32} {t : Int} (hf : ev_ft cd pc = some (.inl (.ifCond .le t))) (h1 : ev_run n1 cd t.toNat ls st = (J, ls, .int p :: st1)) (h2 : ev_run n2 cd (pc + 1) ls st = (J, ls, .int q :: st1)) (hv : (if x ≤ 0 then p else q) = v) (K : ev_V scr d cd J ls (.int v :: st1) h r) : ev_V scr d cd pc ls (.int x :: st) h r := by
  refine ev_zle hf (fun c => ev_go n1 h1 ?_) (fun c => ev_go n2 h2 ?_)
  · rw [if_pos c] at hv; rw [hv]; exact K
  · rw [if_neg c] at hv; rw [hv]; exact K
end EVM
section EXM
variable {scr : List Int32} {d : Nat} {cd : List ev_I} {pc : Nat} {ls st st1 : List Value} {h : ev_H} {Q : Option Value → ev_H → Prop}
theorem ex_ieqM (n1 n2 J : Nat) {x y p q v : Int32} {t : Int} (hf : ev_ft cd pc = some (.inl (.if_icmp .eq t))) (h1 : ev_run n1 cd t.toNat ls st = (J, ls, .int p :: st1)) (h2 : ev_run n2 cd (pc + 1) ls st = (J, ls, .int q :: st1)) (hv : (if x = y then p else q) = v) (K : ev_X scr d cd J ls (.int v :: st1) h Q) : ev_X scr d cd pc ls (.int y :: .int x :: st) h Q := by
  refine ex_ieq hf (fun c => ex_go n1 h1 ?_) (fun c => ex_go n2 h2 ?_)
  · rw [if_pos c] at hv; rw [hv]; exact K
  · rw [if_neg c] at hv; rw [hv]; exact K
theorem ex_zeqM (n1 n2 J : Nat) {x p q v : Int32} {t : Int} (hf : ev_ft cd pc = some (.inl (.ifCond .eq t))) (h1 : ev_run n1 cd t.toNat ls st = (J, ls, .int p :: st1)) (h2 : ev_run n2 cd (pc + 1) ls st = (J, ls, .int q :: st1)) (hv : (if x = 0 then p else q) = v) (K : ev_X scr d cd J ls (.int v :: st1) h Q) : ev_X scr d cd pc ls (.int x :: st) h Q := by
  refine ex_zeq hf (fun c => ex_go n1 h1 ?_) (fun c => ex_go n2 h2 ?_)
  · rw [if_pos c] at hv; rw [hv]; exact K
  · rw [if_neg c] at hv; rw [hv]; exact K
theorem ex_ineM (n1 n2 J : Nat) {x y p q v : Int32} {t : Int} (hf : ev_ft cd pc = some (.inl (.if_icmp .ne t))) (h1 : ev_run n1 cd t.toNat ls st = (J, ls, .int p :: st1)) (h2 : ev_run n2 cd (pc + 1) ls st = (J, ls, .int q :: st1)) (hv : (if x = y then q else p) = v) (K : ev_X scr d cd J ls (.int v :: st1) h Q) : ev_X scr d cd pc ls (.int y :: .int x :: st) h Q := by
  refine ex_ine hf (fun c => ex_go n1 h1 ?_) (fun c => ex_go n2 h2 ?_)
  · rw [if_neg c] at hv; rw [hv]; exact K
  · rw [if_pos c] at hv; rw [hv]; exact K
theorem ex_zneM (n1 n2 J : Nat) {x p q v : Int32} {t : Int} (hf : ev_ft cd pc = some (.inl (.ifCond .ne t))) (h1 : ev_run n1 cd t.toNat ls st = (J, ls, .int p :: st1)) (h2 : ev_run n2 cd (pc + 1) ls st = (J, ls, .int q :: st1)) (hv : (if x = 0 then q else p) = v) (K : ev_X scr d cd J ls (.int v :: st1) h Q) : ev_X scr d cd pc ls (.int x :: st) h Q := by
  refine ex_zne hf (fun c => ex_go n1 h1 ?_) (fun c => ex_go n2 h2 ?_)
  · rw [if_neg c] at hv; rw [hv]; exact K
  · rw [if_pos c] at hv; rw [hv]; exact K
theorem ex_iltM (n1 n2 J : Nat) {x y p q v : Int32} {t : Int} (hf : ev_ft cd pc = some (.inl (.if_icmp .lt t))) (h1 : ev_run n1 cd t.toNat ls st = (J, ls, .int p :: st1)) (h2 : ev_run n2 cd (pc + 1) ls st = (J, ls, .int q :: st1)) (hv : (if x < y then p else q) = v) (K : ev_X scr d cd J ls (.int v :: st1) h Q) : ev_X scr d cd pc ls (.int y :: .int x :: st) h Q := by
  refine ex_ilt hf (fun c => ex_go n1 h1 ?_) (fun c => ex_go n2 h2 ?_)
  · rw [if_pos c] at hv; rw [hv]; exact K
  · rw [if_neg c] at hv; rw [hv]; exact K
theorem ex_zltM (n1 n2 J : Nat) {x p q v : Int32} {t : Int} (hf : ev_ft cd pc = some (.inl (.ifCond .lt t))) (h1 : ev_run n1 cd t.toNat ls st = (J, ls, .int p :: st1)) (h2 : ev_run n2 cd (pc + 1) ls st = (J, ls, .int q :: st1)) (hv : (if x < 0 then p else q) = v) (K : ev_X scr d cd J ls (.int v :: st1) h Q) : ev_X scr d cd pc ls (.int x :: st) h Q := by
  refine ex_zlt hf (fun c => ex_go n1 h1 ?_) (fun c => ex_go n2 h2 ?_)
  · rw [if_pos c] at hv; rw [hv]; exact K
  · rw [if_neg c] at hv; rw [hv]; exact K
theorem ex_igeM (n1 n2 J : Nat) {x y p q v : Int32} {t : Int} (hf : ev_ft cd pc = some (.inl (.if_icmp .ge t))) (h1 : ev_run n1 cd t.toNat ls st = (J, ls, .int p :: st1)) (h2 : ev_run n2 cd (pc + 1) ls st = (J, ls, .int q :: st1)) (hv : (if y ≤ x then p else q) = v) (K : ev_X scr d cd J ls (.int v :: st1) h Q) : ev_X scr d cd pc ls (.int y :: .int x :: st) h Q := by
  refine ex_ige hf (fun c => ex_go n1 h1 ?_) (fun c => ex_go n2 h2 ?_)
  · rw [if_pos c] at hv; rw [hv]; exact K
  · rw [if_neg c] at hv; rw [hv]; exact K
theorem ex_zgeM (n1 n2 J : Nat) {x p q v : Int32} {t : Int} (hf : ev_ft cd pc = some (.inl (.ifCond .ge t))) (h1 : ev_run n1 cd t.toNat ls st = (J, ls, .int p :: st1)) (h2 : ev_run n2 cd (pc + 1) ls st = (J, ls, .int q :: st1)) (hv : (if 0 ≤ x then p else q) = v) (K : ev_X scr d cd J ls (.int v :: st1) h Q) : ev_X scr d cd pc ls (.int x :: st) h Q := by
  refine ex_zge hf (fun c => ex_go n1 h1 ?_) (fun c => ex_go n2 h2 ?_)
  · rw [if_pos c] at hv; rw [hv]; exact K
  · rw [if_neg c] at hv; rw [hv]; exact K
theorem ex_igtM (n1 n2 J : Nat) {x y p q v : Int32} {t : Int} (hf : ev_ft cd pc = some (.inl (.if_icmp .gt t))) (h1 : ev_run n1 cd t.toNat ls st = (J, ls, .int p :: st1)) (h2 : ev_run n2 cd (pc + 1) ls st = (J, ls, .int q :: st1)) (hv : (if y < x then p else q) = v) (K : ev_X scr d cd J ls (.int v :: st1) h Q) : ev_X scr d cd pc ls (.int y :: .int x :: st) h Q := by
  refine ex_igt hf (fun c => ex_go n1 h1 ?_) (fun c => ex_go n2 h2 ?_)
  · rw [if_pos c] at hv; rw [hv]; exact K
  · rw [if_neg c] at hv; rw [hv]; exact K
theorem ex_zgtM (n1 n2 J : Nat) {x p q v : Int32} {t : Int} (hf : ev_ft cd pc = some (.inl (.ifCond .gt t))) (h1 : ev_run n1 cd t.toNat ls st = (J, ls, .int p :: st1)) (h2 : ev_run n2 cd (pc + 1) ls st = (J, ls, .int q :: st1)) (hv : (if 0 < x then p else q) = v) (K : ev_X scr d cd J ls (.int v :: st1) h Q) : ev_X scr d cd pc ls (.int x :: st) h Q := by
  refine ex_zgt hf (fun c => ex_go n1 h1 ?_) (fun c => ex_go n2 h2 ?_)
  · rw [if_pos c] at hv; rw [hv]; exact K
  · rw [if_neg c] at hv; rw [hv]; exact K
theorem ex_ileM (n1 n2 J : Nat) {x y p q v : Int32} {t : Int} (hf : ev_ft cd pc = some (.inl (.if_icmp .le t))) (h1 : ev_run n1 cd t.toNat ls st = (J, ls, .int p :: st1)) (h2 : ev_run n2 cd (pc + 1) ls st = (J, ls, .int q :: st1)) (hv : (if x ≤ y then p else q) = v) (K : ev_X scr d cd J ls (.int v :: st1) h Q) : ev_X scr d cd pc ls (.int y :: .int x :: st) h Q := by
  refine ex_ile hf (fun c => ex_go n1 h1 ?_) (fun c => ex_go n2 h2 ?_)
  · rw [if_pos c] at hv; rw [hv]; exact K
  · rw [if_neg c] at hv; rw [hv]; exact K
theorem ex_zleM (n1 n2 J : Nat) {x p q v : Int32} {t : Int} (hf : ev_ft cd pc = some (.inl (.ifCond .le t))) (h1 : ev_run n1 cd t.toNat ls st = (J, ls, .int p :: st1)) (h2 : ev_run n2 cd (pc + 1) ls st = (J, ls, .int q :: st1)) (hv : (if x ≤ 0 then p else q) = v) (K : ev_X scr d cd J ls (.int v :: st1) h Q) : ev_X scr d cd pc ls (.int x :: st) h Q := by
  refine ex_zle hf (fun c => ex_go n1 h1 ?_) (fun c => ex_go n2 h2 ?_)
  · rw [if_pos c] at hv; rw [hv]; exact K
  · rw [if_neg c] at hv; rw [hv]; exact K
end EXM
end
section
/-! The town, as a picture: n men, and f laid out by fives. -/
def tv (t : Nat) : Int32 := if t < 4 then nI t else -4
theorem tv_eq {x t : Nat} (ht : t < 4) : tv x = nI t ↔ x = t := by
  unfold tv
  by_cases hx : x < 4
  · rw [if_pos hx, nI_eq (by omega) (by omega)]
  · rw [if_neg hx]
    constructor
    · intro q
      have : ∀ t, t < 4 → (-4 : Int32) ≠ nI t := by decide
      exact absurd q (this t ht)
    · intro q; omega
theorem tv_lt {t : Nat} (ht : t < 4) : tv t = nI t := if_pos ht
theorem tv_neg (t : Nat) : tv t < 0 ↔ ¬ t < 4 := by
  unfold tv
  by_cases ht : t < 4
  · rw [if_pos ht]
    exact ⟨fun q => absurd q (nI_pos (by omega)), fun q => absurd ht q⟩
  · rw [if_neg ht]
    exact ⟨fun _ => ht, fun _ => by decide⟩
theorem tv_inj {x y : Nat} (hx : x ≤ 4) (hy : y ≤ 4) : tv x = tv y ↔ x = y := by
  have : ∀ x, x < 5 → ∀ y, y < 5 → (tv x = tv y ↔ x = y) := by decide
  exact this x (by omega) y (by omega)
theorem tv_m4 {x : Nat} (hx : x ≤ 4) : tv x = -4 ↔ x = 4 := by
  have : ∀ x, x < 5 → (tv x = -4 ↔ x = 4) := by decide
  exact this x (by omega)
def TA (h : ev_H) (a n : Nat) (f : Nat → Nat) : Prop :=
  h[a]? = some (.inr (4, [.int (nI n), .int (nI (f 41)), .int (nI (f 42)), .int (nI (f 43)), .int (nI (f 40)), .int (nI (f 44)), .ref (a + 1), .ref (a + 2), .ref (a + 3), .ref (a + 4), .ref (a + 5), .ref (a + 6), .ref (a + 7), .ref (a + 8)])) ∧
  IA h (a + 1) 8 (fun m => m < n) (fun m => nI (f (5 * m))) ∧
  IA h (a + 2) 8 (fun m => m < n) (fun m => nI (f (5 * m + 1))) ∧
  IA h (a + 3) 8 (fun m => m < n) (fun m => nI (f (5 * m + 2))) ∧
  IA h (a + 4) 8 (fun m => m < n) (fun m => tv (f (5 * m + 3))) ∧
  IA h (a + 5) 8 (fun _ => True) (fun m => nI (f (5 * m + 4))) ∧
  IA h (a + 6) 4 (fun _ => True) (fun t => nI (f (60 + t))) ∧
  IA h (a + 7) 6 (fun k => k < f 44) (fun k => nI (f (45 + 2 * k))) ∧
  IA h (a + 8) 6 (fun k => k < f 44) (fun k => nI (f (46 + 2 * k)))
/-- is it the number of a man -/
def isM (n : Nat) (m : Int32) : Bool := decide (0 ≤ m.toInt) && decide (m.toInt < n)
theorem isM_of {n : Nat} {m : Int32} (h : isM n m = true) (hn : n < 2 ^ 31) : ∃ j, j < n ∧ m = nI j := by
  simp only [isM, Bool.and_eq_true, decide_eq_true_eq] at h
  exact vp_in_of (vp_in_iff.mpr h) hn
theorem isM_nI {n j : Nat} (h : j < n) (hn : n < 2 ^ 31) : isM n (nI j) = true := by
  simp only [isM, Bool.and_eq_true, decide_eq_true_eq, nI_toInt (show j < 2 ^ 31 by omega)]
  omega
theorem isM_lo {n : Nat} {m : Int32} (h : m < 0) : isM n m = false := by
  have : m.toInt < 0 := by simpa using Int32.lt_iff_toInt_lt.mp h
  simp only [isM, Bool.and_eq_false_iff, decide_eq_false_iff_not]
  left; omega
theorem isM_hi {n : Nat} {m : Int32} (hn : n < 2 ^ 31) (h : nI n ≤ m) : isM n m = false := by
  have := Int32.le_iff_toInt_le.mp h
  rw [nI_toInt hn] at this
  simp only [isM, Bool.and_eq_false_iff, decide_eq_false_iff_not]
  right; omega
theorem isM_in {n : Nat} {m : Int32} (hn : n < 2 ^ 31) (h0 : ¬ m < 0) (h : ¬ nI n ≤ m) : isM n m = true := by
  have h1 : ¬ m.toInt < 0 := fun q => h0 (by rw [Int32.lt_iff_toInt_lt]; simpa using q)
  have h2 : ¬ (n : Int) ≤ m.toInt := fun q => h (by rw [Int32.le_iff_toInt_le, nI_toInt hn]; exact q)
  simp only [isM, Bool.and_eq_true, decide_eq_true_eq]
  omega
section TOWN
variable {scr : List Int32} {d : Nat} {h : ev_H} {a n : Nat} {f : Nat → Nat}
theorem c_bitOf {x i : Nat} (hx : x < 2 ^ 31) (hi : i < 31) : ev_V scr d cd_X5_bitOf 0 [.int (nI x), .int (nI i)] [] h (some (.int (nI (tb_b (x.testBit i)))), h) := by
  refine ev_go 80 rfl ?_
  rw [← tb_bit hx i hi]
  exact ev_iret rfl
theorem c_withBit {x i : Nat} (b : Bool) (hi : i < 31) : ev_V scr d cd_X5_withBit 0 [.int (nI x), .int (nI i), .int (nI (tb_b b))] [] h (some (.int (nI (if b = true then x ||| 2 ^ i else tb_wo x (2 ^ i)))), h) := by
  refine ev_go 80 rfl ?_
  refine ev_zeq rfl (fun hc => ?_) (fun hc => ?_)
  · refine ev_go 80 rfl ?_
    dsimp only
    rw [tb_b0] at hc
    rw [hc, tb_sh1 i hi, tb_andn]
    exact ev_iret rfl
  · refine ev_go 80 rfl ?_
    dsimp only
    have hc : b = true := by
      cases b
      · exact absurd ((tb_b0 false).mpr rfl) hc
      · rfl
    rw [hc, tb_sh1 i hi, tb_or]
    exact ev_iret rfl
theorem c_isTen {t : Int32} : ev_V scr d cd_X5_isTen 0 [.int t] [] h (some (.int (nI (tb_b (isM 4 t)))), h) := by
  refine ev_go 80 rfl ?_
  refine ev_zlt rfl (fun hc => ?_) (fun hc => ?_)
  · refine ev_go 80 rfl ?_
    rw [isM_lo hc]
    exact ev_tret rfl rfl
  · have h0 := hc
    refine ev_go 80 rfl ?_
    refine ev_ige rfl (fun hc => ?_) (fun hc => ?_)
    · refine ev_go 80 rfl ?_
      rw [isM_hi (by decide) hc]
      exact ev_tret rfl rfl
    · refine ev_go 80 rfl ?_
      rw [isM_in (by decide) h0 hc]
      exact ev_tret rfl rfl
theorem c_isWithin {v : Int32} {k : Nat} (hk : k < 1000) : ev_V scr d cd_X5_isWithin 0 [.int v, .int (nI k)] [] h (some (.int (nI (tb_b (isM (k + 1) v)))), h) := by
  refine ev_go 80 rfl ?_
  refine ev_zlt rfl (fun hc => ?_) (fun hc => ?_)
  · refine ev_go 80 rfl ?_
    rw [isM_lo hc]
    exact ev_tret rfl rfl
  · have h0 := hc
    refine ev_go 80 rfl ?_
    refine ev_igt rfl (fun hc => ?_) (fun hc => ?_)
    · refine ev_go 80 rfl ?_
      rw [isM_hi (by omega) (by
        rw [Int32.le_iff_toInt_le, nI_toInt (by omega)]
        have := Int32.lt_iff_toInt_lt.mp hc
        rw [nI_toInt (by omega)] at this
        omega)]
      exact ev_tret rfl rfl
    · refine ev_go 80 rfl ?_
      rw [isM_in (by omega) h0 (fun q => hc (by
        rw [Int32.lt_iff_toInt_lt, nI_toInt (by omega)]
        have := Int32.le_iff_toInt_le.mp q
        rw [nI_toInt (by omega)] at this
        omega))]
      exact ev_tret rfl rfl
theorem c_hasMan (hT : TA h a n f) (hn : n ≤ 8) {m : Int32} : ev_V scr d cd_X4_hasMan 0 [.ref a, .int m] [] h (some (.int (nI (tb_b (isM n m)))), h) := by
  obtain ⟨hO, -⟩ := hT
  refine ev_go 80 rfl ?_
  refine ev_zlt rfl (fun hc => ?_) (fun hc => ?_)
  · refine ev_go 80 rfl ?_
    rw [isM_lo hc]
    exact ev_tret rfl rfl
  · have h0 := hc
    refine ev_go 80 rfl ?_
    refine ev_getf rfl hO rfl rfl ?_
    refine ev_ige rfl (fun hc => ?_) (fun hc => ?_)
    · refine ev_go 80 rfl ?_
      rw [isM_hi (by omega) hc]
      exact ev_tret rfl rfl
    · refine ev_go 80 rfl ?_
      rw [isM_in (by omega) h0 hc]
      exact ev_tret rfl rfl
theorem c_allMen (hT : TA h a n f) (hn : n ≤ 8) : ev_V scr d cd_X4_allMen 0 [.ref a] [] h (some (.int (nI (2 ^ n - 1))), h) := by
  obtain ⟨hO, -⟩ := hT
  refine ev_go 80 rfl ?_
  refine ev_getf rfl hO rfl rfl ?_
  refine ev_go 80 rfl ?_
  dsimp only
  rw [tb_sh1 n (by omega), show (1 : Int32) = nI 1 from rfl, pk_sub Nat.one_le_two_pow]
  exact ev_iret rfl
theorem c_menOfKind (hT : TA h a n f) (hn : n ≤ 8) {k : Nat} (hk : k < 4) (hf : ∀ m, m < n → f (5 * m) ≤ 3) : ev_V scr d cd_X4_menOfKind 0 [.ref a, .int (nI k), .float 0, .float 0] [] h (some (.int (nI (bs (fun m => decide (f (5 * m) = k)) n))), h) := by
  obtain ⟨hO, hK, -⟩ := hT
  refine ev_go 80 rfl ?_
  refine ev_loop n (fun i => ev_V scr d cd_X4_menOfKind 4 [.ref a, .int (nI k), .int (nI (bs (fun m => decide (f (5 * m) = k)) i)), .int (nI i)] [] h _) (fun i hi K => ?_) ?_
  · refine ev_nop rfl ?_
    refine ev_go 80 rfl ?_
    refine ev_getf rfl hO rfl rfl ?_
    refine ev_ige rfl (fun hc => ?_) (fun hc => ?_)
    · exact absurd hc (nI_ge hi (by omega))
    · refine ev_go 80 rfl ?_
      refine ev_getf rfl hO rfl rfl ?_
      refine ev_go 80 rfl ?_
      refine ev_ia (i) rfl hK rfl hi (by omega) (by omega) rfl ?_
      refine ev_go 80 rfl ?_
      refine ev_ine rfl (fun hc => ?_) (fun hc => ?_)
      · refine ev_go 80 rfl ?_
        rw [nI_inc]
        have hp : decide (f (5 * i) = k) = false := decide_eq_false (fun q => hc (by rw [q]))
        rw [bs_stay _ hp] at K
        exact K
      · refine ev_go 80 rfl ?_
        dsimp only
        have hp : decide (f (5 * i) = k) = true := decide_eq_true ((nI_eq (by have := hf i hi; omega) (by omega)).mp hc)
        rw [nI_inc, bs_step (fun m => decide (f (5 * m) = k)) (by omega) hp]
        exact K
  · refine ev_nop rfl ?_
    refine ev_go 80 rfl ?_
    refine ev_getf rfl hO rfl rfl ?_
    refine ev_ige rfl (fun hc => ?_) (fun hc => ?_)
    · refine ev_go 80 rfl ?_
      exact ev_iret rfl
    · exact absurd (nI_le (Nat.le_refl n) (by omega)) hc
theorem c_menOfTen (hT : TA h a n f) (hn : n ≤ 8) {t : Nat} (ht : t < 4) : ev_V scr d cd_X4_menOfTen 0 [.ref a, .int (nI t), .float 0, .float 0] [] h (some (.int (nI (bs (fun m => decide (f (5 * m + 3) = t)) n))), h) := by
  obtain ⟨hO, -, -, -, hT, -⟩ := hT
  refine ev_go 80 rfl ?_
  refine ev_loop n (fun i => ev_V scr d cd_X4_menOfTen 4 [.ref a, .int (nI t), .int (nI (bs (fun m => decide (f (5 * m + 3) = t)) i)), .int (nI i)] [] h _) (fun i hi K => ?_) ?_
  · refine ev_nop rfl ?_
    refine ev_go 80 rfl ?_
    refine ev_getf rfl hO rfl rfl ?_
    refine ev_ige rfl (fun hc => ?_) (fun hc => ?_)
    · exact absurd hc (nI_ge hi (by omega))
    · refine ev_go 80 rfl ?_
      refine ev_getf rfl hO rfl rfl ?_
      refine ev_go 80 rfl ?_
      refine ev_ia (i) rfl hT rfl hi (by omega) (by omega) rfl ?_
      refine ev_go 80 rfl ?_
      refine ev_ine rfl (fun hc => ?_) (fun hc => ?_)
      · refine ev_go 80 rfl ?_
        rw [nI_inc]
        have hp : decide (f (5 * i + 3) = t) = false := decide_eq_false (fun q => hc ((tv_eq ht).mpr q))
        rw [bs_stay _ hp] at K
        exact K
      · refine ev_go 80 rfl ?_
        dsimp only
        have hp : decide (f (5 * i + 3) = t) = true := decide_eq_true ((tv_eq ht).mp hc)
        rw [nI_inc, bs_step (fun m => decide (f (5 * m + 3) = t)) (by omega) hp]
        exact K
  · refine ev_nop rfl ?_
    refine ev_go 80 rfl ?_
    refine ev_getf rfl hO rfl rfl ?_
    refine ev_ige rfl (fun hc => ?_) (fun hc => ?_)
    · refine ev_go 80 rfl ?_
      exact ev_iret rfl
    · exact absurd (nI_le (Nat.le_refl n) (by omega)) hc
def bcI (x0 : Int32) : Int32 :=
  let x1 := x0 - ((x0.toUInt32 >>> ((1 : Int32).toUInt32 &&& Int32.toUInt32 31)).toInt32 &&& 1431655765)
  let x2 := (x1 &&& 858993459) + ((x1.toUInt32 >>> ((2 : Int32).toUInt32 &&& Int32.toUInt32 31)).toInt32 &&& 858993459)
  let x3 := (x2 + (x2.toUInt32 >>> ((4 : Int32).toUInt32 &&& Int32.toUInt32 31)).toInt32) &&& 252645135
  let x4 := x3 + (x3.toUInt32 >>> ((8 : Int32).toUInt32 &&& Int32.toUInt32 31)).toInt32
  let x5 := x4 + (x4.toUInt32 >>> ((16 : Int32).toUInt32 &&& Int32.toUInt32 31)).toInt32
  x5 &&& 63
theorem bcI_ok : ∀ x, x < 256 → bcI (nI x) = nI (pc8 x) := by decide +kernel
theorem c_bitCount {x : Nat} (hx : x < 256) : ev_V scr d cd_J6_bitCount_0f7a4 0 [.int (nI x)] [] h (some (.int (nI (pc8 x))), h) := by
  refine ev_go 80 rfl ?_
  rw [← bcI_ok x hx]
  exact ev_iret rfl
theorem c_min {x y : Int32} : ev_V scr d cd_J9_min_7cf53 0 [.int x, .int y] [] h (some (.int (if y < x then y else x)), h) := by
  refine ev_go 80 rfl ?_
  refine ev_igt rfl (fun hc => ?_) (fun hc => ?_)
  · refine ev_go 80 rfl ?_
    rw [if_pos hc]
    exact ev_iret rfl
  · refine ev_go 80 rfl ?_
    rw [if_neg hc]
    exact ev_iret rfl
theorem bs_256 (p : Nat → Bool) {n : Nat} (hn : n ≤ 8) : bs p n < 256 := Nat.lt_of_lt_of_le (bs_lt p n) (Nat.pow_le_pow_right (by decide) hn)
theorem c_sizeOfTen (hT : TA h a n f) (hn : n ≤ 8) {t : Nat} (ht : t < 4) (hd : 1 ≤ d) : ev_V scr d cd_X4_sizeOfTen 0 [.ref a, .int (nI t)] [] h (some (.int (nI (pc8 (bs (fun m => decide (f (5 * m + 3) = t)) n)))), h) := by
  refine ev_go 80 rfl ?_
  refine ev_cv rfl rfl rfl rfl hT.1 rfl (d' := 0) (by omega) (c_menOfTen hT hn ht) ?_
  refine ev_cs rfl rfl rfl (d' := 0) (by omega) (c_bitCount (bs_256 _ hn)) ?_
  refine ev_go 80 rfl ?_
  exact ev_iret rfl
end TOWN
end
section
/-! Odds, harm. -/
theorem sm_ext0 (g : Nat → Nat) (n : Nat) : ∀ k, n ≤ k → sm (fun i => if i < n then g i else 0) k = sm g n
  | 0, h => by rw [Nat.le_zero.mp h]; rfl
  | k + 1, h => by
    by_cases e : n = k + 1
    · rw [e]
      exact sm_cong (fun i hi => if_pos hi)
    · rw [sm, sm_ext0 g n k (by omega), if_neg (by omega), Nat.add_zero]
theorem pc8_of {y n : Nat} {q : Nat → Bool} (hn : n ≤ 8) (h : ∀ i, i < 8 → y.testBit i = (decide (i < n) && q i)) : pc8 y = sm (fun i => tb_b (q i)) n := by
  unfold pc8
  rw [← sm_ext0 _ n 8 hn]
  refine sm_cong (fun i hi => ?_)
  rw [h i hi]
  by_cases hin : i < n
  · simp [hin]
  · simp [hin, tb_b]
theorem pc8_bs (p : Nat → Bool) {n : Nat} (hn : n ≤ 8) : pc8 (bs p n) = sm (fun i => tb_b (p i)) n := pc8_of hn (fun i _ => bs_bit p n i)
theorem pc8_bsa (p : Nat → Bool) {n : Nat} (x : Nat) (hn : n ≤ 8) : pc8 (bs p n &&& x) = sm (fun i => tb_b (p i && x.testBit i)) n := pc8_of hn (fun i _ => by rw [Nat.testBit_and, bs_bit, Bool.and_assoc])
theorem tb_le (b : Bool) : tb_b b ≤ 1 := by cases b <;> decide
theorem and256 {x y : Nat} (hx : x < 256) : x &&& y < 256 := Nat.lt_of_le_of_lt Nat.and_le_left hx
/-- a town as it should be -/
def GD (n : Nat) (f : Nat → Nat) : Prop := n ≤ 8 ∧ (∀ m, m < n → f (5 * m) ≤ 3 ∧ f (5 * m + 1) ≤ 9 ∧ f (5 * m + 2) ≤ 99 ∧ f (5 * m + 3) ≤ 4 ∧ (f (5 * m) = 3 ↔ f (5 * m + 3) = 4) ∧ ((f 40).testBit m = true → f (5 * m + 3) < 4)) ∧ f 40 < 2 ^ n ∧ f 41 ≤ 99 ∧ f 42 ≤ 9 ∧ (∀ m, m < 8 → f (5 * m + 4) < 256) ∧ f 43 ≤ 99 ∧ f 44 ≤ 6 ∧ (∀ k, k < f 44 → f (45 + 2 * k) < n ∧ f (46 + 2 * k) ≤ 99) ∧ (∀ t, t < 4 → 1 ≤ f (60 + t) ∧ f (60 + t) ≤ 5)
theorem GD.w {n : Nat} {f : Nat → Nat} (g : GD n f) : f 40 < 256 := Nat.lt_of_lt_of_le g.2.2.1 (Nat.pow_le_pow_right (by decide) g.1)
/-- how many other quarrelsome ones in his ten -/
def oth (n : Nat) (f : Nat → Nat) (m : Nat) : Nat := sm (fun j => tb_b (decide (j ≠ m) && (decide (f (5 * j + 3) = f (5 * m + 3)) && decide (f (5 * j) = 1)))) n
theorem sm_one {g g' : Nat → Nat} {m : Nat} : ∀ {n : Nat}, m < n → (∀ j, j < n → j ≠ m → g j = g' j) → sm g n + g' m = sm g' n + g m
  | 0, h, _ => absurd h (Nat.not_lt_zero m)
  | n + 1, h, hg => by
    rw [sm, sm]
    by_cases e : m = n
    · subst e
      rw [sm_cong (g := g) (g' := g') (fun i hi => hg i (by omega) (by omega))]
      omega
    · have := sm_one (g := g) (g' := g') (n := n) (by omega) (fun j hj hm => hg j (by omega) hm)
      rw [hg n (by omega) (Ne.symm e)]
      omega
theorem oth_one {n : Nat} {f : Nat → Nat} {m : Nat} (hm : m < n) (hq : f (5 * m) = 1) : sm (fun j => tb_b (decide (f (5 * j + 3) = f (5 * m + 3)) && decide (f (5 * j) = 1))) n = oth n f m + 1 := by
  have h := sm_one (g := fun j => tb_b (decide (f (5 * j + 3) = f (5 * m + 3)) && decide (f (5 * j) = 1))) (g' := fun j => tb_b (decide (j ≠ m) && (decide (f (5 * j + 3) = f (5 * m + 3)) && decide (f (5 * j) = 1)))) hm (fun j _ hj => by simp [hj])
  have e1 : tb_b (decide (m ≠ m) && (decide (f (5 * m + 3) = f (5 * m + 3)) && decide (f (5 * m) = 1))) = 0 := by simp [tb_b]
  have e2 : tb_b (decide (f (5 * m + 3) = f (5 * m + 3)) && decide (f (5 * m) = 1)) = 1 := by simp [tb_b, hq]
  rw [e1, e2, Nat.add_zero] at h
  exact h
theorem oth_le (n : Nat) (f : Nat → Nat) (m : Nat) : oth n f m ≤ n := by
  have := sm_le (g := fun j => tb_b (decide (j ≠ m) && (decide (f (5 * j + 3) = f (5 * m + 3)) && decide (f (5 * j) = 1)))) (c := 1) (n := n) (fun i _ => tb_le _)
  unfold oth
  omega
def hv (b : Bool) (x : Nat) : Nat := if b = true then x / 2 else x
/-- odds of m with k others, watched or not -/
def oda (f : Nat → Nat) (m k : Nat) (b : Bool) : Nat := if f (5 * m) = 2 then 0 else min 9 (hv b (f (5 * m + 1) + (if f (5 * m) = 1 then k else 0)))
def odw (n : Nat) (f : Nat → Nat) (m : Nat) (b : Bool) : Nat := oda f m (oth n f m) b
def od (n : Nat) (f : Nat → Nat) (m : Nat) : Nat := odw n f m ((f 40).testBit m)
theorem oda_le (f : Nat → Nat) (m k : Nat) (b : Bool) : oda f m k b ≤ 9 := by
  unfold oda
  split
  · omega
  · exact Nat.min_le_left _ _
theorem od_le (n : Nat) (f : Nat → Nat) (m : Nat) : od n f m ≤ 9 := oda_le _ _ _ _
theorem nI_min (x : Nat) (hx : x < 1000) : (if nI 9 < nI x then nI 9 else nI x) = nI (min 9 x) := by
  by_cases h : 9 < x
  · rw [if_pos (nI_lt h (by omega)), Nat.min_eq_left (by omega)]
  · rw [if_neg (nI_nlt (by omega) (by omega)), Nat.min_eq_right (by omega)]
section ODDS
variable {scr : List Int32} {d : Nat} {h : ev_H} {a n : Nat} {f : Nat → Nat}
theorem c_oddsAmong (hT : TA h a n f) (g : GD n f) {m : Nat} (hm : m < n) {k : Nat} (hk : k < 100) (b : Bool) (hd : 1 ≤ d) : ev_V scr d cd_X4_oddsAmong 0 [.ref a, .int (nI m), .int (nI k), .int (nI (tb_b b)), .float 0] [] h (some (.int (nI (oda f m k b))), h) := by
  obtain ⟨hO, hK, hOd, -⟩ := hT
  obtain ⟨hn, hm4, -⟩ := g
  obtain ⟨g1, g2, -⟩ := hm4 m hm
  have tail : ∀ x : Nat, x < 500 → oda f m k b = min 9 (hv b x) → ∀ v4 : Value, v4 = .int (nI x) → ev_V scr d cd_X4_oddsAmong 27 [.ref a, .int (nI m), .int (nI k), .int (nI (tb_b b)), v4] [.int (nI (tb_b b))] h (some (.int (nI (oda f m k b))), h) := by
    intro x hx ho v4 hv4
    subst hv4
    refine ev_zeq rfl (fun hc => ?_) (fun hc => ?_)
    · rw [tb_b0] at hc
      refine ev_go 80 rfl ?_
      refine ev_cs rfl rfl rfl (d' := 0) (by omega) c_min ?_
      refine ev_go 80 rfl ?_
      rw [ho, hc]
      show ev_V _ _ _ _ _ [.int (if nI 9 < nI x then nI 9 else nI x)] _ _
      rw [nI_min x (by omega)]
      exact ev_iret rfl
    · have hb : b = true := by
        cases b
        · exact absurd ((tb_b0 false).mpr rfl) hc
        · rfl
      refine ev_go 80 rfl ?_
      refine ev_idiv (v := nI (x / 2)) rfl (by decide) (pk_div (d := 2) (by omega) (by decide) (by decide)) ?_
      refine ev_go 80 rfl ?_
      refine ev_cs rfl rfl rfl (d' := 0) (by omega) c_min ?_
      refine ev_go 80 rfl ?_
      rw [ho, hb]
      show ev_V _ _ _ _ _ [.int (if nI 9 < nI (x / 2) then nI 9 else nI (x / 2))] _ _
      rw [nI_min (x / 2) (by omega)]
      exact ev_iret rfl
  refine ev_go 80 rfl ?_
  refine ev_getf rfl hO rfl rfl ?_
  refine ev_go 80 rfl ?_
  refine ev_ia (m) rfl hK rfl hm (by omega) (by omega) rfl ?_
  refine ev_go 80 rfl ?_
  refine ev_ine rfl (fun hc => ?_) (fun hc => ?_)
  · have h2 : ¬ f (5 * m) = 2 := fun q => hc (by rw [q]; rfl)
    refine ev_go 80 rfl ?_
    refine ev_getf rfl hO rfl rfl ?_
    refine ev_go 80 rfl ?_
    refine ev_ia (m) rfl hK rfl hm (by omega) (by omega) rfl ?_
    refine ev_go 80 rfl ?_
    refine ev_ine rfl (fun hc => ?_) (fun hc => ?_)
    · have h1 : ¬ f (5 * m) = 1 := fun q => hc (by rw [q]; rfl)
      refine ev_go 80 rfl ?_
      refine ev_getf rfl hO rfl rfl ?_
      refine ev_go 80 rfl ?_
      refine ev_ia (m) rfl hOd rfl hm (by omega) (by omega) rfl ?_
      refine ev_go 80 rfl ?_
      refine tail (f (5 * m + 1)) (by omega) ?_ _ rfl
      unfold oda
      rw [if_neg h2, if_neg h1, Nat.add_zero]
    · have h1 : f (5 * m) = 1 := (nI_eq (b := 1) (by omega) (by decide)).mp hc
      refine ev_go 80 rfl ?_
      refine ev_getf rfl hO rfl rfl ?_
      refine ev_go 80 rfl ?_
      refine ev_ia (m) rfl hOd rfl hm (by omega) (by omega) rfl ?_
      refine ev_go 80 rfl ?_
      dsimp only
      refine tail (f (5 * m + 1) + k) (by omega) ?_ _ (by rw [← nI_add])
      unfold oda
      rw [if_neg h2, if_pos h1]
  · have h2 : f (5 * m) = 2 := (nI_eq (b := 2) (by omega) (by decide)).mp hc
    refine ev_go 80 rfl ?_
    have e : oda f m k b = 0 := by unfold oda; rw [if_pos h2]
    rw [e]
    exact ev_iret rfl
theorem c_oddsIfWatched (hT : TA h a n f) (g : GD n f) {m : Nat} (hm : m < n) (b : Bool) (hd : 2 ≤ d) : ev_V scr d cd_X4_oddsIfWatched 0 [.ref a, .int (nI m), .int (nI (tb_b b)), .float 0] [] h (some (.int (nI (odw n f m b))), h) := by
  have hn := g.1
  obtain ⟨g1, g2, g3, g4, g5, g6⟩ := g.2.1 m hm
  refine ev_go 80 rfl ?_
  refine ev_getf rfl hT.1 rfl rfl ?_
  refine ev_go 80 rfl ?_
  refine ev_ia (m) rfl hT.2.1 rfl hm (by omega) (by omega) rfl ?_
  refine ev_go 80 rfl ?_
  refine ev_ieq rfl (fun hc => ?_) (fun hc => ?_)
  · have h1 : f (5 * m) = 1 := (nI_eq (b := 1) (by omega) (by decide)).mp hc
    have ht : f (5 * m + 3) < 4 := by omega
    refine ev_go 80 rfl ?_
    refine ev_getf rfl hT.1 rfl rfl ?_
    refine ev_go 80 rfl ?_
    refine ev_ia (m) rfl hT.2.2.2.2.1 rfl hm (by omega) (by omega) (tv_lt ht) ?_
    refine ev_cv rfl rfl rfl rfl hT.1 rfl (d' := 0) (by omega) (c_menOfTen hT hn ht) ?_
    refine ev_go 80 rfl ?_
    refine ev_cv rfl rfl rfl rfl hT.1 rfl (d' := 0) (by omega) (c_menOfKind (k := 1) hT hn (by decide) (fun j hj => (g.2.1 j hj).1)) ?_
    refine ev_go 80 rfl ?_
    dsimp only
    rw [tb_and]
    refine ev_cs rfl rfl rfl (d' := 0) (by omega) (c_bitCount (and256 (bs_256 _ hn))) ?_
    rw [pc8_bsa _ _ hn]
    have e1 : sm (fun i => tb_b (decide (f (5 * i + 3) = f (5 * m + 3)) && (bs (fun m => decide (f (5 * m) = 1)) n).testBit i)) n = oth n f m + 1 := by
      rw [← oth_one hm h1]
      refine sm_cong (fun i hi => ?_)
      rw [bs_bit]
      simp [hi]
    rw [e1]
    refine ev_go 80 rfl ?_
    dsimp only
    rw [show (1 : Int32) = nI 1 from rfl, pk_sub (by omega), Nat.add_sub_cancel]
    have ho := oth_le n f m
    refine ev_cv rfl rfl rfl rfl hT.1 rfl (d' := 1) (by omega) (c_oddsAmong hT g hm (by omega) b (by omega)) ?_
    exact ev_iret rfl
  · refine ev_go 80 rfl ?_
    refine ev_cv rfl rfl rfl rfl hT.1 rfl (d' := 1) (by omega) (c_oddsAmong (k := 0) hT g hm (by omega) b (by omega)) ?_
    have e : oda f m 0 b = odw n f m b := by
      unfold odw oda
      have h1 : ¬ f (5 * m) = 1 := fun q => hc (by rw [q]; rfl)
      rw [if_neg h1, if_neg h1]
    rw [e]
    exact ev_iret rfl
theorem c_oddsInTen (hT : TA h a n f) (g : GD n f) {m : Nat} (hm : m < n) (hd : 3 ≤ d) : ev_V scr d cd_X4_oddsInTen 0 [.ref a, .int (nI m)] [] h (some (.int (nI (od n f m))), h) := by
  have hn := g.1
  have hw := g.w
  refine ev_go 80 rfl ?_
  refine ev_getf rfl hT.1 rfl rfl ?_
  refine ev_go 80 rfl ?_
  refine ev_cs rfl rfl rfl (d' := 0) (by omega) (c_bitOf (by omega) (by omega)) ?_
  refine ev_zeq rfl (fun hc => ?_) (fun hc => ?_)
  · rw [tb_b0] at hc
    refine ev_go 80 rfl ?_
    refine ev_cv rfl rfl rfl rfl hT.1 rfl (d' := 2) (by omega) (c_oddsIfWatched hT g hm false (by omega)) ?_
    unfold od
    rw [hc]
    exact ev_iret rfl
  · have hb : (f 40).testBit m = true := by
      cases hb : (f 40).testBit m
      · rw [hb] at hc; exact absurd rfl hc
      · rfl
    refine ev_go 80 rfl ?_
    refine ev_cv rfl rfl rfl rfl hT.1 rfl (d' := 2) (by omega) (c_oddsIfWatched hT g hm true (by omega)) ?_
    unfold od
    rw [hb]
    exact ev_iret rfl
end ODDS
end
section
/-! Harm, stock, tens. -/
theorem sm_s (g : Nat → Nat) (i : Nat) : sm g (i + 1) = sm g i + g i := rfl
theorem li10 : (10 : Int32) = nI 10 := rfl
theorem nI_mul2 (a b : Nat) : nI a * nI b = nI (a * b) := (Int32.ofNat_mul a b).symm
def hmg (n : Nat) (f : Nat → Nat) (t m : Nat) : Nat := if f (5 * m + 3) = t then od n f m else 0
def wct (n : Nat) (f : Nat → Nat) (t : Nat) : Nat := sm (fun m => tb_b (decide (f (5 * m + 3) = t) && (f 40).testBit m)) n
/-- the harm of a ten -/
def hm (n : Nat) (f : Nat → Nat) (t : Nat) : Nat := sm (hmg n f t) n * f 41 + 10 * f 42 * wct n f t
def hwg (f : Nat → Nat) (m : Nat) : Nat := if f (5 * m) = 3 then f (5 * m + 1) * f 41 else 0
/-- the harm of all -/
def ha (n : Nat) (f : Nat → Nat) : Nat := sm (hm n f) 4 + sm (hwg f) n
def gsg (f : Nat → Nat) (x m : Nat) : Nat := if x.testBit m = true then f (5 * m + 2) else 0
def twg (n : Nat) (f : Nat → Nat) (t : Nat) : Nat := if bs (fun m => decide (f (5 * m + 3) = t)) n = 0 then 0 else 1
section HARM
variable {scr : List Int32} {d : Nat} {h : ev_H} {a n : Nat} {f : Nat → Nat}
theorem c_wonByWatch (hT : TA h a n f) (g : GD n f) {m : Nat} (hm : m < n) (hd : 3 ≤ d) : ev_V scr d cd_X4_wonByWatch 0 [.ref a, .int (nI m)] [] h (some (.int (if f (5 * m + 3) < 4 then nI (f 41) * (nI (odw n f m false) - nI (odw n f m true)) else 0)), h) := by
  have hn := g.1
  refine ev_go 80 rfl ?_
  refine ev_getf rfl hT.1 rfl rfl ?_
  refine ev_go 80 rfl ?_
  refine ev_ia _ rfl hT.2.2.2.2.1 rfl (by first | exact trivial | assumption | (show _ < _; omega)) (by omega) (by omega) rfl ?_
  refine ev_zge rfl (fun hc => ?_) (fun hc => ?_)
  · rw [if_pos (Classical.not_not.mp (fun q => absurd hc (Int32.not_le.mpr ((tv_neg _).mpr q))))]
    refine ev_go 80 rfl ?_
    refine ev_getf rfl hT.1 rfl rfl ?_
    refine ev_go 80 rfl ?_
    refine ev_cv rfl rfl rfl rfl hT.1 rfl (d' := 2) (by omega) (c_oddsIfWatched hT g hm false (Nat.le_refl _)) ?_
    refine ev_go 80 rfl ?_
    refine ev_cv rfl rfl rfl rfl hT.1 rfl (d' := 2) (by omega) (c_oddsIfWatched hT g hm true (Nat.le_refl _)) ?_
    refine ev_go 80 rfl ?_
    try dsimp only
    try simp only [nI_inc, nI_1, nI_add, nI_mul2, tb_and, tb_or, tb_andn]
    exact ev_iret rfl
  · rw [if_neg ((tv_neg _).mp (Int32.not_le.mp hc))]
    refine ev_go 80 rfl ?_
    exact ev_iret rfl
theorem c_harmOfTen (hT : TA h a n f) (g : GD n f) {t : Nat} (ht : t < 4) (hd : 4 ≤ d) : ev_V scr d cd_X4_harmOfTen 0 [.ref a, .int (nI t), .float 0, .float 0, .float 0] [] h (some (.int (nI (hm n f t))), h) := by
  have hn := g.1
  have hw := g.w
  refine ev_go 80 rfl ?_
  refine ev_cv rfl rfl rfl rfl hT.1 rfl (d' := 0) (by omega) (c_menOfTen hT hn ht) ?_
  refine ev_go 80 rfl ?_
  refine ev_loop n (fun i => ev_V scr d cd_X4_harmOfTen 8 [.ref a, .int (nI t), .int (nI (bs (fun m => decide (f (5 * m + 3) = t)) n)), .int (nI (sm (hmg n f t) i)), .int (nI i)] [] h _) (fun i hi K => ?_) ?_
  · refine ev_nop rfl ?_
    refine ev_go 80 rfl ?_
    refine ev_getf rfl hT.1 rfl rfl ?_
    refine ev_igeF rfl (nI_ge hi (by first | omega | decide)) ?_
    refine ev_go 80 rfl ?_
    refine ev_cs rfl rfl rfl (d' := 0) (by omega) (c_bitOf (Nat.lt_trans (bs_256 _ hn) (by decide)) (by omega)) ?_
    rw [bs_bit, decide_eq_true hi, Bool.true_and]
    rw [sm_s] at K
    refine ev_zeq rfl (fun hc => ?_) (fun hc => ?_)
    · rw [tb_b0, decide_eq_false_iff_not] at hc
      rw [hmg, if_neg hc, Nat.add_zero] at K
      refine ev_go 80 rfl ?_
      try dsimp only
      try simp only [nI_inc, nI_1, nI_add, nI_mul2, tb_and, tb_or, tb_andn]
      exact K
    · have hp : f (5 * i + 3) = t := Classical.not_not.mp (fun q => hc (by rw [decide_eq_false q]; rfl))
      rw [hmg, if_pos hp] at K
      refine ev_go 80 rfl ?_
      refine ev_cv rfl rfl rfl rfl hT.1 rfl (d' := 3) (by omega) (c_oddsInTen hT g hi (Nat.le_refl _)) ?_
      refine ev_go 80 rfl ?_
      try dsimp only
      try simp only [nI_inc, nI_1, nI_add, nI_mul2, tb_and, tb_or, tb_andn]
      exact K
  · refine ev_nop rfl ?_
    refine ev_go 80 rfl ?_
    refine ev_getf rfl hT.1 rfl rfl ?_
    refine ev_igeT rfl (nI_le (Nat.le_refl _) (by first | omega | decide)) ?_
    refine ev_go 80 rfl ?_
    refine ev_getf rfl hT.1 rfl rfl ?_
    refine ev_go 80 rfl ?_
    try dsimp only
    try simp only [nI_inc, nI_1, nI_add, nI_mul2, tb_and, tb_or, tb_andn]
    refine ev_getf rfl hT.1 rfl rfl ?_
    refine ev_go 80 rfl ?_
    try dsimp only
    try simp only [nI_inc, nI_1, nI_add, nI_mul2, tb_and, tb_or, tb_andn]
    refine ev_getf rfl hT.1 rfl rfl ?_
    refine ev_go 80 rfl ?_
    try dsimp only
    try simp only [nI_inc, nI_1, nI_add, nI_mul2, tb_and, tb_or, tb_andn]
    refine ev_cs rfl rfl rfl (d' := 0) (by omega) (c_bitCount (and256 (bs_256 _ hn))) ?_
    rw [pc8_bsa _ _ hn, li10]
    refine ev_go 80 rfl ?_
    try dsimp only
    try simp only [nI_inc, nI_1, nI_add, nI_mul2, tb_and, tb_or, tb_andn]
    exact ev_iret rfl
theorem c_harmOfAll (hT : TA h a n f) (g : GD n f) (hd : 5 ≤ d) : ev_V scr d cd_X4_harmOfAll 0 [.ref a, .float 0, .float 0] [] h (some (.int (nI (ha n f))), h) := by
  have hn := g.1
  refine ev_go 80 rfl ?_
  refine ev_loop 4 (fun i => ev_V scr d cd_X4_harmOfAll 4 [.ref a, .int (nI (sm (hm n f) i)), .int (nI i)] [] h _) (fun i hi K => ?_) ?_
  · refine ev_nop rfl ?_
    refine ev_go 80 rfl ?_
    refine ev_igeF rfl (nI_ge hi (by first | omega | decide)) ?_
    refine ev_go 80 rfl ?_
    refine ev_cv rfl rfl rfl rfl hT.1 rfl (d' := 4) (by omega) (c_harmOfTen hT g hi (Nat.le_refl _)) ?_
    refine ev_go 80 rfl ?_
    try dsimp only
    try simp only [nI_inc, nI_1, nI_add, nI_mul2, tb_and, tb_or, tb_andn]
    exact K
  · refine ev_nop rfl ?_
    refine ev_go 80 rfl ?_
    refine ev_igeT rfl (nI_le (Nat.le_refl _) (by first | omega | decide)) ?_
    refine ev_go 80 rfl ?_
    refine ev_loop n (fun i => ev_V scr d cd_X4_harmOfAll 18 [.ref a, .int (nI (sm (hm n f) 4 + sm (hwg f) i)), .int (nI i)] [] h _) (fun i hi K => ?_) ?_
    · refine ev_nop rfl ?_
      refine ev_go 80 rfl ?_
      refine ev_getf rfl hT.1 rfl rfl ?_
      refine ev_igeF rfl (nI_ge hi (by first | omega | decide)) ?_
      rw [sm_s (hwg f)] at K
      have gi := (g.2.1 i hi).1
      refine ev_go 80 rfl ?_
      refine ev_getf rfl hT.1 rfl rfl ?_
      refine ev_go 80 rfl ?_
      refine ev_ia _ rfl hT.2.1 rfl (by first | exact trivial | assumption | (show _ < _; omega)) (by omega) (by omega) rfl ?_
      refine ev_go 80 rfl ?_
      refine ev_ine rfl (fun hc => ?_) (fun hc => ?_)
      · rw [hwg, if_neg (fun q => hc (by rw [q]; rfl)), Nat.add_zero] at K
        refine ev_go 80 rfl ?_
        try dsimp only
        try simp only [nI_inc, nI_1, nI_add, nI_mul2, tb_and, tb_or, tb_andn]
        exact K
      · rw [hwg, if_pos ((nI_eq (b := 3) (by omega) (by decide)).mp hc), ← Nat.add_assoc] at K
        refine ev_go 80 rfl ?_
        refine ev_getf rfl hT.1 rfl rfl ?_
        refine ev_go 80 rfl ?_
        refine ev_ia _ rfl hT.2.2.1 rfl (by first | exact trivial | assumption | (show _ < _; omega)) (by omega) (by omega) rfl ?_
        refine ev_go 80 rfl ?_
        refine ev_getf rfl hT.1 rfl rfl ?_
        refine ev_go 80 rfl ?_
        try dsimp only
        try simp only [nI_inc, nI_1, nI_add, nI_mul2, tb_and, tb_or, tb_andn]
        exact K
    · refine ev_nop rfl ?_
      refine ev_go 80 rfl ?_
      refine ev_getf rfl hT.1 rfl rfl ?_
      refine ev_igeT rfl (nI_le (Nat.le_refl _) (by first | omega | decide)) ?_
      refine ev_go 80 rfl ?_
      exact ev_iret rfl
theorem c_stockOf (hT : TA h a n f) (hn : n ≤ 8) {x : Nat} (hx : x < 2 ^ 31) (hd : 1 ≤ d) : ev_V scr d cd_X4_stockOf 0 [.ref a, .int (nI x), .float 0, .float 0] [] h (some (.int (nI (sm (gsg f x) n))), h) := by
  refine ev_go 80 rfl ?_
  refine ev_loop n (fun i => ev_V scr d cd_X4_stockOf 4 [.ref a, .int (nI x), .int (nI (sm (gsg f x) i)), .int (nI i)] [] h _) (fun i hi K => ?_) ?_
  · refine ev_nop rfl ?_
    refine ev_go 80 rfl ?_
    refine ev_getf rfl hT.1 rfl rfl ?_
    refine ev_igeF rfl (nI_ge hi (by first | omega | decide)) ?_
    refine ev_go 80 rfl ?_
    refine ev_cs rfl rfl rfl (d' := 0) (by omega) (c_bitOf hx (by omega)) ?_
    rw [sm_s] at K
    refine ev_zeq rfl (fun hc => ?_) (fun hc => ?_)
    · rw [tb_b0] at hc
      rw [gsg, if_neg (by rw [hc]; decide), Nat.add_zero] at K
      refine ev_go 80 rfl ?_
      try dsimp only
      try simp only [nI_inc, nI_1, nI_add, nI_mul2, tb_and, tb_or, tb_andn]
      exact K
    · have hp : x.testBit i = true := by simpa [tb_b0] using hc
      rw [gsg, if_pos hp] at K
      refine ev_go 80 rfl ?_
      refine ev_getf rfl hT.1 rfl rfl ?_
      refine ev_go 80 rfl ?_
      refine ev_ia _ rfl hT.2.2.2.1 rfl (by first | exact trivial | assumption | (show _ < _; omega)) (by omega) (by omega) rfl ?_
      refine ev_go 80 rfl ?_
      try dsimp only
      try simp only [nI_inc, nI_1, nI_add, nI_mul2, tb_and, tb_or, tb_andn]
      exact K
  · refine ev_nop rfl ?_
    refine ev_go 80 rfl ?_
    refine ev_getf rfl hT.1 rfl rfl ?_
    refine ev_igeT rfl (nI_le (Nat.le_refl _) (by first | omega | decide)) ?_
    refine ev_go 80 rfl ?_
    exact ev_iret rfl
theorem c_tensWithMen (hT : TA h a n f) (hn : n ≤ 8) (hd : 1 ≤ d) : ev_V scr d cd_X4_tensWithMen 0 [.ref a, .float 0, .float 0] [] h (some (.int (nI (sm (twg n f) 4))), h) := by
  refine ev_go 80 rfl ?_
  refine ev_loop 4 (fun i => ev_V scr d cd_X4_tensWithMen 4 [.ref a, .int (nI (sm (twg n f) i)), .int (nI i)] [] h _) (fun i hi K => ?_) ?_
  · refine ev_nop rfl ?_
    refine ev_go 80 rfl ?_
    refine ev_igeF rfl (nI_ge hi (by first | omega | decide)) ?_
    refine ev_go 80 rfl ?_
    refine ev_cv rfl rfl rfl rfl hT.1 rfl (d' := 0) (by omega) (c_menOfTen hT hn hi) ?_
    rw [sm_s] at K
    have hb := bs_256 (fun m => decide (f (5 * m + 3) = i)) hn
    refine ev_zeq rfl (fun hc => ?_) (fun hc => ?_)
    · rw [twg, if_pos ((nI_eq (b := 0) (by omega) (by decide)).mp hc), Nat.add_zero] at K
      refine ev_go 80 rfl ?_
      try dsimp only
      try simp only [nI_inc, nI_1, nI_add, nI_mul2, tb_and, tb_or, tb_andn]
      exact K
    · rw [twg, if_neg (fun q => hc (by rw [q]; rfl))] at K
      refine ev_go 80 rfl ?_
      try dsimp only
      try simp only [nI_inc, nI_1, nI_add, nI_mul2, tb_and, tb_or, tb_andn]
      exact K
  · refine ev_nop rfl ?_
    refine ev_go 80 rfl ?_
    refine ev_igeT rfl (nI_le (Nat.le_refl _) (by first | omega | decide)) ?_
    refine ev_go 80 rfl ?_
    exact ev_iret rfl
theorem c_maySwap (hT : TA h a n f) (g : GD n f) {i j : Nat} (hi : i < n) (hj : j < n) : ev_V scr d cd_X4_maySwap 0 [.ref a, .int (nI i), .int (nI j)] [] h (some (.int (nI (tb_b (decide (f (5 * i + 3) < 4 ∧ f (5 * j + 3) < 4 ∧ f (5 * i + 3) ≠ f (5 * j + 3)))))), h) := by
  have hn := g.1
  have gi := (g.2.1 i hi).2.2.2.1
  have gj := (g.2.1 j hj).2.2.2.1
  refine ev_go 80 rfl ?_
  refine ev_getf rfl hT.1 rfl rfl ?_
  refine ev_go 80 rfl ?_
  refine ev_ia _ rfl hT.2.2.2.2.1 rfl (by first | exact trivial | assumption | (show _ < _; omega)) (by omega) (by omega) rfl ?_
  refine ev_zlt rfl (fun hc => ?_) (fun hc => ?_)
  · rw [tv_neg] at hc
    rw [decide_eq_false (fun q => hc q.1)]
    refine ev_go 80 rfl ?_
    exact ev_tret rfl rfl
  · have h1 := Classical.not_not.mp ((not_congr (tv_neg _)).mp hc)
    refine ev_go 80 rfl ?_
    refine ev_getf rfl hT.1 rfl rfl ?_
    refine ev_go 80 rfl ?_
    refine ev_ia _ rfl hT.2.2.2.2.1 rfl (by first | exact trivial | assumption | (show _ < _; omega)) (by omega) (by omega) rfl ?_
    refine ev_zlt rfl (fun hc => ?_) (fun hc => ?_)
    · rw [tv_neg] at hc
      rw [decide_eq_false (fun q => hc q.2.1)]
      refine ev_go 80 rfl ?_
      exact ev_tret rfl rfl
    · have h2 := Classical.not_not.mp ((not_congr (tv_neg _)).mp hc)
      refine ev_go 80 rfl ?_
      refine ev_getf rfl hT.1 rfl rfl ?_
      refine ev_go 80 rfl ?_
      refine ev_ia _ rfl hT.2.2.2.2.1 rfl (by first | exact trivial | assumption | (show _ < _; omega)) (by omega) (by omega) rfl ?_
      refine ev_go 80 rfl ?_
      refine ev_getf rfl hT.1 rfl rfl ?_
      refine ev_go 80 rfl ?_
      refine ev_ia _ rfl hT.2.2.2.2.1 rfl (by first | exact trivial | assumption | (show _ < _; omega)) (by omega) (by omega) rfl ?_
      refine ev_ieq rfl (fun hc => ?_) (fun hc => ?_)
      · rw [tv_inj gi gj] at hc
        rw [decide_eq_false (fun q => q.2.2 hc)]
        refine ev_go 80 rfl ?_
        exact ev_tret rfl rfl
      · rw [tv_inj gi gj] at hc
        rw [decide_eq_true (And.intro h1 (And.intro h2 hc))]
        refine ev_go 80 rfl ?_
        exact ev_tret rfl rfl
end HARM
end
section
/-! Towns that change. -/
def up (f : Nat → Nat) (k v : Nat) : Nat → Nat := fun j => if j = k then v else f j
theorem up_ne {f : Nat → Nat} {k v j : Nat} (h : j ≠ k) : up f k v j = f j := if_neg h
theorem up_eq {f : Nat → Nat} {k v : Nat} : up f k v k = v := if_pos rfl
theorem up_eq' {f : Nat → Nat} {k v j : Nat} (h : j = k) : up f k v j = v := if_pos h
theorem TA.kept {h h1 : ev_H} {a b n : Nat} {f : Nat → Nat} (hT : TA h b n f) (x : FR a (a + 8) h h1) (hd : b + 8 < a ∨ a + 8 < b) : TA h1 b n f := by
  obtain ⟨hO, t1, t2, t3, t4, t5, t6, t7, t8⟩ := hT
  exact ⟨(x.2 b (by omega)).trans hO, t1.fr x (by omega), t2.fr x (by omega), t3.fr x (by omega), t4.fr x (by omega), t5.fr x (by omega), t6.fr x (by omega), t7.fr x (by omega), t8.fr x (by omega)⟩
theorem TA.fr {h h1 : ev_H} {b n p q : Nat} {f : Nat → Nat} (hT : TA h b n f) (x : FR p q h h1) (hd : b + 8 < p ∨ q < b) : TA h1 b n f := by
  obtain ⟨hO, t1, t2, t3, t4, t5, t6, t7, t8⟩ := hT
  exact ⟨(x.2 b (by omega)).trans hO, t1.fr x (by omega), t2.fr x (by omega), t3.fr x (by omega), t4.fr x (by omega), t5.fr x (by omega), t6.fr x (by omega), t7.fr x (by omega), t8.fr x (by omega)⟩
theorem TA.cong {h : ev_H} {a n : Nat} {f f' : Nat → Nat} (hT : TA h a n f) (e : ∀ j, f' j = f j) : TA h a n f' := by
  rw [show f' = f from funext e]
  exact hT
theorem IA.grow {h : ev_H} {k L i : Nat} {P : Nat → Prop} {g : Nat → Int32} {x : Int32} (hA : IA h k L (fun m => (m < i ∧ P m) ∨ m = i) (fun m => if m = i then x else g m)) (hx : P i → x = g i) : IA h k L (fun m => m < i + 1 ∧ P m) g := by
  refine hA.congr (fun m hm hp => ?_)
  by_cases c : m = i
  · refine ⟨Or.inr c, ?_⟩
    rw [if_pos c, hx (c ▸ hp.2), c]
  · refine ⟨Or.inl ⟨by omega, hp.2⟩, ?_⟩
    rw [if_neg c]
theorem IA.none {h : ev_H} {k L : Nat} {P P' : Nat → Prop} {g g' : Nat → Int32} (hA : IA h k L P g) : IA h k L (fun m => m < 0 ∧ P' m) g' := hA.congr (fun m _ hp => absurd hp.1 (Nat.not_lt_zero m))
theorem IA.full {h : ev_H} {k L : Nat} {P : Nat → Prop} {g : Nat → Int32} (hA : IA h k L (fun m => m < L ∧ P m) g) : IA h k L P g := hA.congr (fun m hm hp => ⟨⟨hm, hp⟩, rfl⟩)
section UP
variable {h h1 : ev_H} {a n m v : Nat} {f : Nat → Nat} {x : Int32}
theorem TA.u_kinds (hT : TA h a n f) (hA : IA h1 (a + 1) 8 (fun i => i < n ∨ i = m) (fun i => if i = m then x else nI (f (5 * i)))) (hB : SB (a + 1) h h1) (hm : m < 8) (hx : x = nI v) : TA h1 a n (up f (5 * m) v) := by
  subst hx
  obtain ⟨hO, t1, t2, t3, t4, t5, t6, t7, t8⟩ := hT
  have e : ∀ j, 40 ≤ j → up f (5 * m) v j = f j := fun j hj => up_ne (by omega)
  unfold TA
  rw [e 40 (by decide), e 41 (by decide), e 42 (by decide), e 43 (by decide), e 44 (by decide)]
  exact ⟨(hB.2 a (by omega)).trans hO, hA.congr (fun i hi hp => ⟨Or.inl hp, by
    by_cases c : i = m
    · rw [if_pos c, up_eq' (by omega)]
    · rw [if_neg c, up_ne (by omega)]⟩), (t2.sb hB (by omega)).congr (fun i hi hp => ⟨hp, by rw [up_ne (by omega)]⟩), (t3.sb hB (by omega)).congr (fun i hi hp => ⟨hp, by rw [up_ne (by omega)]⟩), (t4.sb hB (by omega)).congr (fun i hi hp => ⟨hp, by rw [up_ne (by omega)]⟩), (t5.sb hB (by omega)).congr (fun i hi hp => ⟨hp, by rw [up_ne (by omega)]⟩), (t6.sb hB (by omega)).congr (fun i hi hp => ⟨hp, by rw [up_ne (by omega)]⟩), (t7.sb hB (by omega)).congr (fun i hi hp => ⟨hp, by rw [up_ne (by omega)]⟩), (t8.sb hB (by omega)).congr (fun i hi hp => ⟨hp, by rw [up_ne (by omega)]⟩)⟩
theorem TA.u_odds (hT : TA h a n f) (hA : IA h1 (a + 2) 8 (fun i => i < n ∨ i = m) (fun i => if i = m then x else nI (f (5 * i + 1)))) (hB : SB (a + 2) h h1) (hm : m < 8) (hx : x = nI v) : TA h1 a n (up f (5 * m + 1) v) := by
  subst hx
  obtain ⟨hO, t1, t2, t3, t4, t5, t6, t7, t8⟩ := hT
  have e : ∀ j, 40 ≤ j → up f (5 * m + 1) v j = f j := fun j hj => up_ne (by omega)
  unfold TA
  rw [e 40 (by decide), e 41 (by decide), e 42 (by decide), e 43 (by decide), e 44 (by decide)]
  exact ⟨(hB.2 a (by omega)).trans hO, (t1.sb hB (by omega)).congr (fun i hi hp => ⟨hp, by rw [up_ne (by omega)]⟩), hA.congr (fun i hi hp => ⟨Or.inl hp, by
    by_cases c : i = m
    · rw [if_pos c, up_eq' (by omega)]
    · rw [if_neg c, up_ne (by omega)]⟩), (t3.sb hB (by omega)).congr (fun i hi hp => ⟨hp, by rw [up_ne (by omega)]⟩), (t4.sb hB (by omega)).congr (fun i hi hp => ⟨hp, by rw [up_ne (by omega)]⟩), (t5.sb hB (by omega)).congr (fun i hi hp => ⟨hp, by rw [up_ne (by omega)]⟩), (t6.sb hB (by omega)).congr (fun i hi hp => ⟨hp, by rw [up_ne (by omega)]⟩), (t7.sb hB (by omega)).congr (fun i hi hp => ⟨hp, by rw [up_ne (by omega)]⟩), (t8.sb hB (by omega)).congr (fun i hi hp => ⟨hp, by rw [up_ne (by omega)]⟩)⟩
theorem TA.u_stock (hT : TA h a n f) (hA : IA h1 (a + 3) 8 (fun i => i < n ∨ i = m) (fun i => if i = m then x else nI (f (5 * i + 2)))) (hB : SB (a + 3) h h1) (hm : m < 8) (hx : x = nI v) : TA h1 a n (up f (5 * m + 2) v) := by
  subst hx
  obtain ⟨hO, t1, t2, t3, t4, t5, t6, t7, t8⟩ := hT
  have e : ∀ j, 40 ≤ j → up f (5 * m + 2) v j = f j := fun j hj => up_ne (by omega)
  unfold TA
  rw [e 40 (by decide), e 41 (by decide), e 42 (by decide), e 43 (by decide), e 44 (by decide)]
  exact ⟨(hB.2 a (by omega)).trans hO, (t1.sb hB (by omega)).congr (fun i hi hp => ⟨hp, by rw [up_ne (by omega)]⟩), (t2.sb hB (by omega)).congr (fun i hi hp => ⟨hp, by rw [up_ne (by omega)]⟩), hA.congr (fun i hi hp => ⟨Or.inl hp, by
    by_cases c : i = m
    · rw [if_pos c, up_eq' (by omega)]
    · rw [if_neg c, up_ne (by omega)]⟩), (t4.sb hB (by omega)).congr (fun i hi hp => ⟨hp, by rw [up_ne (by omega)]⟩), (t5.sb hB (by omega)).congr (fun i hi hp => ⟨hp, by rw [up_ne (by omega)]⟩), (t6.sb hB (by omega)).congr (fun i hi hp => ⟨hp, by rw [up_ne (by omega)]⟩), (t7.sb hB (by omega)).congr (fun i hi hp => ⟨hp, by rw [up_ne (by omega)]⟩), (t8.sb hB (by omega)).congr (fun i hi hp => ⟨hp, by rw [up_ne (by omega)]⟩)⟩
theorem TA.u_tens (hT : TA h a n f) (hA : IA h1 (a + 4) 8 (fun i => i < n ∨ i = m) (fun i => if i = m then x else tv (f (5 * i + 3)))) (hB : SB (a + 4) h h1) (hm : m < 8) (hx : x = tv v) : TA h1 a n (up f (5 * m + 3) v) := by
  subst hx
  obtain ⟨hO, t1, t2, t3, t4, t5, t6, t7, t8⟩ := hT
  have e : ∀ j, 40 ≤ j → up f (5 * m + 3) v j = f j := fun j hj => up_ne (by omega)
  unfold TA
  rw [e 40 (by decide), e 41 (by decide), e 42 (by decide), e 43 (by decide), e 44 (by decide)]
  exact ⟨(hB.2 a (by omega)).trans hO, (t1.sb hB (by omega)).congr (fun i hi hp => ⟨hp, by rw [up_ne (by omega)]⟩), (t2.sb hB (by omega)).congr (fun i hi hp => ⟨hp, by rw [up_ne (by omega)]⟩), (t3.sb hB (by omega)).congr (fun i hi hp => ⟨hp, by rw [up_ne (by omega)]⟩), hA.congr (fun i hi hp => ⟨Or.inl hp, by
    by_cases c : i = m
    · rw [if_pos c, up_eq' (by omega)]
    · rw [if_neg c, up_ne (by omega)]⟩), (t5.sb hB (by omega)).congr (fun i hi hp => ⟨hp, by rw [up_ne (by omega)]⟩), (t6.sb hB (by omega)).congr (fun i hi hp => ⟨hp, by rw [up_ne (by omega)]⟩), (t7.sb hB (by omega)).congr (fun i hi hp => ⟨hp, by rw [up_ne (by omega)]⟩), (t8.sb hB (by omega)).congr (fun i hi hp => ⟨hp, by rw [up_ne (by omega)]⟩)⟩
theorem TA.u_kins (hT : TA h a n f) (hA : IA h1 (a + 5) 8 (fun i => True ∨ i = m) (fun i => if i = m then x else nI (f (5 * i + 4)))) (hB : SB (a + 5) h h1) (hm : m < 8) (hx : x = nI v) : TA h1 a n (up f (5 * m + 4) v) := by
  subst hx
  obtain ⟨hO, t1, t2, t3, t4, t5, t6, t7, t8⟩ := hT
  have e : ∀ j, 40 ≤ j → up f (5 * m + 4) v j = f j := fun j hj => up_ne (by omega)
  unfold TA
  rw [e 40 (by decide), e 41 (by decide), e 42 (by decide), e 43 (by decide), e 44 (by decide)]
  exact ⟨(hB.2 a (by omega)).trans hO, (t1.sb hB (by omega)).congr (fun i hi hp => ⟨hp, by rw [up_ne (by omega)]⟩), (t2.sb hB (by omega)).congr (fun i hi hp => ⟨hp, by rw [up_ne (by omega)]⟩), (t3.sb hB (by omega)).congr (fun i hi hp => ⟨hp, by rw [up_ne (by omega)]⟩), (t4.sb hB (by omega)).congr (fun i hi hp => ⟨hp, by rw [up_ne (by omega)]⟩), hA.congr (fun i hi hp => ⟨Or.inl hp, by
    by_cases c : i = m
    · rw [if_pos c, up_eq' (by omega)]
    · rw [if_neg c, up_ne (by omega)]⟩), (t6.sb hB (by omega)).congr (fun i hi hp => ⟨hp, by rw [up_ne (by omega)]⟩), (t7.sb hB (by omega)).congr (fun i hi hp => ⟨hp, by rw [up_ne (by omega)]⟩), (t8.sb hB (by omega)).congr (fun i hi hp => ⟨hp, by rw [up_ne (by omega)]⟩)⟩
theorem TA.u_mosts (hT : TA h a n f) (hA : IA h1 (a + 6) 4 (fun i => True ∨ i = m) (fun i => if i = m then x else nI (f (60 + i)))) (hB : SB (a + 6) h h1) (hm : m < 4) (hx : x = nI v) : TA h1 a n (up f (60 + m) v) := by
  subst hx
  obtain ⟨hO, t1, t2, t3, t4, t5, t6, t7, t8⟩ := hT
  have e : ∀ j, j < 60 → up f (60 + m) v j = f j := fun j hj => up_ne (by omega)
  unfold TA
  rw [e 40 (by decide), e 41 (by decide), e 42 (by decide), e 43 (by decide), e 44 (by decide)]
  exact ⟨(hB.2 a (by omega)).trans hO, (t1.sb hB (by omega)).congr (fun i hi hp => ⟨hp, by rw [up_ne (by omega)]⟩), (t2.sb hB (by omega)).congr (fun i hi hp => ⟨hp, by rw [up_ne (by omega)]⟩), (t3.sb hB (by omega)).congr (fun i hi hp => ⟨hp, by rw [up_ne (by omega)]⟩), (t4.sb hB (by omega)).congr (fun i hi hp => ⟨hp, by rw [up_ne (by omega)]⟩), (t5.sb hB (by omega)).congr (fun i hi hp => ⟨hp, by rw [up_ne (by omega)]⟩), hA.congr (fun i hi hp => ⟨Or.inl hp, by
    by_cases c : i = m
    · rw [if_pos c, up_eq' (by omega)]
    · rw [if_neg c, up_ne (by omega)]⟩), (t7.sb hB (by omega)).congr (fun i hi hp => ⟨hp, by rw [up_ne (by omega)]⟩), (t8.sb hB (by omega)).congr (fun i hi hp => ⟨hp, by rw [up_ne (by omega)]⟩)⟩
theorem TA.f_41 (hT : TA h a n f) (hO1 : h1[a]? = some (.inr (4, [.int (nI (n)), .int x, .int (nI (f 42)), .int (nI (f 43)), .int (nI (f 40)), .int (nI (f 44)), .ref (a + 1), .ref (a + 2), .ref (a + 3), .ref (a + 4), .ref (a + 5), .ref (a + 6), .ref (a + 7), .ref (a + 8)]))) (hB : SB a h h1) (hx : x = nI v) : TA h1 a n (up f 41 v) := by
  subst hx
  obtain ⟨hO, t1, t2, t3, t4, t5, t6, t7, t8⟩ := hT
  have e : ∀ j, j ≠ 41 → up f 41 v j = f j := fun j hj => up_ne hj
  unfold TA
  rw [e 40 (by decide), e 42 (by decide), e 43 (by decide), e 44 (by decide), up_eq]
  exact ⟨hO1, (t1.sb hB (by omega)).congr (fun i hi hp => ⟨hp, by rw [up_ne (by omega)]⟩), (t2.sb hB (by omega)).congr (fun i hi hp => ⟨hp, by rw [up_ne (by omega)]⟩), (t3.sb hB (by omega)).congr (fun i hi hp => ⟨hp, by rw [up_ne (by omega)]⟩), (t4.sb hB (by omega)).congr (fun i hi hp => ⟨hp, by rw [up_ne (by omega)]⟩), (t5.sb hB (by omega)).congr (fun i hi hp => ⟨hp, by rw [up_ne (by omega)]⟩), (t6.sb hB (by omega)).congr (fun i hi hp => ⟨hp, by rw [up_ne (by omega)]⟩), (t7.sb hB (by omega)).congr (fun i hi hp => ⟨hp, by rw [up_ne (by omega)]⟩), (t8.sb hB (by omega)).congr (fun i hi hp => ⟨hp, by rw [up_ne (by omega)]⟩)⟩
theorem TA.f_42 (hT : TA h a n f) (hO1 : h1[a]? = some (.inr (4, [.int (nI (n)), .int (nI (f 41)), .int x, .int (nI (f 43)), .int (nI (f 40)), .int (nI (f 44)), .ref (a + 1), .ref (a + 2), .ref (a + 3), .ref (a + 4), .ref (a + 5), .ref (a + 6), .ref (a + 7), .ref (a + 8)]))) (hB : SB a h h1) (hx : x = nI v) : TA h1 a n (up f 42 v) := by
  subst hx
  obtain ⟨hO, t1, t2, t3, t4, t5, t6, t7, t8⟩ := hT
  have e : ∀ j, j ≠ 42 → up f 42 v j = f j := fun j hj => up_ne hj
  unfold TA
  rw [e 40 (by decide), e 41 (by decide), e 43 (by decide), e 44 (by decide), up_eq]
  exact ⟨hO1, (t1.sb hB (by omega)).congr (fun i hi hp => ⟨hp, by rw [up_ne (by omega)]⟩), (t2.sb hB (by omega)).congr (fun i hi hp => ⟨hp, by rw [up_ne (by omega)]⟩), (t3.sb hB (by omega)).congr (fun i hi hp => ⟨hp, by rw [up_ne (by omega)]⟩), (t4.sb hB (by omega)).congr (fun i hi hp => ⟨hp, by rw [up_ne (by omega)]⟩), (t5.sb hB (by omega)).congr (fun i hi hp => ⟨hp, by rw [up_ne (by omega)]⟩), (t6.sb hB (by omega)).congr (fun i hi hp => ⟨hp, by rw [up_ne (by omega)]⟩), (t7.sb hB (by omega)).congr (fun i hi hp => ⟨hp, by rw [up_ne (by omega)]⟩), (t8.sb hB (by omega)).congr (fun i hi hp => ⟨hp, by rw [up_ne (by omega)]⟩)⟩
theorem TA.f_43 (hT : TA h a n f) (hO1 : h1[a]? = some (.inr (4, [.int (nI (n)), .int (nI (f 41)), .int (nI (f 42)), .int x, .int (nI (f 40)), .int (nI (f 44)), .ref (a + 1), .ref (a + 2), .ref (a + 3), .ref (a + 4), .ref (a + 5), .ref (a + 6), .ref (a + 7), .ref (a + 8)]))) (hB : SB a h h1) (hx : x = nI v) : TA h1 a n (up f 43 v) := by
  subst hx
  obtain ⟨hO, t1, t2, t3, t4, t5, t6, t7, t8⟩ := hT
  have e : ∀ j, j ≠ 43 → up f 43 v j = f j := fun j hj => up_ne hj
  unfold TA
  rw [e 40 (by decide), e 41 (by decide), e 42 (by decide), e 44 (by decide), up_eq]
  exact ⟨hO1, (t1.sb hB (by omega)).congr (fun i hi hp => ⟨hp, by rw [up_ne (by omega)]⟩), (t2.sb hB (by omega)).congr (fun i hi hp => ⟨hp, by rw [up_ne (by omega)]⟩), (t3.sb hB (by omega)).congr (fun i hi hp => ⟨hp, by rw [up_ne (by omega)]⟩), (t4.sb hB (by omega)).congr (fun i hi hp => ⟨hp, by rw [up_ne (by omega)]⟩), (t5.sb hB (by omega)).congr (fun i hi hp => ⟨hp, by rw [up_ne (by omega)]⟩), (t6.sb hB (by omega)).congr (fun i hi hp => ⟨hp, by rw [up_ne (by omega)]⟩), (t7.sb hB (by omega)).congr (fun i hi hp => ⟨hp, by rw [up_ne (by omega)]⟩), (t8.sb hB (by omega)).congr (fun i hi hp => ⟨hp, by rw [up_ne (by omega)]⟩)⟩
theorem TA.f_40 (hT : TA h a n f) (hO1 : h1[a]? = some (.inr (4, [.int (nI (n)), .int (nI (f 41)), .int (nI (f 42)), .int (nI (f 43)), .int x, .int (nI (f 44)), .ref (a + 1), .ref (a + 2), .ref (a + 3), .ref (a + 4), .ref (a + 5), .ref (a + 6), .ref (a + 7), .ref (a + 8)]))) (hB : SB a h h1) (hx : x = nI v) : TA h1 a n (up f 40 v) := by
  subst hx
  obtain ⟨hO, t1, t2, t3, t4, t5, t6, t7, t8⟩ := hT
  have e : ∀ j, j ≠ 40 → up f 40 v j = f j := fun j hj => up_ne hj
  unfold TA
  rw [e 41 (by decide), e 42 (by decide), e 43 (by decide), e 44 (by decide), up_eq]
  exact ⟨hO1, (t1.sb hB (by omega)).congr (fun i hi hp => ⟨hp, by rw [up_ne (by omega)]⟩), (t2.sb hB (by omega)).congr (fun i hi hp => ⟨hp, by rw [up_ne (by omega)]⟩), (t3.sb hB (by omega)).congr (fun i hi hp => ⟨hp, by rw [up_ne (by omega)]⟩), (t4.sb hB (by omega)).congr (fun i hi hp => ⟨hp, by rw [up_ne (by omega)]⟩), (t5.sb hB (by omega)).congr (fun i hi hp => ⟨hp, by rw [up_ne (by omega)]⟩), (t6.sb hB (by omega)).congr (fun i hi hp => ⟨hp, by rw [up_ne (by omega)]⟩), (t7.sb hB (by omega)).congr (fun i hi hp => ⟨hp, by rw [up_ne (by omega)]⟩), (t8.sb hB (by omega)).congr (fun i hi hp => ⟨hp, by rw [up_ne (by omega)]⟩)⟩
end UP
end
section
/-! What changes a town. -/
theorem SB.tr {k : Nat} {h h1 h2 : ev_H} (x : SB k h h1) (y : SB k h1 h2) : SB k h h2 := ⟨y.1.trans x.1, fun j hj => (y.2 j hj).trans (x.2 j hj)⟩
theorem SB.rf {k : Nat} {h : ev_H} : SB k h h := ⟨rfl, fun _ _ => rfl⟩
def seF (f : Nat → Nat) (m t : Nat) : Nat → Nat := if f (5 * m) = 3 then up (up f (5 * m + 3) t) (5 * m) 0 else up f (5 * m + 3) t
def gvF (f : Nat → Nat) (m : Nat) : Nat → Nat := up (up (up f (5 * m + 3) 4) (5 * m) 3) 40 (tb_wo (f 40) (2 ^ m))
def exF (f : Nat → Nat) (i j : Nat) : Nat → Nat := up (up f (5 * i + 3) (f (5 * j + 3))) (5 * j + 3) (f (5 * i + 3))
def wb (b : Bool) (x i : Nat) : Nat := if b = true then x ||| 2 ^ i else tb_wo x (2 ^ i)
def kiF (f : Nat → Nat) (i j : Nat) (b : Bool) : Nat → Nat := up (up f (5 * i + 4) (wb b (f (5 * i + 4)) j)) (5 * j + 4) (wb b (f (5 * j + 4)) i)
def adF (f : Nat → Nat) (n k o s t : Nat) : Nat → Nat := up (up (up (up f (5 * n) k) (5 * n + 1) o) (5 * n + 2) s) (5 * n + 3) t
section MUT
variable {scr : List Int32} {d : Nat} {h : ev_H} {a n : Nat} {f : Nat → Nat}
theorem c_seat (hT : TA h a n f) (hn : n ≤ 8) {m t : Nat} (hm : m < n) (ht : t < 4) (gk : f (5 * m) ≤ 3) : ev_X scr d cd_X4_seat 0 [.ref a, .int (nI m), .int (nI t), .float 0] [] h (fun v h' => v = some (.int (tv (f (5 * m + 3)))) ∧ TA h' a n (seF f m t) ∧ FR a (a + 8) h h') := by
  refine ex_go 80 rfl ?_
  refine ex_getf rfl hT.1 rfl rfl ?_
  refine ex_go 80 rfl ?_
  refine ex_ia _ rfl hT.2.2.2.2.1 rfl (by first | exact trivial | assumption | (show _ < _; omega)) (by omega) (by omega) rfl ?_
  refine ex_go 80 rfl ?_
  refine ex_getf rfl hT.1 rfl rfl ?_
  refine ex_go 80 rfl ?_
  refine ex_is _ rfl hT.2.2.2.2.1 rfl (by omega) (by omega) (fun h1 hA1 hB1 => ?_)
  have hT1 := hT.u_tens hA1 hB1 (by omega) (tv_lt ht).symm
  have hF1 := hB1.fr (a := a) (b := a + 8) (by omega) (by omega)
  unfold seF
  refine ex_go 80 rfl ?_
  refine ex_getf rfl hT1.1 rfl rfl ?_
  refine ex_go 80 rfl ?_
  refine ex_ia _ rfl hT1.2.1 rfl (by first | exact trivial | assumption | (show _ < _; omega)) (by omega) (by omega) rfl ?_
  refine ex_go 80 rfl ?_
  refine ex_ine rfl (fun hc => ?_) (fun hc => ?_)
  · rw [up_ne (by omega)] at hc
    rw [if_neg (fun q => hc (by rw [q]; rfl))]
    refine ex_go 80 rfl ?_
    exact ex_iret rfl (⟨rfl, hT1, hF1⟩)
  · rw [up_ne (by omega)] at hc
    rw [if_pos ((nI_eq (b := 3) (by omega) (by decide)).mp hc)]
    refine ex_go 80 rfl ?_
    refine ex_getf rfl hT1.1 rfl rfl ?_
    refine ex_go 80 rfl ?_
    refine ex_is _ rfl hT1.2.1 rfl (by omega) (by omega) (fun h2 hA2 hB2 => ?_)
    have hT2 := hT1.u_kinds (v := 0) hA2 hB2 (by omega) rfl
    refine ex_go 80 rfl ?_
    exact ex_iret rfl (⟨rfl, hT2, hF1.tr (hB2.fr (by omega) (by omega))⟩)
theorem c_giveUp (hT : TA h a n f) (hn : n ≤ 8) {m : Nat} (hm : m < n) (hd : 1 ≤ d) : ev_X scr d cd_X4_giveUp 0 [.ref a, .int (nI m)] [] h (fun v h' => v = none ∧ TA h' a n (gvF f m) ∧ FR a (a + 8) h h') := by
  refine ex_go 80 rfl ?_
  refine ex_getf rfl hT.1 rfl rfl ?_
  refine ex_go 80 rfl ?_
  refine ex_is _ rfl hT.2.2.2.2.1 rfl (by omega) (by omega) (fun h1 hA1 hB1 => ?_)
  have hT1 := hT.u_tens (v := 4) hA1 hB1 (by omega) (by decide)
  have hF1 := hB1.fr (a := a) (b := a + 8) (by omega) (by omega)
  refine ex_go 80 rfl ?_
  refine ex_getf rfl hT1.1 rfl rfl ?_
  refine ex_go 80 rfl ?_
  refine ex_is _ rfl hT1.2.1 rfl (by omega) (by omega) (fun h2 hA2 hB2 => ?_)
  have hT2 := hT1.u_kinds (v := 3) hA2 hB2 (by omega) rfl
  have hF2 := hF1.tr (hB2.fr (by omega) (by omega))
  have e40 : up (up f (5 * m + 3) 4) (5 * m) 3 40 = f 40 := by rw [up_ne (by omega), up_ne (by omega)]
  refine ex_go 80 rfl ?_
  refine ex_getf rfl hT2.1 rfl rfl ?_
  refine ex_go 80 rfl ?_
  refine ex_cs rfl rfl rfl (d' := 0) (by omega) (c_withBit false (by omega)) ?_
  refine ex_pf rfl hT2.1 rfl rfl (fun h3 hO3 hB3 => ?_)
  have hT3 := hT2.f_40 (v := tb_wo (f 40) (2 ^ m)) hO3 hB3 (by rw [e40]; rfl)
  exact ex_vret rfl (⟨rfl, hT3, hF2.tr (hB3.fr (by omega) (by omega))⟩)
theorem c_exchange (hT : TA h a n f) (hn : n ≤ 8) {i j : Nat} (hi : i < n) (hj : j < n) : ev_X scr d cd_X4_exchange 0 [.ref a, .int (nI i), .int (nI j), .float 0] [] h (fun v h' => v = none ∧ TA h' a n (exF f i j) ∧ FR a (a + 8) h h') := by
  refine ex_go 80 rfl ?_
  refine ex_getf rfl hT.1 rfl rfl ?_
  refine ex_go 80 rfl ?_
  refine ex_ia _ rfl hT.2.2.2.2.1 rfl (by first | exact trivial | assumption | (show _ < _; omega)) (by omega) (by omega) rfl ?_
  refine ex_go 80 rfl ?_
  refine ex_getf rfl hT.1 rfl rfl ?_
  refine ex_go 80 rfl ?_
  refine ex_getf rfl hT.1 rfl rfl ?_
  refine ex_go 80 rfl ?_
  refine ex_ia _ rfl hT.2.2.2.2.1 rfl (by first | exact trivial | assumption | (show _ < _; omega)) (by omega) (by omega) rfl ?_
  refine ex_is _ rfl hT.2.2.2.2.1 rfl (by omega) (by omega) (fun h1 hA1 hB1 => ?_)
  have hT1 := hT.u_tens hA1 hB1 (by omega) rfl
  have hF1 := hB1.fr (a := a) (b := a + 8) (by omega) (by omega)
  refine ex_go 80 rfl ?_
  refine ex_getf rfl hT1.1 rfl rfl ?_
  refine ex_go 80 rfl ?_
  refine ex_is _ rfl hT1.2.2.2.2.1 rfl (by omega) (by omega) (fun h2 hA2 hB2 => ?_)
  have hT2 := hT1.u_tens hA2 hB2 (by omega) rfl
  exact ex_vret rfl (⟨rfl, hT2, hF1.tr (hB2.fr (by omega) (by omega))⟩)
theorem c_setKin (hT : TA h a n f) {i j : Nat} (hi : i < 8) (hj : j < 8) (hij : i ≠ j) (b : Bool) (hd : 1 ≤ d) : ev_X scr d cd_X4_setKin 0 [.ref a, .int (nI i), .int (nI j), .int (nI (tb_b b))] [] h (fun v h' => v = none ∧ TA h' a n (kiF f i j b) ∧ FR a (a + 8) h h') := by
  refine ex_go 80 rfl ?_
  refine ex_getf rfl hT.1 rfl rfl ?_
  refine ex_go 80 rfl ?_
  refine ex_getf rfl hT.1 rfl rfl ?_
  refine ex_go 80 rfl ?_
  refine ex_ia _ rfl hT.2.2.2.2.2.1 rfl (by first | exact trivial | assumption | (show _ < _; omega)) (by omega) (by omega) rfl ?_
  refine ex_go 80 rfl ?_
  refine ex_cs rfl rfl rfl (d' := 0) (by omega) (c_withBit b (by omega)) ?_
  refine ex_is _ rfl hT.2.2.2.2.2.1 rfl (by omega) (by omega) (fun h1 hA1 hB1 => ?_)
  have hT1 := hT.u_kins (v := wb b (f (5 * i + 4)) j) (hA1.congr (fun k hk hp => ⟨hp, rfl⟩)) hB1 (by omega) rfl
  have hF1 := hB1.fr (a := a) (b := a + 8) (by omega) (by omega)
  have e : up f (5 * i + 4) (wb b (f (5 * i + 4)) j) (5 * j + 4) = f (5 * j + 4) := up_ne (by omega)
  refine ex_go 80 rfl ?_
  refine ex_getf rfl hT1.1 rfl rfl ?_
  refine ex_go 80 rfl ?_
  refine ex_getf rfl hT1.1 rfl rfl ?_
  refine ex_go 80 rfl ?_
  refine ex_ia _ rfl hT1.2.2.2.2.2.1 rfl (by first | exact trivial | assumption | (show _ < _; omega)) (by omega) (by omega) rfl ?_
  refine ex_go 80 rfl ?_
  refine ex_cs rfl rfl rfl (d' := 0) (by omega) (c_withBit b (by omega)) ?_
  refine ex_is _ rfl hT1.2.2.2.2.2.1 rfl (by omega) (by omega) (fun h2 hA2 hB2 => ?_)
  have hT2 := hT1.u_kins (v := wb b (f (5 * j + 4)) i) (hA2.congr (fun k hk hp => ⟨hp, rfl⟩)) hB2 (by omega) (by rw [e]; rfl)
  exact ex_vret rfl (⟨rfl, hT2, hF1.tr (hB2.fr (by omega) (by omega))⟩)
theorem c_addMan (hT : TA h a n f) (hn : n < 8) {k o s t : Nat} {ti : Int32} (ht : ti = tv t) : ev_X scr d cd_X4_addMan 0 [.ref a, .int (nI k), .int (nI o), .int (nI s), .int ti] [] h (fun v h' => v = none ∧ TA h' a (n + 1) (adF f n k o s t) ∧ FR a (a + 8) h h') := by
  refine ex_go 80 rfl ?_
  refine ex_getf rfl hT.1 rfl rfl ?_
  refine ex_go 80 rfl ?_
  refine ex_getf rfl hT.1 rfl rfl ?_
  refine ex_go 80 rfl ?_
  refine ex_is _ rfl hT.2.1 rfl (by omega) (by omega) (fun h1 hA1 hB1 => ?_)
  have hT1 := hT.u_kinds hA1 hB1 (by omega) rfl
  refine ex_go 80 rfl ?_
  refine ex_getf rfl hT1.1 rfl rfl ?_
  refine ex_go 80 rfl ?_
  refine ex_getf rfl hT1.1 rfl rfl ?_
  refine ex_go 80 rfl ?_
  refine ex_is _ rfl hT1.2.2.1 rfl (by omega) (by omega) (fun h2 hA2 hB2 => ?_)
  have hT2 := hT1.u_odds hA2 hB2 (by omega) rfl
  refine ex_go 80 rfl ?_
  refine ex_getf rfl hT2.1 rfl rfl ?_
  refine ex_go 80 rfl ?_
  refine ex_getf rfl hT2.1 rfl rfl ?_
  refine ex_go 80 rfl ?_
  refine ex_is _ rfl hT2.2.2.2.1 rfl (by omega) (by omega) (fun h3 hA3 hB3 => ?_)
  have hT3 := hT2.u_stock hA3 hB3 (by omega) rfl
  refine ex_go 80 rfl ?_
  refine ex_getf rfl hT3.1 rfl rfl ?_
  refine ex_go 80 rfl ?_
  refine ex_getf rfl hT3.1 rfl rfl ?_
  refine ex_go 80 rfl ?_
  refine ex_is _ rfl hT3.2.2.2.2.1 rfl (by omega) (by omega) (fun h4 hA4 hB4 => ?_)
  have hT4 := hT3.u_tens hA4 hB4 (by omega) ht
  refine ex_go 80 rfl ?_
  refine ex_getf rfl hT4.1 rfl rfl ?_
  refine ex_go 80 rfl ?_
  try dsimp only
  try simp only [nI_inc, nI_1, nI_add, nI_mul2, tb_and, tb_or, tb_andn]
  refine ex_pf rfl hT4.1 rfl rfl (fun h5 hO5 hB5 => ?_)
  refine ex_vret rfl ⟨rfl, ?_, ((hB1.fr (a := a) (b := a + 8) (by omega) (by omega)).tr (hB2.fr (by omega) (by omega))).tr (((hB3.fr (by omega) (by omega)).tr (hB4.fr (by omega) (by omega))).tr (hB5.fr (by omega) (by omega)))⟩
  obtain ⟨hO, t1, t2, t3, t4, t5, t6, t7, t8⟩ := hT4
  refine ⟨?_, ((((hA1.sb hB2 (by omega)).sb hB3 (by omega)).sb hB4 (by omega)).sb hB5 (by omega)).congr ?_, (((hA2.sb hB3 (by omega)).sb hB4 (by omega)).sb hB5 (by omega)).congr ?_, ((hA3.sb hB4 (by omega)).sb hB5 (by omega)).congr ?_, (hA4.sb hB5 (by omega)).congr ?_, t5.sb hB5 (by omega), t6.sb hB5 (by omega), t7.sb hB5 (by omega), t8.sb hB5 (by omega)⟩
  · rw [hO5]
    rfl
  all_goals
    intro i hi hp
    refine ⟨by omega, ?_⟩
    by_cases c : i = n
    · rw [if_pos c, c]
      unfold adF
      simp [up, ht]
    · rw [if_neg c]
      unfold adF up
      simp (disch := omega) only [if_neg]
end MUT
end
section
/-! What is paid. -/
def wg (f g : Nat → Nat) : Nat → Nat := fun j => if j % 5 = 2 ∧ j < 40 then g (j / 5) else f j
theorem wg_ne {f g : Nat → Nat} {j : Nat} (h : ¬ (j % 5 = 2 ∧ j < 40)) : wg f g j = f j := if_neg h
theorem wg_gd {f g : Nat → Nat} {m : Nat} (hm : m < 8) : wg f g (5 * m + 2) = g m := by
  rw [wg, if_pos (by omega)]
  congr 1
  omega
theorem wg_self (f : Nat → Nat) : wg f (fun m => f (5 * m + 2)) = f := funext (fun j => by
  unfold wg
  by_cases c : j % 5 = 2 ∧ j < 40
  · rw [if_pos c]
    show f (5 * (j / 5) + 2) = f j
    congr 1
    omega
  · rw [if_neg c])
theorem wg_wg (f g g' : Nat → Nat) : wg (wg f g) g' = wg f g' := funext (fun j => by
  unfold wg
  by_cases c : j % 5 = 2 ∧ j < 40
  · rw [if_pos c, if_pos c]
  · rw [if_neg c, if_neg c, if_neg c])
theorem wg_up {f g : Nat → Nat} {m v : Nat} (hm : m < 8) : up (wg f g) (5 * m + 2) v = wg f (up g m v) := funext (fun j => by
  unfold wg up
  dsimp only
  by_cases c : j % 5 = 2 ∧ j < 40
  · rw [if_pos c, if_pos c]
    by_cases e : j = 5 * m + 2
    · rw [if_pos e, if_pos (by omega)]
    · rw [if_neg e, if_neg (by omega)]
  · rw [if_neg c, if_neg c, if_neg (by omega)])
theorem TA.g_stock {h h1 : ev_H} {a n : Nat} {f g : Nat → Nat} (hT : TA h a n f) (hA : IA h1 (a + 3) 8 (fun m => m < n) (fun m => nI (g m))) (hB : SB (a + 3) h h1) : TA h1 a n (wg f g) := by
  obtain ⟨hO, t1, t2, t3, t4, t5, t6, t7, t8⟩ := hT
  have e : ∀ j, 40 ≤ j → wg f g j = f j := fun j hj => wg_ne (by omega)
  unfold TA
  rw [e 40 (by decide), e 41 (by decide), e 42 (by decide), e 43 (by decide), e 44 (by decide)]
  exact ⟨(hB.2 a (by omega)).trans hO, (t1.sb hB (by omega)).congr (fun i hi hp => ⟨hp, by rw [wg_ne (by omega)]⟩), (t2.sb hB (by omega)).congr (fun i hi hp => ⟨hp, by rw [wg_ne (by omega)]⟩), hA.congr (fun i hi hp => ⟨hp, by rw [wg_gd hi]⟩), (t4.sb hB (by omega)).congr (fun i hi hp => ⟨hp, by rw [wg_ne (by omega)]⟩), (t5.sb hB (by omega)).congr (fun i hi hp => ⟨hp, by rw [wg_ne (by omega)]⟩), (t6.sb hB (by omega)).congr (fun i hi hp => ⟨hp, by rw [wg_ne (by omega)]⟩), (t7.sb hB (by omega)).congr (fun i hi hp => ⟨hp, by rw [wg_ne (by omega)]⟩), (t8.sb hB (by omega)).congr (fun i hi hp => ⟨hp, by rw [wg_ne (by omega)]⟩)⟩
/-- v is taken of the goods of m, as far as they go -/
def tk (g : Nat → Nat) (m v : Nat) : Nat → Nat := up g m (g m - min v (g m))
theorem tk_le (g : Nat → Nat) (m v j : Nat) : tk g m v j ≤ g j := by
  unfold tk up
  by_cases c : j = m
  · rw [if_pos c, c]; omega
  · rw [if_neg c]; exact Nat.le_refl _
theorem tk_0 (g : Nat → Nat) (m : Nat) : tk g m 0 = g := funext (fun j => by
  unfold tk up
  by_cases c : j = m
  · rw [if_pos c, c]; omega
  · rw [if_neg c])
theorem nI_minI {x y : Nat} (hx : x < 2 ^ 31) (hy : y < 2 ^ 31) : (if nI y < nI x then nI y else nI x) = nI (min x y) := by
  by_cases c : y < x
  · rw [if_pos ((nI_ltI hy hx).mpr c), Nat.min_eq_right (by omega)]
  · rw [if_neg (fun q => c ((nI_ltI hy hx).mp q)), Nat.min_eq_left (by omega)]
theorem un_le {a b : Nat} (ha : a < 2 ^ 30) (hb : b < 2 ^ 30) : nI a - nI b ≤ 0 ↔ ¬ b < a := by
  rw [Int32.le_iff_toInt_le, pk_sub_toInt ha hb]
  have : (0 : Int32).toInt = 0 := by decide
  rw [this]
  omega
theorem un_dec (a b : Nat) : ev_inc (-1) (nI a - nI b) = nI a - nI (b + 1) := by
  show nI a - nI b + (-1) = _
  rw [nI_succ, Int32.sub_eq_add_neg, Int32.sub_eq_add_neg, Int32.neg_add, Int32.add_assoc, Int32.sub_eq_add_neg (-nI b)]
/-- a share -/
def pfd (q r c : Nat) : Nat := q + (if c < r then 1 else 0)
/-- those of x pay shares: goods, sum, how many have paid -/
def pf (q r x : Nat) (g : Nat → Nat) : Nat → (Nat → Nat) × Nat × Nat
  | 0 => (g, 0, 0)
  | i + 1 => if x.testBit i = true then (tk (pf q r x g i).1 i (pfd q r (pf q r x g i).2.2), (pf q r x g i).2.1 + min (pfd q r (pf q r x g i).2.2) ((pf q r x g i).1 i), (pf q r x g i).2.2 + 1) else pf q r x g i
theorem pf_t {q r x : Nat} {g : Nat → Nat} {i : Nat} (h : x.testBit i = true) : pf q r x g (i + 1) = (tk (pf q r x g i).1 i (pfd q r (pf q r x g i).2.2), (pf q r x g i).2.1 + min (pfd q r (pf q r x g i).2.2) ((pf q r x g i).1 i), (pf q r x g i).2.2 + 1) := by rw [pf, if_pos h]
theorem pf_f {q r x : Nat} {g : Nat → Nat} {i : Nat} (h : x.testBit i = false) : pf q r x g (i + 1) = pf q r x g i := by rw [pf, if_neg (by rw [h]; decide)]
theorem pf_le (q r x : Nat) (g : Nat → Nat) : ∀ i j, (pf q r x g i).1 j ≤ g j
  | 0, j => Nat.le_refl _
  | i + 1, j => by
    cases c : x.testBit i
    · rw [pf_f c]; exact pf_le q r x g i j
    · rw [pf_t c]; exact Nat.le_trans (tk_le _ _ _ _) (pf_le q r x g i j)
theorem pf_c (q r x : Nat) (g : Nat → Nat) : ∀ i, (pf q r x g i).2.2 ≤ i
  | 0 => Nat.le_refl _
  | i + 1 => by
    have := pf_c q r x g i
    cases c : x.testBit i
    · rw [pf_f c]; omega
    · rw [pf_t c]; dsimp only; omega
/-- who pays for m -/
def pyr (n : Nat) (f : Nat → Nat) (m : Nat) : Nat := tb_wo (tb_wo (bs (fun j => decide (f (5 * j + 3) = f (5 * m + 3))) n) (f (5 * m + 4))) (2 ^ m)
/-- m does wrong -/
def pfm (n : Nat) (f g : Nat → Nat) (m : Nat) : (Nat → Nat) × Nat := if pc8 (pyr n f m) = 0 then (g, 0) else ((pf (f 41 / pc8 (pyr n f m)) (f 41 % pc8 (pyr n f m)) (pyr n f m) g n).1, (pf (f 41 / pc8 (pyr n f m)) (f 41 % pc8 (pyr n f m)) (pyr n f m) g n).2.1)
/-- those of w do wrong -/
def fi (n : Nat) (f : Nat → Nat) (w : Nat) (g : Nat → Nat) : Nat → (Nat → Nat) × Nat
  | 0 => (g, 0)
  | i + 1 => if w.testBit i = true ∧ f (5 * i + 3) < 4 then ((pfm n f (fi n f w g i).1 i).1, (fi n f w g i).2 + (pfm n f (fi n f w g i).1 i).2) else fi n f w g i
theorem pfm_le (n : Nat) (f g : Nat → Nat) (m j : Nat) : (pfm n f g m).1 j ≤ g j := by
  unfold pfm
  split
  · exact Nat.le_refl _
  · exact pf_le _ _ _ _ _ _
theorem fi_le (n : Nat) (f : Nat → Nat) (w : Nat) (g : Nat → Nat) : ∀ i j, (fi n f w g i).1 j ≤ g j
  | 0, j => Nat.le_refl _
  | i + 1, j => by
    rw [fi]
    split
    · exact Nat.le_trans (pfm_le _ _ _ _ _) (fi_le n f w g i j)
    · exact fi_le n f w g i j
/-- those of x pay what is left: goods, left, sum -/
def cs (x l : Nat) (g : Nat → Nat) : Nat → (Nat → Nat) × Nat × Nat
  | 0 => (g, l, 0)
  | i + 1 => if x.testBit i = true then (tk (cs x l g i).1 i (cs x l g i).2.1, (cs x l g i).2.1 - min (cs x l g i).2.1 ((cs x l g i).1 i), (cs x l g i).2.2 + min (cs x l g i).2.1 ((cs x l g i).1 i)) else cs x l g i
theorem cs_t {x l : Nat} {g : Nat → Nat} {i : Nat} (h : x.testBit i = true) : cs x l g (i + 1) = (tk (cs x l g i).1 i (cs x l g i).2.1, (cs x l g i).2.1 - min (cs x l g i).2.1 ((cs x l g i).1 i), (cs x l g i).2.2 + min (cs x l g i).2.1 ((cs x l g i).1 i)) := by rw [cs, if_pos h]
theorem cs_f {x l : Nat} {g : Nat → Nat} {i : Nat} (h : x.testBit i = false) : cs x l g (i + 1) = cs x l g i := by rw [cs, if_neg (by rw [h]; decide)]
theorem cs_le (x l : Nat) (g : Nat → Nat) : ∀ i j, (cs x l g i).1 j ≤ g j
  | 0, j => Nat.le_refl _
  | i + 1, j => by
    cases c : x.testBit i
    · rw [cs_f c]; exact cs_le x l g i j
    · rw [cs_t c]; exact Nat.le_trans (tk_le _ _ _ _) (cs_le x l g i j)
theorem cs_l (x l : Nat) (g : Nat → Nat) : ∀ i, (cs x l g i).2.1 ≤ l
  | 0 => Nat.le_refl _
  | i + 1 => by
    have := cs_l x l g i
    cases c : x.testBit i
    · rw [cs_f c]; omega
    · rw [cs_t c]; dsimp only; omega
/-- nothing is left: nothing changes -/
theorem cs_0 (x l : Nat) (g : Nat → Nat) {i : Nat} (h : (cs x l g i).2.1 = 0) : ∀ k, cs x l g (i + k) = cs x l g i
  | 0 => rfl
  | k + 1 => by
    have ih := cs_0 x l g h k
    rw [← Nat.add_assoc]
    cases c : x.testBit (i + k)
    · rw [cs_f c, ih]
    · rw [cs_t c, ih, h, tk_0]
      ext1
      · rfl
      · ext1
        · dsimp only; rw [h]; omega
        · dsimp only; omega
/-- the watch of a ten is paid -/
def cot (n : Nat) (f : Nat → Nat) (g : Nat → Nat) (t : Nat) : (Nat → Nat) × Nat × Nat := cs (bs (fun m => decide (f (5 * m + 3) = t)) n) (f 42 * wct n f t) g n
def co (n : Nat) (f g : Nat → Nat) : Nat → (Nat → Nat) × Nat
  | 0 => (g, 0)
  | t + 1 => ((cot n f (co n f g t).1 t).1, (co n f g t).2 + (cot n f (co n f g t).1 t).2.2)
theorem co_le (n : Nat) (f g : Nat → Nat) : ∀ t j, (co n f g t).1 j ≤ g j
  | 0, j => Nat.le_refl _
  | t + 1, j => Nat.le_trans (cs_le _ _ _ _ _) (co_le n f g t j)
/-- a year: goods, and what was paid -/
def yr (n : Nat) (f g : Nat → Nat) (w : Nat) : (Nat → Nat) × Nat := ((co n f (fi n f w g n).1 4).1, (fi n f w g n).2 + (co n f (fi n f w g n).1 4).2)
theorem yr_le (n : Nat) (f g : Nat → Nat) (w j : Nat) : (yr n f g w).1 j ≤ g j := Nat.le_trans (co_le n f (fi n f w g n).1 4 j) (fi_le _ _ _ _ _ _)
theorem tb_wo_le (x y : Nat) : tb_wo x y ≤ x := by
  apply Nat.le_of_testBit
  intro i hi
  rw [tb_wo_bit] at hi
  cases c : x.testBit i
  · simp [c] at hi
  · rfl
theorem pc8_le (x : Nat) : pc8 x ≤ 8 := by
  have := sm_le (g := fun i => tb_b (x.testBit i)) (c := 1) (n := 8) (fun i _ => tb_le _)
  unfold pc8
  omega
section PAY
variable {scr : List Int32} {d : Nat} {h : ev_H} {a n : Nat} {f g : Nat → Nat}
theorem c_takeFrom (hT : TA h a n (wg f g)) (hn : n ≤ 8) {m v : Nat} (hm : m < n) (hv : v < 2 ^ 31) (hg : g m < 2 ^ 31) (hd : 1 ≤ d) : ev_X scr d cd_X4_takeFrom 0 [.ref a, .int (nI m), .int (nI v), .float 0] [] h (fun r h' => r = some (.int (nI (min v (g m)))) ∧ TA h' a n (wg f (tk g m v)) ∧ FR a (a + 8) h h') := by
  have e := wg_gd (f := f) (g := g) (m := m) (by omega)
  refine ex_go 80 rfl ?_
  refine ex_getf rfl hT.1 rfl rfl ?_
  refine ex_go 80 rfl ?_
  refine ex_ia _ rfl hT.2.2.2.1 rfl (by first | exact trivial | assumption | (show _ < _; omega)) (by omega) (by omega) rfl ?_
  refine ex_cs rfl rfl rfl (d' := 0) (by omega) (c_min) ?_
  rw [e, nI_minI hv hg]
  refine ex_go 80 rfl ?_
  refine ex_getf rfl hT.1 rfl rfl ?_
  refine ex_go 80 rfl ?_
  refine ex_ia _ rfl hT.2.2.2.1 rfl (by first | exact trivial | assumption | (show _ < _; omega)) (by omega) (by omega) rfl ?_
  refine ex_go 80 rfl ?_
  try dsimp only
  try simp only [nI_inc, nI_1, nI_add, nI_mul2, tb_and, tb_or, tb_andn]
  refine ex_is _ rfl hT.2.2.2.1 rfl (by omega) (by omega) (fun h1 hA1 hB1 => ?_)
  have hT1 := hT.u_stock (v := g m - min v (g m)) hA1 hB1 (by omega) (by rw [e, pk_sub (Nat.min_le_right _ _)])
  rw [wg_up (by omega)] at hT1
  refine ex_go 80 rfl ?_
  exact ex_iret rfl (⟨rfl, hT1, hB1.fr (by omega) (by omega)⟩)
theorem c_payFor {Q : Option Value → ev_H → Prop} (hT : TA h a n (wg f g)) (hn : n ≤ 8) {m : Nat} (hm : m < n) (ht : f (5 * m + 3) < 4) (hg : ∀ j, j < n → g j < 2 ^ 31) (hf : f 41 ≤ 99) (hQ : Q = fun v h' => v = some (.int (nI (pfm n f g m).2)) ∧ TA h' a n (wg f (pfm n f g m).1) ∧ FR a (a + 8) h h') (hd : 2 ≤ d) : ev_X scr d cd_X4_payFor 0 [.ref a, .int (nI m), .float 0, .float 0, .float 0, .float 0, .float 0] [] h Q := by
  have e3 : ∀ j, wg f g (5 * j + 3) = f (5 * j + 3) := fun j => wg_ne (by omega)
  have e4 : wg f g (5 * m + 4) = f (5 * m + 4) := wg_ne (by omega)
  have e41 : wg f g 41 = f 41 := wg_ne (by decide)
  refine ex_go 80 rfl ?_
  refine ex_getf rfl hT.1 rfl rfl ?_
  refine ex_go 80 rfl ?_
  refine ex_ia _ rfl hT.2.2.2.2.1 rfl (by first | exact trivial | assumption | (show _ < _; omega)) (by omega) (by omega) rfl ?_
  rw [e3 m, tv_lt ht]
  refine ex_cv rfl rfl rfl rfl hT.1 rfl (d' := 0) (by omega) (c_menOfTen hT hn ht) ?_
  simp only [e3]
  refine ex_go 80 rfl ?_
  refine ex_getf rfl hT.1 rfl rfl ?_
  refine ex_go 80 rfl ?_
  refine ex_ia _ rfl hT.2.2.2.2.2.1 rfl (by first | exact trivial | assumption | (show _ < _; omega)) (by omega) (by omega) rfl ?_
  refine ex_go 80 rfl ?_
  try dsimp only
  try simp only [nI_inc, nI_1, nI_add, nI_mul2, tb_and, tb_or, tb_andn]
  rw [e4]
  refine ex_cs rfl rfl rfl (d' := 0) (by omega) (c_withBit false (by omega)) ?_
  have hx : pyr n f m < 256 := by
    unfold pyr
    refine Nat.lt_of_le_of_lt ?_ (bs_256 (fun j => decide (f (5 * j + 3) = f (5 * m + 3))) hn)
    refine Nat.le_trans (m := tb_wo (bs (fun j => decide (f (5 * j + 3) = f (5 * m + 3))) n) (f (5 * m + 4))) ?_ ?_ <;> exact tb_wo_le _ _
  show ev_X scr d _ _ _ [.int (nI (pyr n f m))] _ _
  refine ex_go 80 rfl ?_
  refine ex_cs rfl rfl rfl (d' := 0) (by omega) (c_bitCount hx) ?_
  have hp8 := pc8_le (pyr n f m)
  unfold pfm at hQ
  refine ex_go 80 rfl ?_
  refine ex_zne rfl (fun hc => ?_) (fun hc => ?_)
  · have h0 : ¬ pc8 (pyr n f m) = 0 := fun q => hc (by rw [q]; rfl)
    have h0I := hc
    rw [if_neg h0] at hQ
    refine ex_go 80 rfl ?_
    refine ex_getf rfl hT.1 rfl rfl ?_
    refine ex_go 80 rfl ?_
    rw [e41]
    refine ex_irem (v := nI (f 41 % pc8 (pyr n f m))) rfl (hc) (pk_rem (by omega) (by omega) (by omega)) ?_
    refine ex_go 80 rfl ?_
    have hr : f 41 % pc8 (pyr n f m) < 2 ^ 30 := Nat.lt_of_le_of_lt (Nat.mod_le _ _) (by omega)
    have hq : f 41 / pc8 (pyr n f m) ≤ 99 := Nat.le_trans (Nat.div_le_self _ _) hf
    have hdv : nI (f 41) / nI (pc8 (pyr n f m)) = nI (f 41 / pc8 (pyr n f m)) := pk_div (by omega) (by omega) (by omega)
    generalize f 41 / pc8 (pyr n f m) = q at *
    generalize f 41 % pc8 (pyr n f m) = r at *
    rw [show nI r = nI r - nI 0 by rw [pk_sub (Nat.zero_le _)]; rfl]
    refine ev_loop n (fun i => ∀ h1, TA h1 a n (wg f (pf q r (pyr n f m) g i).1) → FR a (a + 8) h h1 → ev_X scr d cd_X4_payFor 33 [.ref a, .int (nI m), .int (nI (pyr n f m)), .int (nI (pc8 (pyr n f m))), .int (nI r - nI (pf q r (pyr n f m) g i).2.2), .int (nI (pf q r (pyr n f m) g i).2.1), .int (nI i)] [] h1 Q) (fun i hi K h1 hT1 hF1 => ?_) (fun h1 hT1 hF1 => ?_) h hT FR.rf
    · skip
      refine ex_nop rfl ?_
      refine ex_go 80 rfl ?_
      refine ex_getf rfl hT1.1 rfl rfl ?_
      refine ex_igeF rfl (nI_ge hi (by first | omega | decide)) ?_
      refine ex_go 80 rfl ?_
      refine ex_cs rfl rfl rfl (d' := 0) (by omega) (c_bitOf (by omega) (by omega)) ?_
      have e41' : wg f (pf q r (pyr n f m) g i).1 41 = f 41 := wg_ne (by decide)
      have hci := pf_c q r (pyr n f m) g i
      have hgi : (pf q r (pyr n f m) g i).1 i < 2 ^ 31 := Nat.lt_of_le_of_lt (pf_le _ _ _ _ _ _) (hg i hi)
      refine ex_zeq rfl (fun hc => ?_) (fun hc => ?_)
      · rw [tb_b0] at hc
        rw [pf_f hc] at K
        refine ex_go 80 rfl ?_
        try dsimp only
        try simp only [nI_inc, nI_1, nI_add, nI_mul2, tb_and, tb_or, tb_andn]
        exact K h1 hT1 hF1
      · have hb : (pyr n f m).testBit i = true := by simpa [tb_b0] using hc
        rw [pf_t hb] at K
        have tail : ∀ x : Int32, x = nI (pfd q r (pf q r (pyr n f m) g i).2.2) → ev_X scr d cd_X4_payFor 55 [.ref a, .int (nI m), .int (nI (pyr n f m)), .int (nI (pc8 (pyr n f m))), .int (nI r - nI (pf q r (pyr n f m) g i).2.2), .int (nI (pf q r (pyr n f m) g i).2.1), .int (nI i)] [.int x, .int (nI i), .ref a, .int (nI (pf q r (pyr n f m) g i).2.1)] h1 Q := by
          intro x hx
          subst hx
          have hpd : pfd q r (pf q r (pyr n f m) g i).2.2 < 2 ^ 31 := by unfold pfd; split <;> omega
          refine ex_cvx rfl rfl rfl rfl hT1.1 rfl (d' := 1) (by omega) (c_takeFrom hT1 hn hi hpd hgi (Nat.le_refl _)) ?_
          rintro v2 h2 ⟨rfl, hT2, hF2⟩
          refine ex_go 80 rfl ?_
          dsimp only
          rw [nI_add, nI_inc, un_dec]
          exact K h2 hT2 (hF1.tr hF2)
        refine ex_go 80 rfl ?_
        refine ex_getf rfl hT1.1 rfl rfl ?_
        refine ex_go 80 rfl ?_
        rw [e41']
        refine ex_idiv (v := nI q) rfl (h0I) (hdv) ?_
        refine ex_go 80 rfl ?_
        refine ex_zle rfl (fun hc => ?_) (fun hc => ?_)
        · rw [un_le hr (by omega)] at hc
          refine ex_go 80 rfl ?_
          try dsimp only
          try simp only [nI_inc, nI_1, nI_add, nI_mul2, tb_and, tb_or, tb_andn]
          exact tail _ (by rw [pfd, if_neg hc]; exact nI_add q 0)
        · rw [un_le hr (by omega)] at hc
          refine ex_go 80 rfl ?_
          try dsimp only
          try simp only [nI_inc, nI_1, nI_add, nI_mul2, tb_and, tb_or, tb_andn]
          exact tail _ (by rw [pfd, if_pos (Classical.not_not.mp hc)])
    · skip
      refine ex_nop rfl ?_
      refine ex_go 80 rfl ?_
      refine ex_getf rfl hT1.1 rfl rfl ?_
      refine ex_igeT rfl (nI_le (Nat.le_refl _) (by first | omega | decide)) ?_
      refine ex_go 80 rfl ?_
      exact ex_iret rfl (by rw [hQ]; exact ⟨rfl, hT1, hF1⟩)
  · have h0 : pc8 (pyr n f m) = 0 := (nI_eq (b := 0) (by omega) (by decide)).mp hc
    rw [if_pos h0] at hQ
    refine ex_go 80 rfl ?_
    exact ex_iret rfl (by rw [hQ]; exact ⟨rfl, hT, FR.rf⟩)
end PAY
end
section
/-! A year's payments; copies. -/
theorem wg_bs (f g : Nat → Nat) (t n : Nat) : bs (fun m => decide (wg f g (5 * m + 3) = t)) n = bs (fun m => decide (f (5 * m + 3) = t)) n := bs_cong (fun i _ => by rw [wg_ne (by omega)])
section YEAR
variable {scr : List Int32} {d : Nat} {h : ev_H} {a n : Nat} {f g : Nat → Nat}
theorem c_payFines (hT : TA h a n (wg f g)) (gd : GD n f) (hg : ∀ j, j < n → g j < 2 ^ 31) {w : Nat} (hw : w < 256) (hd : 3 ≤ d) : ev_X scr d cd_X4_payFines 0 [.ref a, .int (nI w), .float 0, .float 0] [] h (fun v h' => v = some (.int (nI (fi n f w g n).2)) ∧ TA h' a n (wg f (fi n f w g n).1) ∧ FR a (a + 8) h h') := by
  have hn := gd.1
  refine ex_go 80 rfl ?_
  refine ev_loop n (fun i => ∀ h1, TA h1 a n (wg f (fi n f w g i).1) → FR a (a + 8) h h1 → ev_X scr d cd_X4_payFines 4 [.ref a, .int (nI w), .int (nI (fi n f w g i).2), .int (nI i)] [] h1 _) (fun i hi K h1 hT1 hF1 => ?_) (fun h1 hT1 hF1 => ?_) h hT FR.rf
  · skip
    have e3 : wg f (fi n f w g i).1 (5 * i + 3) = f (5 * i + 3) := wg_ne (by omega)
    refine ex_nop rfl ?_
    refine ex_go 80 rfl ?_
    refine ex_getf rfl hT1.1 rfl rfl ?_
    refine ex_igeF rfl (nI_ge hi (by first | omega | decide)) ?_
    refine ex_go 80 rfl ?_
    refine ex_cs rfl rfl rfl (d' := 0) (by omega) (c_bitOf (by omega) (by omega)) ?_
    refine ex_zeq rfl (fun hc => ?_) (fun hc => ?_)
    · rw [tb_b0] at hc
      rw [fi, if_neg (by rw [hc]; exact fun q => absurd q.1 (by decide))] at K
      refine ex_go 80 rfl ?_
      try dsimp only
      try simp only [nI_inc, nI_1, nI_add, nI_mul2, tb_and, tb_or, tb_andn]
      exact K h1 hT1 hF1
    · have hb : w.testBit i = true := by simpa [tb_b0] using hc
      refine ex_go 80 rfl ?_
      refine ex_getf rfl hT1.1 rfl rfl ?_
      refine ex_go 80 rfl ?_
      refine ex_ia _ rfl hT1.2.2.2.2.1 rfl (by first | exact trivial | assumption | (show _ < _; omega)) (by omega) (by omega) rfl ?_
      refine ex_zlt rfl (fun hc => ?_) (fun hc => ?_)
      · rw [e3, tv_neg] at hc
        rw [fi, if_neg (fun q => hc q.2)] at K
        refine ex_go 80 rfl ?_
        try dsimp only
        try simp only [nI_inc, nI_1, nI_add, nI_mul2, tb_and, tb_or, tb_andn]
        exact K h1 hT1 hF1
      · rw [e3, tv_neg] at hc
        have ht : f (5 * i + 3) < 4 := Classical.not_not.mp hc
        rw [fi, if_pos ⟨hb, ht⟩] at K
        refine ex_go 80 rfl ?_
        refine ex_cvx rfl rfl rfl rfl hT1.1 rfl (d' := 2) (by omega) (c_payFor hT1 hn hi ht (fun j hj => Nat.lt_of_le_of_lt (fi_le _ _ _ _ _ _) (hg j hj)) gd.2.2.2.1 rfl (Nat.le_refl _)) ?_
        rintro v2 h2 ⟨rfl, hT2, hF2⟩
        refine ex_go 80 rfl ?_
        try dsimp only
        try simp only [nI_inc, nI_1, nI_add, nI_mul2, tb_and, tb_or, tb_andn]
        exact K h2 hT2 (hF1.tr hF2)
  · skip
    refine ex_nop rfl ?_
    refine ex_go 80 rfl ?_
    refine ex_getf rfl hT1.1 rfl rfl ?_
    refine ex_igeT rfl (nI_le (Nat.le_refl _) (by first | omega | decide)) ?_
    refine ex_go 80 rfl ?_
    exact ex_iret rfl (⟨rfl, hT1, hF1⟩)
theorem c_payCosts (hT : TA h a n (wg f g)) (gd : GD n f) (hg : ∀ j, j < n → g j < 2 ^ 31) (hd : 2 ≤ d) : ev_X scr d cd_X4_payCosts 0 [.ref a, .float 0, .float 0, .float 0, .float 0, .float 0, .float 0] [] h (fun v h' => v = some (.int (nI (co n f g 4).2)) ∧ TA h' a n (wg f (co n f g 4).1) ∧ FR a (a + 8) h h') := by
  have hn := gd.1
  have hw := gd.w
  have h42 := gd.2.2.2.2.1
  refine ex_go 80 rfl ?_
  refine ev_loop 4 (fun t => ∀ h1, TA h1 a n (wg f (co n f g t).1) → FR a (a + 8) h h1 → ev_X scr d cd_X4_payCosts 4 [.ref a, .int (nI (co n f g t).2), .int (nI t), .float 0, .float 0, .float 0, .float 0] [] h1 _) (fun t ht K h1 hT1 hF1 => ?_) (fun h1 hT1 hF1 => ?_) h hT FR.rf
  · skip
    have e42 : wg f (co n f g t).1 42 = f 42 := wg_ne (by decide)
    have e40 : wg f (co n f g t).1 40 = f 40 := wg_ne (by decide)
    refine ex_nop rfl ?_
    refine ex_go 80 rfl ?_
    refine ex_igeF rfl (nI_ge ht (by first | omega | decide)) ?_
    refine ex_go 80 rfl ?_
    refine ex_cv rfl rfl rfl rfl hT1.1 rfl (d' := 0) (by omega) (c_menOfTen hT1 hn ht) ?_
    rw [wg_bs]
    refine ex_go 80 rfl ?_
    refine ex_getf rfl hT1.1 rfl rfl ?_
    refine ex_go 80 rfl ?_
    refine ex_getf rfl hT1.1 rfl rfl ?_
    refine ex_go 80 rfl ?_
    try dsimp only
    try simp only [nI_inc, nI_1, nI_add, nI_mul2, tb_and, tb_or, tb_andn]
    rw [e42, e40]
    refine ex_cs rfl rfl rfl (d' := 0) (by omega) (c_bitCount (and256 (bs_256 _ hn))) ?_
    rw [pc8_bsa _ _ hn]
    have hwc : wct n f t ≤ 8 := by
      have := sm_le (g := fun m => tb_b (decide (f (5 * m + 3) = t) && (f 40).testBit m)) (c := 1) (n := n) (fun i _ => tb_le _)
      unfold wct
      omega
    have hl0 : f 42 * wct n f t < 2 ^ 31 := Nat.lt_of_le_of_lt (Nat.mul_le_mul h42 hwc) (by decide)
    have K' : ∀ h2, TA h2 a n (wg f (cot n f (co n f g t).1 t).1) → FR a (a + 8) h h2 → ev_X scr d cd_X4_payCosts 4 [.ref a, .int (nI ((co n f g t).2 + (cot n f (co n f g t).1 t).2.2)), .int (nI (t + 1)), .float 0, .float 0, .float 0, .float 0] [] h2 _ := K
    clear K
    have hx : bs (fun m => decide (f (5 * m + 3) = t)) n < 256 := bs_256 _ hn
    unfold cot at K'
    refine ex_go 80 rfl ?_
    try dsimp only
    try simp only [nI_inc, nI_1, nI_add, nI_mul2, tb_and, tb_or, tb_andn]
    show ev_X scr d cd_X4_payCosts 23 [.ref a, .int (nI (co n f g t).2), .int (nI t), .int (nI (bs (fun m => decide (f (5 * m + 3) = t)) n)), .int (nI (f 42 * wct n f t)), .int 0, .float 0] [] h1 _
    generalize bs (fun m => decide (f (5 * m + 3) = t)) n = x at *
    generalize f 42 * wct n f t = l at *
    have hg1 : ∀ j, j < n → (co n f g t).1 j < 2 ^ 31 := fun j hj => Nat.lt_of_le_of_lt (co_le _ _ _ _ _) (hg j hj)
    generalize (co n f g t).1 = g1 at *
    generalize (co n f g t).2 = p1 at *
    refine ev_loop n (fun i => ∀ h2, TA h2 a n (wg f (cs x l g1 i).1) → FR a (a + 8) h h2 → ev_X scr d cd_X4_payCosts 23 [.ref a, .int (nI (p1 + (cs x l g1 i).2.2)), .int (nI t), .int (nI x), .int (nI (cs x l g1 i).2.1), .int (nI i), .float 0] [] h2 _) (fun i hi K h2 hT2 hF2 => ?_) (fun h2 hT2 hF2 => ?_) h1 hT1 hF1
    · skip
      have hli := cs_l x l g1 i
      have hgi : (cs x l g1 i).1 i < 2 ^ 31 := Nat.lt_of_le_of_lt (cs_le _ _ _ _ _) (hg1 i hi)
      refine ex_nop rfl ?_
      refine ex_go 80 rfl ?_
      refine ex_getf rfl hT2.1 rfl rfl ?_
      refine ex_igeF rfl (nI_ge hi (by first | omega | decide)) ?_
      refine ex_go 80 rfl ?_
      refine ex_zle rfl (fun hc => ?_) (fun hc => ?_)
      · have h0 : (cs x l g1 i).2.1 = 0 := by
          have := (nI_leI (b := 0) (by omega) (by decide)).mp hc
          omega
        have e := cs_0 x l g1 h0 (n - i)
        rw [Nat.add_sub_cancel' (Nat.le_of_lt hi)] at e
        rw [e] at K'
        refine ex_go 80 rfl ?_
        try dsimp only
        try simp only [nI_inc, nI_1, nI_add, nI_mul2, tb_and, tb_or, tb_andn]
        exact ex_weak (K' h2 hT2 hF2) (by repeat (first | exact W_n | refine W_e ?_ | refine W_i ?_ | refine W_r ?_))
      · refine ex_go 80 rfl ?_
        refine ex_cs rfl rfl rfl (d' := 0) (by omega) (c_bitOf (by omega) (by omega)) ?_
        refine ex_zeq rfl (fun hc => ?_) (fun hc => ?_)
        · rw [tb_b0] at hc
          rw [cs_f hc] at K
          refine ex_go 80 rfl ?_
          try dsimp only
          try simp only [nI_inc, nI_1, nI_add, nI_mul2, tb_and, tb_or, tb_andn]
          exact K h2 hT2 hF2
        · have hb : x.testBit i = true := by simpa [tb_b0] using hc
          rw [cs_t hb] at K
          refine ex_go 80 rfl ?_
          refine ex_cvx rfl rfl rfl rfl hT2.1 rfl (d' := 1) (by omega) (c_takeFrom hT2 hn hi (by omega) hgi (Nat.le_refl _)) ?_
          rintro v3 h3 ⟨rfl, hT3, hF3⟩
          refine ex_go 80 rfl ?_
          dsimp only
          rw [pk_sub (Nat.min_le_left _ _), nI_add, nI_inc, Nat.add_assoc]
          exact ex_weak (K h3 hT3 (hF2.tr hF3)) (by repeat (first | exact W_n | refine W_e ?_ | refine W_i ?_ | refine W_r ?_))
    · skip
      refine ex_nop rfl ?_
      refine ex_go 80 rfl ?_
      refine ex_getf rfl hT2.1 rfl rfl ?_
      refine ex_igeT rfl (nI_le (Nat.le_refl _) (by first | omega | decide)) ?_
      refine ex_go 80 rfl ?_
      try dsimp only
      try simp only [nI_inc, nI_1, nI_add, nI_mul2, tb_and, tb_or, tb_andn]
      exact ex_weak (K' h2 hT2 hF2) (by repeat (first | exact W_n | refine W_e ?_ | refine W_i ?_ | refine W_r ?_))
  · skip
    refine ex_nop rfl ?_
    refine ex_go 80 rfl ?_
    refine ex_igeT rfl (nI_le (Nat.le_refl _) (by first | omega | decide)) ?_
    refine ex_go 80 rfl ?_
    exact ex_iret rfl (⟨rfl, hT1, hF1⟩)
theorem c_payAll (hT : TA h a n (wg f g)) (gd : GD n f) (hg : ∀ j, j < n → g j < 2 ^ 31) {w : Nat} (hw : w < 256) (hd : 4 ≤ d) : ev_X scr d cd_X4_payAll 0 [.ref a, .int (nI w), .float 0] [] h (fun v h' => v = some (.int (nI (yr n f g w).2)) ∧ TA h' a n (wg f (yr n f g w).1) ∧ FR a (a + 8) h h') := by
  refine ex_go 80 rfl ?_
  refine ex_cvx rfl rfl rfl rfl hT.1 rfl (d' := 3) (by omega) (c_payFines hT gd hg hw (Nat.le_refl _)) ?_
  rintro v1 h1 ⟨rfl, hT1, hF1⟩
  refine ex_go 80 rfl ?_
  refine ex_cvx rfl rfl rfl rfl hT1.1 rfl (d' := 2) (by omega) (c_payCosts hT1 gd (fun j hj => Nat.lt_of_le_of_lt (fi_le _ _ _ _ _ _) (hg j hj)) (Nat.le_refl _)) ?_
  rintro v2 h2 ⟨rfl, hT2, hF2⟩
  refine ex_go 80 rfl ?_
  try dsimp only
  try simp only [nI_inc, nI_1, nI_add, nI_mul2, tb_and, tb_or, tb_andn]
  exact ex_iret rfl (⟨rfl, hT2, hF1.tr hF2⟩)
theorem c_copyStock0 {b : Nat} {f' : Nat → Nat} {x0 x1 x2 x3 x4 x5 : Int32} {P : Nat → Prop} {gg : Nat → Int32} (hO : h[a]? = some (.inr (4, [.int x0, .int x1, .int x2, .int x3, .int x4, .int x5, .ref (a + 1), .ref (a + 2), .ref (a + 3), .ref (a + 4), .ref (a + 5), .ref (a + 6), .ref (a + 7), .ref (a + 8)]))) (hI : IA h (a + 3) 8 P gg) (hS : TA h b n f') (hab : a + 8 < b ∨ b + 8 < a) : ev_X scr d cd_X4_copyStock 0 [.ref a, .ref b, .float 0] [] h (fun v h' => v = none ∧ IA h' (a + 3) 8 (fun m => m < n) (fun m => nI (f' (5 * m + 2))) ∧ SB (a + 3) h h') := by
  refine ex_go 80 rfl ?_
  refine ev_loop 8 (fun i => ∀ h1, IA h1 (a + 3) 8 (fun m => m < i ∧ m < n) (fun m => nI (f' (5 * m + 2))) → SB (a + 3) h h1 → ev_X scr d cd_X4_copyStock 2 [.ref a, .ref b, .int (nI i)] [] h1 _) (fun i hi K h1 hA1 hB1 => ?_) (fun h1 hA1 hB1 => ?_) h hI.none SB.rf
  · have hO1 := (hB1.2 a (by omega)).trans hO
    have hO2 := (hB1.2 b (by omega)).trans hS.1
    have hS1 := hS.2.2.2.1.sb hB1 (by omega)
    refine ex_nop rfl ?_
    refine ex_go 80 rfl ?_
    refine ex_igeF rfl (nI_ge hi (by first | omega | decide)) ?_
    refine ex_go 80 rfl ?_
    refine ex_getf rfl hO1 rfl rfl ?_
    refine ex_go 80 rfl ?_
    refine ex_getf rfl hO2 rfl rfl ?_
    refine ex_go 80 rfl ?_
    refine ex_iaw _ rfl hS1 rfl (by omega) (by omega) (fun x_stock hx_stock => ?_)
    refine ex_is _ rfl hA1 rfl (by omega) (by omega) (fun h2 hA2 hB2 => ?_)
    refine ex_go 80 rfl ?_
    try dsimp only
    try simp only [nI_inc, nI_1, nI_add, nI_mul2, tb_and, tb_or, tb_andn]
    exact K h2 (hA2.grow hx_stock) (hB1.tr hB2)
  · refine ex_nop rfl ?_
    refine ex_go 80 rfl ?_
    refine ex_igeT rfl (nI_le (Nat.le_refl _) (by first | omega | decide)) ?_
    exact ex_vret rfl (⟨rfl, hA1.congr (fun m hm hp => ⟨⟨hm, hp⟩, rfl⟩), hB1⟩)
theorem c_copyStock {b : Nat} {f' : Nat → Nat} (hT : TA h a n f) (hS : TA h b n f') (hab : a + 8 < b ∨ b + 8 < a) : ev_X scr d cd_X4_copyStock 0 [.ref a, .ref b, .float 0] [] h (fun v h' => v = none ∧ TA h' a n (wg f (fun m => f' (5 * m + 2))) ∧ FR a (a + 8) h h') := by
  refine ex_mono (c_copyStock0 hT.1 hT.2.2.2.1 hS hab) ?_
  rintro v h' ⟨q, hA, hB⟩
  exact ⟨q, hT.g_stock hA hB, hB.fr (by omega) (by omega)⟩
end YEAR
end
section
/-! One town as another; a town made empty. -/
section COPY
variable {scr : List Int32} {d : Nat} {h : ev_H} {a b n n' : Nat} {f f' : Nat → Nat}
theorem c_copyFrom {Q : Option Value → ev_H → Prop} (hT : TA h a n f) (hS : TA h b n' f') (hab : a + 8 < b ∨ b + 8 < a) (hQ : Q = fun v h' => v = none ∧ TA h' a n' f' ∧ FR a (a + 8) h h') (hd : 1 ≤ d) : ev_X scr d cd_X4_copyFrom 0 [.ref a, .ref b, .float 0] [] h Q := by
  refine ex_go 80 rfl ?_
  refine ex_getf rfl hS.1 rfl rfl ?_
  refine ex_pf rfl hT.1 rfl rfl (fun h1 hO1 hB1 => ?_)
  have hF1 := hB1.fr (a := a) (b := a + 8) (by omega) (by omega)
  have hS1 := hS.kept hF1 (by omega)
  refine ex_go 80 rfl ?_
  refine ex_getf rfl hS1.1 rfl rfl ?_
  refine ex_pf rfl hO1 rfl rfl (fun h2 hO2 hB2 => ?_)
  have hF2 := hB2.fr (a := a) (b := a + 8) (by omega) (by omega)
  have hS2 := hS1.kept hF2 (by omega)
  refine ex_go 80 rfl ?_
  refine ex_getf rfl hS2.1 rfl rfl ?_
  refine ex_pf rfl hO2 rfl rfl (fun h3 hO3 hB3 => ?_)
  have hF3 := hB3.fr (a := a) (b := a + 8) (by omega) (by omega)
  have hS3 := hS2.kept hF3 (by omega)
  refine ex_go 80 rfl ?_
  refine ex_getf rfl hS3.1 rfl rfl ?_
  refine ex_pf rfl hO3 rfl rfl (fun h4 hO4 hB4 => ?_)
  have hF4 := hB4.fr (a := a) (b := a + 8) (by omega) (by omega)
  have hS4 := hS3.kept hF4 (by omega)
  refine ex_go 80 rfl ?_
  refine ex_getf rfl hS4.1 rfl rfl ?_
  refine ex_pf rfl hO4 rfl rfl (fun h5 hO5 hB5 => ?_)
  have hF5 := hB5.fr (a := a) (b := a + 8) (by omega) (by omega)
  have hS5 := hS4.kept hF5 (by omega)
  refine ex_go 80 rfl ?_
  refine ex_getf rfl hS5.1 rfl rfl ?_
  refine ex_pf rfl hO5 rfl rfl (fun h6 hO6 hB6 => ?_)
  have hF6 := hB6.fr (a := a) (b := a + 8) (by omega) (by omega)
  have hS6 := hS5.kept hF6 (by omega)
  have hF := ((((hF1.tr hF2).tr hF3).tr hF4).tr hF5).tr hF6
  have hB := ((((hB1.tr hB2).tr hB3).tr hB4).tr hB5).tr hB6
  have hO : h6[a]? = some (.inr (4, [.int (nI n'), .int (nI (f' 41)), .int (nI (f' 42)), .int (nI (f' 43)), .int (nI (f' 40)), .int (nI (f' 44)), .ref (a + 1), .ref (a + 2), .ref (a + 3), .ref (a + 4), .ref (a + 5), .ref (a + 6), .ref (a + 7), .ref (a + 8)])) := hO6
  obtain ⟨-, t1, t2, t3, t4, t5, t6, t7, t8⟩ := hT
  have t1 := t1.sb hB (by omega)
  have t2 := t2.sb hB (by omega)
  have t3 := t3.sb hB (by omega)
  have t4 := t4.sb hB (by omega)
  have t5 := t5.sb hB (by omega)
  have t6 := t6.sb hB (by omega)
  have t7 := t7.sb hB (by omega)
  have t8 := t8.sb hB (by omega)
  clear hO1 hO2 hO3 hO4 hO5 hO6 hB1 hB2 hB3 hB4 hB5 hB6 hF1 hF2 hF3 hF4 hF5 hF6 hS1 hS2 hS3 hS4 hS5 hB
  refine ex_go 80 rfl ?_
  refine ev_loop 8 (fun i => ∀ k, k[a]? = h6[a]? → IA k (a + 1) 8 (fun m => m < i ∧ m < n') (fun m => nI (f' (5 * m))) → IA k (a + 2) 8 (fun m => m < i ∧ m < n') (fun m => nI (f' (5 * m + 1))) → IA k (a + 4) 8 (fun m => m < i ∧ m < n') (fun m => tv (f' (5 * m + 3))) → IA k (a + 5) 8 (fun m => m < i ∧ True) (fun m => nI (f' (5 * m + 4))) → k[a + 3]? = h6[a + 3]? → k[a + 6]? = h6[a + 6]? → k[a + 7]? = h6[a + 7]? → k[a + 8]? = h6[a + 8]? → FR a (a + 8) h k → ev_X scr d cd_X4_copyFrom 26 [.ref a, .ref b, .int (nI i)] [] k Q) (fun i hi K k ko k1 k2 k4 k5 q3 q6 q7 q8 kF => ?_) (fun k ko k1 k2 k4 k5 q3 q6 q7 q8 kF => ?_) h6 rfl t1.none t2.none t4.none t5.none rfl rfl rfl rfl hF
  · have kO := ko.trans hO
    have kS := hS.kept kF (by omega)
    refine ex_nop rfl ?_
    refine ex_go 80 rfl ?_
    refine ex_igeF rfl (nI_ge hi (by first | omega | decide)) ?_
    refine ex_go 80 rfl ?_
    refine ex_getf rfl kO rfl rfl ?_
    refine ex_go 80 rfl ?_
    refine ex_getf rfl kS.1 rfl rfl ?_
    refine ex_go 80 rfl ?_
    refine ex_iaw _ rfl kS.2.1 rfl (by omega) (by omega) (fun x_kinds hx_kinds => ?_)
    refine ex_is _ rfl k1 rfl (by omega) (by omega) (fun j1 A1 B1 => ?_)
    have G1 := B1.fr (a := a) (b := a + 8) (by omega) (by omega)
    have jO := (B1.2 a (by omega)).trans kO
    have jS := kS.kept G1 (by omega)
    have j2 := k2.sb B1 (by omega)
    refine ex_go 80 rfl ?_
    refine ex_getf rfl jO rfl rfl ?_
    refine ex_go 80 rfl ?_
    refine ex_getf rfl jS.1 rfl rfl ?_
    refine ex_go 80 rfl ?_
    refine ex_iaw _ rfl jS.2.2.1 rfl (by omega) (by omega) (fun x_odds hx_odds => ?_)
    refine ex_is _ rfl j2 rfl (by omega) (by omega) (fun l1 A2 B2 => ?_)
    have G2 := B2.fr (a := a) (b := a + 8) (by omega) (by omega)
    have lO := (B2.2 a (by omega)).trans jO
    have lS := jS.kept G2 (by omega)
    have l4 := (k4.sb B1 (by omega)).sb B2 (by omega)
    refine ex_go 80 rfl ?_
    refine ex_getf rfl lO rfl rfl ?_
    refine ex_go 80 rfl ?_
    refine ex_getf rfl lS.1 rfl rfl ?_
    refine ex_go 80 rfl ?_
    refine ex_iaw _ rfl lS.2.2.2.2.1 rfl (by omega) (by omega) (fun x_tens hx_tens => ?_)
    refine ex_is _ rfl l4 rfl (by omega) (by omega) (fun m1 A4 B4 => ?_)
    have G4 := B4.fr (a := a) (b := a + 8) (by omega) (by omega)
    have mO := (B4.2 a (by omega)).trans lO
    have mS := lS.kept G4 (by omega)
    have m5 := ((k5.sb B1 (by omega)).sb B2 (by omega)).sb B4 (by omega)
    refine ex_go 80 rfl ?_
    refine ex_getf rfl mO rfl rfl ?_
    refine ex_go 80 rfl ?_
    refine ex_getf rfl mS.1 rfl rfl ?_
    refine ex_go 80 rfl ?_
    refine ex_iaw _ rfl mS.2.2.2.2.2.1 rfl (by omega) (by omega) (fun x_kins hx_kins => ?_)
    refine ex_is _ rfl m5 rfl (by omega) (by omega) (fun p1 A5 B5 => ?_)
    have G5 := B5.fr (a := a) (b := a + 8) (by omega) (by omega)
    have eq : ∀ c, c ≠ a + 1 → c ≠ a + 2 → c ≠ a + 4 → c ≠ a + 5 → p1[c]? = k[c]? := fun c u1 u2 u3 u4 => (((B5.2 c u4).trans (B4.2 c u3)).trans (B2.2 c u2)).trans (B1.2 c u1)
    refine ex_go 80 rfl ?_
    try dsimp only
    try simp only [nI_inc, nI_1, nI_add, nI_mul2, tb_and, tb_or, tb_andn]
    exact K p1 ((eq a (by omega) (by omega) (by omega) (by omega)).trans ko) ((((A1.grow hx_kinds).sb B2 (by omega)).sb B4 (by omega)).sb B5 (by omega)) (((A2.grow hx_odds).sb B4 (by omega)).sb B5 (by omega)) ((A4.grow hx_tens).sb B5 (by omega)) (A5.grow hx_kins) ((eq _ (by omega) (by omega) (by omega) (by omega)).trans q3) ((eq _ (by omega) (by omega) (by omega) (by omega)).trans q6) ((eq _ (by omega) (by omega) (by omega) (by omega)).trans q7) ((eq _ (by omega) (by omega) (by omega) (by omega)).trans q8) ((((kF.tr G1).tr G2).tr G4).tr G5)
  · have kO := ko.trans hO
    have kS := hS.kept kF (by omega)
    refine ex_nop rfl ?_
    refine ex_go 80 rfl ?_
    refine ex_igeT rfl (nI_le (Nat.le_refl _) (by first | omega | decide)) ?_
    refine ex_go 80 rfl ?_
    refine ex_cvx rfl rfl rfl rfl kO rfl (d' := 0) (by omega) (c_copyStock0 kO (t3.kept q3) kS hab) ?_
    rintro v1 j ⟨rfl, j3, B3⟩
    have G3 := B3.fr (a := a) (b := a + 8) (by omega) (by omega)
    have jO := (B3.2 a (by omega)).trans kO
    have j1 := k1.sb B3 (by omega)
    have j2 := k2.sb B3 (by omega)
    have j4 := k4.sb B3 (by omega)
    have j5 := k5.sb B3 (by omega)
    have q6 := (B3.2 _ (by omega)).trans q6
    have q7 := (B3.2 _ (by omega)).trans q7
    have q8 := (B3.2 _ (by omega)).trans q8
    have jF := kF.tr G3
    clear k1 k2 k4 k5 q3 kF kO ko kS G3 B3
    refine ex_go 80 rfl ?_
    refine ev_loop 4 (fun i => ∀ k, SB (a + 6) j k → IA k (a + 6) 4 (fun m => m < i ∧ True) (fun t => nI (f' (60 + t))) → ev_X scr d cd_X4_copyFrom 69 [.ref a, .ref b, .int (nI i)] [] k Q) (fun i hi K k kB k6 => ?_) (fun k kB k6 => ?_) j SB.rf (t6.kept q6).none
    · have kO := (kB.2 a (by omega)).trans jO
      have kS := hS.kept (jF.tr (kB.fr (by omega) (by omega))) (by omega)
      refine ex_nop rfl ?_
      refine ex_go 80 rfl ?_
      refine ex_igeF rfl (nI_ge hi (by first | omega | decide)) ?_
      refine ex_go 80 rfl ?_
      refine ex_getf rfl kO rfl rfl ?_
      refine ex_go 80 rfl ?_
      refine ex_getf rfl kS.1 rfl rfl ?_
      refine ex_go 80 rfl ?_
      refine ex_iaw _ rfl kS.2.2.2.2.2.2.1 rfl (by omega) (by omega) (fun x_mosts hx_mosts => ?_)
      refine ex_is _ rfl k6 rfl (by omega) (by omega) (fun p A B => ?_)
      refine ex_go 80 rfl ?_
      try dsimp only
      try simp only [nI_inc, nI_1, nI_add, nI_mul2, tb_and, tb_or, tb_andn]
      exact K p (kB.tr B) (A.grow hx_mosts)
    · have kO := (kB.2 a (by omega)).trans jO
      have q7 := (kB.2 _ (by omega)).trans q7
      have q8 := (kB.2 _ (by omega)).trans q8
      have kF := jF.tr (kB.fr (by omega) (by omega))
      refine ex_nop rfl ?_
      refine ex_go 80 rfl ?_
      refine ex_igeT rfl (nI_le (Nat.le_refl _) (by first | omega | decide)) ?_
      refine ex_go 80 rfl ?_
      refine ev_loop 6 (fun i => ∀ l, FR (a + 7) (a + 8) k l → IA l (a + 7) 6 (fun m => m < i ∧ m < f' 44) (fun m => nI (f' (45 + 2 * m))) → IA l (a + 8) 6 (fun m => m < i ∧ m < f' 44) (fun m => nI (f' (46 + 2 * m))) → ev_X scr d cd_X4_copyFrom 85 [.ref a, .ref b, .int (nI i)] [] l Q) (fun i hi K l lF l7 l8 => ?_) (fun l lF l7 l8 => ?_) k FR.rf (t7.kept q7).none (t8.kept q8).none
      · have lO := (lF.2 a (by omega)).trans kO
        have lS := hS.kept (kF.tr (lF.wide (by omega) (by omega))) (by omega)
        refine ex_nop rfl ?_
        refine ex_go 80 rfl ?_
        refine ex_igeF rfl (nI_ge hi (by first | omega | decide)) ?_
        refine ex_go 80 rfl ?_
        refine ex_getf rfl lO rfl rfl ?_
        refine ex_go 80 rfl ?_
        refine ex_getf rfl lS.1 rfl rfl ?_
        refine ex_go 80 rfl ?_
        refine ex_iaw _ rfl lS.2.2.2.2.2.2.2.1 rfl (by omega) (by omega) (fun x_seenMen hx_seenMen => ?_)
        refine ex_is _ rfl l7 rfl (by omega) (by omega) (fun p A B => ?_)
        have pO := (B.2 a (by omega)).trans lO
        have pS := lS.kept (B.fr (a := a) (b := a + 8) (by omega) (by omega)) (by omega)
        have p8 := l8.sb B (by omega)
        refine ex_go 80 rfl ?_
        refine ex_getf rfl pO rfl rfl ?_
        refine ex_go 80 rfl ?_
        refine ex_getf rfl pS.1 rfl rfl ?_
        refine ex_go 80 rfl ?_
        refine ex_iaw _ rfl pS.2.2.2.2.2.2.2.2 rfl (by omega) (by omega) (fun x_seenLess hx_seenLess => ?_)
        refine ex_is _ rfl p8 rfl (by omega) (by omega) (fun r A2 B2 => ?_)
        refine ex_go 80 rfl ?_
        try dsimp only
        try simp only [nI_inc, nI_1, nI_add, nI_mul2, tb_and, tb_or, tb_andn]
        exact K r ((lF.tr (B.fr (by omega) (by omega))).tr (B2.fr (by omega) (by omega))) ((A.grow hx_seenMen).sb B2 (by omega)) (A2.grow hx_seenLess)
      · have lO := (lF.2 a (by omega)).trans kO
        have hfin : FR (a + 6) (a + 8) j l := (kB.fr (by omega) (by omega)).tr (lF.wide (by omega) (by omega))
        refine ex_nop rfl ?_
        refine ex_go 80 rfl ?_
        refine ex_igeT rfl (nI_le (Nat.le_refl _) (by first | omega | decide)) ?_
        refine ex_vret rfl ?_
        rw [hQ]
        refine ⟨rfl, ⟨lO, ?_, ?_, ?_, ?_, ?_, ?_, l7.full, l8.full⟩, kF.tr (lF.wide (by omega) (by omega))⟩
        · exact (j1.fr hfin (by omega)).full
        · exact (j2.fr hfin (by omega)).full
        · exact j3.fr hfin (by omega)
        · exact (j4.fr hfin (by omega)).full
        · exact (j5.fr hfin (by omega)).full
        · exact (k6.fr lF (by omega)).full
/-- as clear() leaves it -/
def clF : Nat → Nat := fun j => if j = 41 then 12 else if j = 42 then 2 else if 60 ≤ j then 3 else 0
theorem c_clear (hT : TA h a n f) : ev_X scr d cd_X4_clear 0 [.ref a, .float 0] [] h (fun v h' => v = none ∧ TA h' a 0 clF ∧ FR a (a + 8) h h') := by
  refine ex_go 80 rfl ?_
  refine ex_pf rfl hT.1 rfl rfl (fun h1 hO1 hB1 => ?_)
  refine ex_go 80 rfl ?_
  refine ex_pf rfl hO1 rfl rfl (fun h2 hO2 hB2 => ?_)
  refine ex_go 80 rfl ?_
  refine ex_pf rfl hO2 rfl rfl (fun h3 hO3 hB3 => ?_)
  refine ex_go 80 rfl ?_
  refine ex_pf rfl hO3 rfl rfl (fun h4 hO4 hB4 => ?_)
  refine ex_go 80 rfl ?_
  refine ex_pf rfl hO4 rfl rfl (fun h5 hO5 hB5 => ?_)
  refine ex_go 80 rfl ?_
  refine ex_pf rfl hO5 rfl rfl (fun h6 hO6 hB6 => ?_)
  have hB := ((((hB1.tr hB2).tr hB3).tr hB4).tr hB5).tr hB6
  have hO : h6[a]? = some (.inr (4, [.int (nI 0), .int (nI (clF 41)), .int (nI (clF 42)), .int (nI (clF 43)), .int (nI (clF 40)), .int (nI (clF 44)), .ref (a + 1), .ref (a + 2), .ref (a + 3), .ref (a + 4), .ref (a + 5), .ref (a + 6), .ref (a + 7), .ref (a + 8)])) := hO6
  have hF := hB.fr (a := a) (b := a + 8) (by omega) (by omega)
  obtain ⟨-, t1, t2, t3, t4, t5, t6, t7, t8⟩ := hT
  have t1 := t1.sb hB (by omega)
  have t2 := t2.sb hB (by omega)
  have t3 := t3.sb hB (by omega)
  have t4 := t4.sb hB (by omega)
  have t5 := t5.sb hB (by omega)
  have t6 := t6.sb hB (by omega)
  have t7 := t7.sb hB (by omega)
  have t8 := t8.sb hB (by omega)
  clear hO1 hO2 hO3 hO4 hO5 hO6 hB1 hB2 hB3 hB4 hB5 hB6 hB
  refine ex_go 80 rfl ?_
  refine ev_loop 8 (fun i => ∀ k, SB (a + 5) h6 k → IA k (a + 5) 8 (fun m => m < i ∧ True) (fun m => nI (clF (5 * m + 4))) → ev_X scr d cd_X4_clear 20 [.ref a, .int (nI i)] [] k _) (fun i hi K k kB k5 => ?_) (fun k kB k5 => ?_) h6 SB.rf t5.none
  · have kO := (kB.2 a (by omega)).trans hO
    refine ex_nop rfl ?_
    refine ex_go 80 rfl ?_
    refine ex_igeF rfl (nI_ge hi (by first | omega | decide)) ?_
    refine ex_go 80 rfl ?_
    refine ex_getf rfl kO rfl rfl ?_
    refine ex_go 80 rfl ?_
    refine ex_is _ rfl k5 rfl (by omega) (by omega) (fun p A B => ?_)
    refine ex_go 80 rfl ?_
    try dsimp only
    try simp only [nI_inc, nI_1, nI_add, nI_mul2, tb_and, tb_or, tb_andn]
    exact K p (kB.tr B) (A.grow (fun _ => by
      rw [clF, if_neg (by omega), if_neg (by omega), if_neg (by omega)]
      rfl))
  · have kO := (kB.2 a (by omega)).trans hO
    have kF := hF.tr (kB.fr (by omega) (by omega))
    refine ex_nop rfl ?_
    refine ex_go 80 rfl ?_
    refine ex_igeT rfl (nI_le (Nat.le_refl _) (by first | omega | decide)) ?_
    refine ex_go 80 rfl ?_
    refine ev_loop 4 (fun i => ∀ l, SB (a + 6) k l → IA l (a + 6) 4 (fun m => m < i ∧ True) (fun t => nI (clF (60 + t))) → ev_X scr d cd_X4_clear 33 [.ref a, .int (nI i)] [] l _) (fun i hi K l lB l6 => ?_) (fun l lB l6 => ?_) k SB.rf (t6.sb kB (by omega)).none
    · have lO := (lB.2 a (by omega)).trans kO
      refine ex_nop rfl ?_
      refine ex_go 80 rfl ?_
      refine ex_igeF rfl (nI_ge hi (by first | omega | decide)) ?_
      refine ex_go 80 rfl ?_
      refine ex_getf rfl lO rfl rfl ?_
      refine ex_go 80 rfl ?_
      refine ex_is _ rfl l6 rfl (by omega) (by omega) (fun p A B => ?_)
      refine ex_go 80 rfl ?_
      try dsimp only
      try simp only [nI_inc, nI_1, nI_add, nI_mul2, tb_and, tb_or, tb_andn]
      exact K p (lB.tr B) (A.grow (fun _ => by
        rw [clF, if_neg (by omega), if_neg (by omega), if_pos (by omega)]
        rfl))
    · have lO := (lB.2 a (by omega)).trans kO
      refine ex_nop rfl ?_
      refine ex_go 80 rfl ?_
      refine ex_igeT rfl (nI_le (Nat.le_refl _) (by first | omega | decide)) ?_
      exact ex_vret rfl (⟨rfl, ⟨lO, ((t1.sb kB (by omega)).sb lB (by omega)).congr (fun m _ hp => absurd hp (Nat.not_lt_zero m)), ((t2.sb kB (by omega)).sb lB (by omega)).congr (fun m _ hp => absurd hp (Nat.not_lt_zero m)), ((t3.sb kB (by omega)).sb lB (by omega)).congr (fun m _ hp => absurd hp (Nat.not_lt_zero m)), ((t4.sb kB (by omega)).sb lB (by omega)).congr (fun m _ hp => absurd hp (Nat.not_lt_zero m)), (k5.sb lB (by omega)).full, l6.full, ((t7.sb kB (by omega)).sb lB (by omega)).congr (fun m _ hp => absurd hp (Nat.not_lt_zero m)), ((t8.sb kB (by omega)).sb lB (by omega)).congr (fun m _ hp => absurd hp (Nat.not_lt_zero m))⟩, kF.tr (lB.fr (by omega) (by omega))⟩)
end COPY
end
section
/-! What is left of the town; long numbers. -/
def tor (f : Nat → Nat) (x : Nat) : Nat → Nat
  | 0 => 0
  | i + 1 => if x.testBit i = true ∧ f (5 * i + 3) < 4 then tor f x i ||| 2 ^ f (5 * i + 3) else tor f x i
/-- products -/
def pd (q : Nat → Nat) : Nat → Nat
  | 0 => 1
  | i + 1 => pd q i * q i
def cf (n : Nat) (f : Nat → Nat) (x s m : Nat) : Nat := if x.testBit m = true then (if s.testBit m = true then od n f m else 10 - od n f m) else 1
def sa (n : Nat) (f : Nat → Nat) : Nat := bs (fun m => decide (f (5 * m) = 2)) n
def mdw (n : Nat) (f : Nat → Nat) (w : Int32) : Bool := isM (2 ^ n) w && decide (w.toNatClampNeg &&& sa n f = 0)
def sz (n : Nat) (f : Nat → Nat) (t : Nat) : Nat := pc8 (bs (fun m => decide (f (5 * m + 3) = t)) n)
def wns (n : Nat) (f : Nat → Nat) (i t : Nat) : Int32 := if f (5 * i + 3) ≠ t ∧ f (60 + t) ≤ sz n f t then -3 else 0
theorem nI_bv (x : Nat) : (nI x).toBitVec = BitVec.ofNat 32 x := rfl
theorem nI_z {x : Nat} (hx : x < 2 ^ 32) : nI x = 0 ↔ x = 0 := by
  constructor
  · intro q
    have := congrArg (fun y : Int32 => y.toBitVec.toNat) q
    simp only [nI_bv, BitVec.toNat_ofNat] at this
    rw [Nat.mod_eq_of_lt hx] at this
    exact this
  · intro q; rw [q]; rfl
theorem nI_any (w : Int32) : ∃ j, j < 2 ^ 32 ∧ w = nI j := by
  refine ⟨w.toBitVec.toNat, w.toBitVec.isLt, ?_⟩
  apply Int32.toBitVec_inj.mp
  rw [nI_bv]
  simp
theorem mdw_nI {n : Nat} {f : Nat → Nat} {j : Nat} (hn : n ≤ 8) (hj : j < 2 ^ n) : mdw n f (nI j) = decide (j &&& sa n f = 0) := by
  have h8 : 2 ^ n ≤ 2 ^ 8 := Nat.pow_le_pow_right (by decide) hn
  unfold mdw
  rw [isM_nI hj (by omega), nI_clamp (by omega), Bool.true_and]
theorem mdw_of {n : Nat} {f : Nat → Nat} {w : Int32} (hn : n ≤ 8) (h : mdw n f w = true) : ∃ j, j < 2 ^ n ∧ w = nI j ∧ j &&& sa n f = 0 := by
  have h8 : 2 ^ n ≤ 2 ^ 8 := Nat.pow_le_pow_right (by decide) hn
  unfold mdw at h
  rw [Bool.and_eq_true] at h
  obtain ⟨j, hj, rfl⟩ := isM_of h.1 (by omega)
  refine ⟨j, hj, rfl, ?_⟩
  have := h.2
  rw [nI_clamp (by omega), decide_eq_true_eq] at this
  exact this
theorem mdw_wo {n : Nat} {f : Nat → Nat} {j : Nat} (hn : n ≤ 8) (hj : j < 2 ^ 32) : nI (tb_wo j (tb_wo (2 ^ n - 1) (sa n f))) = 0 ↔ mdw n f (nI j) = true := by
  have h8 : 2 ^ n ≤ 2 ^ 8 := Nat.pow_le_pow_right (by decide) hn
  rw [nI_z (Nat.lt_of_le_of_lt (tb_wo_le _ _) hj)]
  constructor
  · intro q
    have hb : ∀ i, j.testBit i = true → i < n ∧ (sa n f).testBit i = false := by
      intro i hi
      have := congrArg (fun x => x.testBit i) q
      simp only [tb_wo_bit, hi, Nat.zero_testBit, Nat.testBit_two_pow_sub_one, Bool.true_and] at this
      simpa using this
    have hl : j < 2 ^ n := Nat.lt_pow_two_of_testBit _ (fun i hi => by
      cases c : j.testBit i
      · rfl
      · exact absurd (hb i c).1 (by omega))
    rw [mdw_nI hn hl, decide_eq_true_eq]
    apply Nat.eq_of_testBit_eq
    intro i
    rw [Nat.testBit_and, Nat.zero_testBit]
    cases c : j.testBit i
    · rfl
    · rw [(hb i c).2]; rfl
  · intro q
    obtain ⟨j', hj', e, hz⟩ := mdw_of hn q
    have e2 : j = j' := by
      have := congrArg (fun y : Int32 => y.toBitVec.toNat) e
      simp only [nI_bv, BitVec.toNat_ofNat] at this
      omega
    subst e2
    apply Nat.eq_of_testBit_eq
    intro i
    have hz' := congrArg (fun x => x.testBit i) hz
    simp only [Nat.testBit_and, Nat.zero_testBit] at hz'
    rw [tb_wo_bit, tb_wo_bit, Nat.zero_testBit, Nat.testBit_two_pow_sub_one]
    cases c : j.testBit i
    · rfl
    · have hi : i < n := by
        apply Classical.byContradiction
        intro hi
        rw [Nat.testBit_lt_two_pow (Nat.lt_of_lt_of_le hj' (Nat.pow_le_pow_right (by decide) (Nat.le_of_not_lt hi)))] at c
        exact absurd c (by decide)
      rw [c, Bool.true_and] at hz'
      simp [hi, hz']
theorem isM_not {n : Nat} {m : Int32} (hn : n < 2 ^ 31) (h : isM n m = true) : ¬ m < 0 ∧ ¬ nI n ≤ m := by
  obtain ⟨j, hj, rfl⟩ := isM_of h hn
  exact ⟨nI_pos (by omega), nI_ge hj hn⟩
section REST
variable {scr : List Int32} {d : Nat} {h : ev_H} {a n : Nat} {f : Nat → Nat}
theorem c_tensOf (hT : TA h a n f) (hn : n ≤ 8) {x : Nat} (hx : x < 2 ^ 31) (hd : 1 ≤ d) : ev_V scr d cd_X4_tensOf 0 [.ref a, .int (nI x), .float 0, .float 0] [] h (some (.int (nI (tor f x n))), h) := by
  refine ev_go 80 rfl ?_
  refine ev_loop n (fun i => ev_V scr d cd_X4_tensOf 4 [.ref a, .int (nI x), .int (nI (tor f x i)), .int (nI i)] [] h _) (fun i hi K => ?_) ?_
  · refine ev_nop rfl ?_
    refine ev_go 80 rfl ?_
    refine ev_getf rfl hT.1 rfl rfl ?_
    refine ev_igeF rfl (nI_ge hi (by first | omega | decide)) ?_
    refine ev_go 80 rfl ?_
    refine ev_cs rfl rfl rfl (d' := 0) (by omega) (c_bitOf hx (by omega)) ?_
    rw [tor] at K
    refine ev_zeq rfl (fun hc => ?_) (fun hc => ?_)
    · rw [tb_b0] at hc
      rw [if_neg (fun q => by rw [hc] at q; exact absurd q.1 (by decide))] at K
      refine ev_go 80 rfl ?_
      try dsimp only
      try simp only [nI_inc, nI_1, nI_add, nI_mul2, tb_and, tb_or, tb_andn]
      exact K
    · have hp : x.testBit i = true := by simpa [tb_b0] using hc
      refine ev_go 80 rfl ?_
      refine ev_getf rfl hT.1 rfl rfl ?_
      refine ev_go 80 rfl ?_
      refine ev_ia _ rfl hT.2.2.2.2.1 rfl (by first | exact trivial | assumption | (show _ < _; omega)) (by omega) (by omega) rfl ?_
      refine ev_zlt rfl (fun hc => ?_) (fun hc => ?_)
      · rw [tv_neg] at hc
        rw [if_neg (fun q => hc q.2)] at K
        refine ev_go 80 rfl ?_
        try dsimp only
        try simp only [nI_inc, nI_1, nI_add, nI_mul2, tb_and, tb_or, tb_andn]
        exact K
      · rw [tv_neg] at hc
        have ht : f (5 * i + 3) < 4 := Classical.not_not.mp hc
        rw [if_pos ⟨hp, ht⟩] at K
        refine ev_go 80 rfl ?_
        refine ev_getf rfl hT.1 rfl rfl ?_
        refine ev_go 80 rfl ?_
        refine ev_ia _ rfl hT.2.2.2.2.1 rfl (by first | exact trivial | assumption | (show _ < _; omega)) (by omega) (by omega) rfl ?_
        refine ev_go 80 rfl ?_
        try dsimp only
        try simp only [nI_inc, nI_1, nI_add, nI_mul2, tb_and, tb_or, tb_andn]
        rw [tv_lt ht, tb_sh1 _ (by omega), tb_or]
        exact K
  · refine ev_nop rfl ?_
    refine ev_go 80 rfl ?_
    refine ev_getf rfl hT.1 rfl rfl ?_
    refine ev_igeT rfl (nI_le (Nat.le_refl _) (by first | omega | decide)) ?_
    refine ev_go 80 rfl ?_
    exact ev_iret rfl
theorem c_chanceOf (hT : TA h a n f) (g : GD n f) {x s : Nat} (hx : x < 2 ^ 31) (hs : s < 2 ^ 31) (hd : 4 ≤ d) : ev_V scr d cd_X4_chanceOf 0 [.ref a, .int (nI x), .int (nI s), .float 0, .float 0, .float 0, .float 0] [] h (some (.long (lN (pd (cf n f x s) n))), h) := by
  have hn := g.1
  refine ev_go 80 rfl ?_
  refine ev_loop n (fun i => ev_V scr d cd_X4_chanceOf 4 [.ref a, .int (nI x), .int (nI s), .long (lN (pd (cf n f x s) i)), .double 0, .int (nI i), .float 0] [] h _) (fun i hi K => ?_) ?_
  · refine ev_nop rfl ?_
    refine ev_go 80 rfl ?_
    refine ev_getf rfl hT.1 rfl rfl ?_
    refine ev_igeF rfl (nI_ge hi (by first | omega | decide)) ?_
    refine ev_go 80 rfl ?_
    refine ev_cs rfl rfl rfl (d' := 0) (by omega) (c_bitOf hx (by omega)) ?_
    rw [pd] at K
    refine ev_zeq rfl (fun hc => ?_) (fun hc => ?_)
    · rw [tb_b0] at hc
      rw [cf, if_neg (by rw [hc]; decide), Nat.mul_one] at K
      refine ev_go 80 rfl ?_
      try dsimp only
      try simp only [nI_inc, nI_1, nI_add, nI_mul2, tb_and, tb_or, tb_andn]
      exact K
    · have hp : x.testBit i = true := by simpa [tb_b0] using hc
      have hol := od_le n f i
      refine ev_go 80 rfl ?_
      refine ev_cv rfl rfl rfl rfl hT.1 rfl (d' := 3) (by omega) (c_oddsInTen hT g hi (Nat.le_refl _)) ?_
      refine ev_go 80 rfl ?_
      refine ev_cs rfl rfl rfl (d' := 0) (by omega) (c_bitOf hs (by omega)) ?_
      refine ev_zeq rfl (fun hc => ?_) (fun hc => ?_)
      · rw [tb_b0] at hc
        rw [cf, if_pos hp, if_neg (by rw [hc]; decide)] at K
        refine ev_go 80 rfl ?_
        dsimp only
        rw [show (10 : Int32) = nI 10 from rfl, pk_sub (by omega), nI_l (by omega), lN_mul, nI_inc]
        exact ev_weak (K) (by repeat (first | exact W_n | refine W_e ?_ | refine W_i ?_ | refine W_r ?_))
      · have hq : s.testBit i = true := by simpa [tb_b0] using hc
        rw [cf, if_pos hp, if_pos hq] at K
        refine ev_go 80 rfl ?_
        dsimp only
        rw [nI_l (by omega), lN_mul, nI_inc]
        exact ev_weak (K) (by repeat (first | exact W_n | refine W_e ?_ | refine W_i ?_ | refine W_r ?_))
  · refine ev_nop rfl ?_
    refine ev_go 80 rfl ?_
    refine ev_getf rfl hT.1 rfl rfl ?_
    refine ev_igeT rfl (nI_le (Nat.le_refl _) (by first | omega | decide)) ?_
    refine ev_go 80 rfl ?_
    exact ev_lret rfl
theorem c_mayDoWrong (hT : TA h a n f) (g : GD n f) {w : Int32} (hd : 1 ≤ d) : ev_V scr d cd_X4_mayDoWrong 0 [.ref a, .int w] [] h (some (.int (nI (tb_b (mdw n f w)))), h) := by
  have hn := g.1
  obtain ⟨j, hj, rfl⟩ := nI_any w
  refine ev_go 80 rfl ?_
  refine ev_cv rfl rfl rfl rfl hT.1 rfl (d' := 0) (by omega) (c_allMen hT hn) ?_
  refine ev_go 80 rfl ?_
  refine ev_cv rfl rfl rfl rfl hT.1 rfl (d' := 0) (by omega) (c_menOfKind (k := 2) hT hn (by decide) (fun j hj => (g.2.1 j hj).1)) ?_
  refine ev_go 80 rfl ?_
  try dsimp only
  try simp only [nI_inc, nI_1, nI_add, nI_mul2, tb_and, tb_or, tb_andn]
  have e := mdw_wo (n := n) (f := f) hn hj
  unfold sa at e
  refine ev_zne rfl (fun hc => ?_) (fun hc => ?_)
  · have hb : mdw n f (nI j) = false := by
      cases c : mdw n f (nI j)
      · rfl
      · exact absurd (e.mpr c) hc
    rw [hb]
    refine ev_go 80 rfl ?_
    exact ev_tret rfl rfl
  · rw [e.mp hc]
    refine ev_go 80 rfl ?_
    exact ev_tret rfl rfl
theorem c_whyBad (hT : TA h a n f) (hn : n ≤ 8) {m t : Int32} (hb : (isM n m && isM 4 t) = false) (hd : 1 ≤ d) : ev_V scr d cd_X4_whyNoSeat 0 [.ref a, .int m, .int t] [] h (some (.int (-1)), h) := by
  refine ev_go 80 rfl ?_
  refine ev_cv rfl rfl rfl rfl hT.1 rfl (d' := 0) (by omega) (c_hasMan hT hn) ?_
  refine ev_zeq rfl (fun hc => ?_) (fun hc => ?_)
  · refine ev_go 80 rfl ?_
    exact ev_iret rfl
  · have hm : isM n m = true := by simpa [tb_b0] using hc
    rw [hm, Bool.true_and] at hb
    refine ev_go 80 rfl ?_
    refine ev_cs rfl rfl rfl (d' := 0) (by omega) (c_isTen) ?_
    rw [hb]
    refine ev_zneF rfl (by decide) ?_
    refine ev_go 80 rfl ?_
    exact ev_iret rfl
theorem c_whyNoSeat (hT : TA h a n f) (g : GD n f) {i t : Nat} (hi : i < n) (ht : t < 4) (hd : 2 ≤ d) : ev_V scr d cd_X4_whyNoSeat 0 [.ref a, .int (nI i), .int (nI t)] [] h (some (.int (wns n f i t)), h) := by
  have hn := g.1
  have hz : pc8 (bs (fun m => decide (f (5 * m + 3) = t)) n) ≤ 8 := pc8_le _
  have hmo := (g.2.2.2.2.2.2.2.2.2 t ht).2
  refine ev_go 80 rfl ?_
  refine ev_cv rfl rfl rfl rfl hT.1 rfl (d' := 0) (by omega) (c_hasMan hT hn) ?_
  rw [isM_nI hi (by omega)]
  refine ev_zeqF rfl (by decide) ?_
  refine ev_go 80 rfl ?_
  refine ev_cs rfl rfl rfl (d' := 0) (by omega) (c_isTen) ?_
  rw [isM_nI ht (by omega)]
  refine ev_zneT rfl (by decide) ?_
  refine ev_go 80 rfl ?_
  refine ev_getf rfl hT.1 rfl rfl ?_
  refine ev_go 80 rfl ?_
  refine ev_ia _ rfl hT.2.2.2.2.1 rfl (by first | exact trivial | assumption | (show _ < _; omega)) (by omega) (by omega) rfl ?_
  refine ev_go 80 rfl ?_
  refine ev_ieq rfl (fun hc => ?_) (fun hc => ?_)
  · rw [tv_eq ht] at hc
    rw [wns, if_neg (fun q => q.1 hc)]
    refine ev_go 80 rfl ?_
    exact ev_iret rfl
  · rw [tv_eq ht] at hc
    refine ev_go 80 rfl ?_
    refine ev_cv rfl rfl rfl rfl hT.1 rfl (d' := 1) (by omega) (c_sizeOfTen hT hn ht (Nat.le_refl _)) ?_
    refine ev_go 80 rfl ?_
    refine ev_getf rfl hT.1 rfl rfl ?_
    refine ev_go 80 rfl ?_
    refine ev_ia _ rfl hT.2.2.2.2.2.2.1 rfl (by first | exact trivial | assumption | (show _ < _; omega)) (by omega) (by omega) rfl ?_
    refine ev_ilt rfl (fun hk => ?_) (fun hk => ?_)
    · rw [wns, if_neg (fun q => absurd ((nI_ltI (by omega) (by omega)).mp hk) (Nat.not_lt.mpr q.2))]
      refine ev_go 80 rfl ?_
      exact ev_iret rfl
    · rw [wns, if_pos ⟨hc, Nat.le_of_not_lt (fun q => hk ((nI_ltI (by omega) (by omega)).mpr q))⟩]
      refine ev_go 80 rfl ?_
      exact ev_iret rfl
theorem c_tenthsOf {x : Nat} (hx : x < 256) (hd : 1 ≤ d) : ev_V scr d cd_X5_tenthsOf 0 [.int (nI x), .float 0, .float 0, .float 0] [] h (some (.long (lN (10 ^ pc8 x))), h) := by
  have h8 := pc8_le x
  refine ev_go 80 rfl ?_
  refine ev_cs rfl rfl rfl (d' := 0) (by omega) (c_bitCount hx) ?_
  refine ev_go 80 rfl ?_
  generalize pc8 x = c at *
  have key : ev_V scr d cd_X5_tenthsOf 5 [.int (nI x), .long (lN (10 ^ (c - c))), .double 0, .int (nI c)] [] h (some (.long (lN (10 ^ c))), h) := by
    refine ev_down c (fun i => i ≤ c → ev_V scr d cd_X5_tenthsOf 5 [.int (nI x), .long (lN (10 ^ (c - i))), .double 0, .int (nI i)] [] h _) (fun i hi K hic => ?_) (fun _ => ?_) (Nat.le_refl c)
    · refine ev_nop rfl ?_
      refine ev_go 80 rfl ?_
      refine ev_zleF rfl (nI_nle (by omega) (by omega)) ?_
      refine ev_go 80 rfl ?_
      have e : lN (10 ^ (c - (i + 1))) * 10 = lN (10 ^ (c - i)) := by
        rw [show (10 : Int64) = lN 10 from rfl, lN_mul, show c - i = (c - (i + 1)) + 1 by omega, Nat.pow_succ]
      have e2 : ev_inc (-1) (nI (i + 1)) = nI i := pk_m1 i
      dsimp only
      rw [e, e2]
      exact K (by omega)
    · refine ev_nop rfl ?_
      refine ev_go 80 rfl ?_
      refine ev_zleT rfl (by decide) ?_
      refine ev_go 80 rfl ?_
      exact ev_lret rfl
  rw [Nat.sub_self] at key
  exact key
theorem gcd_step {x y : Nat} (hy : 0 < y) : Nat.gcd y (x % y) = Nat.gcd x y := by
  rw [Nat.gcd_comm x y, Nat.gcd_rec y x, Nat.gcd_comm]
theorem gcd_dec {x y i : Nat} (hy : 0 < y) (hx : x < 2 ^ 63) (hy2 : y < 2 ^ 63) (hc : i = 0 ∨ (y < x ∧ x * y * 2 ^ (i - 1) < 2 ^ 126)) : x % y < y ∧ y * (x % y) * 2 ^ (i + 1 - 1) < 2 ^ 126 := by
  have h1 := Nat.mod_lt x hy
  refine ⟨h1, ?_⟩
  rw [Nat.add_sub_cancel]
  have h0 : y * (x % y) < 2 ^ 126 := by
    have a1 : y * (x % y) ≤ y * 2 ^ 63 := Nat.mul_le_mul_left _ (Nat.le_of_lt (Nat.lt_trans h1 hy2))
    have a2 : y * 2 ^ 63 < 2 ^ 63 * 2 ^ 63 := (Nat.mul_lt_mul_right (by decide)).mpr hy2
    have a3 : (2 : Nat) ^ 63 * 2 ^ 63 = 2 ^ 126 := by decide
    omega
  rcases hc with rfl | ⟨c1, c2⟩
  · rw [Nat.pow_zero, Nat.mul_one]
    exact h0
  · cases i with
    | zero =>
      rw [Nat.pow_zero, Nat.mul_one]
      exact h0
    | succ i =>
      rw [Nat.add_sub_cancel] at c2
      refine Nat.lt_of_le_of_lt ?_ c2
      have h2 : 2 * (x % y) ≤ x := by
        have := Nat.div_add_mod x y
        have hq : 1 ≤ x / y := (Nat.one_le_div_iff hy).mpr (Nat.le_of_lt c1)
        have := Nat.mul_le_mul_left y hq
        omega
      calc y * (x % y) * 2 ^ (i + 1) = y * (2 * (x % y)) * 2 ^ i := by rw [Nat.pow_succ]; ac_rfl
        _ ≤ y * x * 2 ^ i := Nat.mul_le_mul_right _ (Nat.mul_le_mul_left _ h2)
        _ = x * y * 2 ^ i := by rw [Nat.mul_comm y x]
theorem gcd_end {x y : Nat} (hc : (200 : Nat) = 0 ∨ (y < x ∧ x * y * 2 ^ (200 - 1) < 2 ^ 126)) : y = 0 := by
  rcases hc with c | ⟨c1, c2⟩
  · exact absurd c (by decide)
  · apply Classical.byContradiction
    intro hy
    have h1 : 1 ≤ x * y := Nat.mul_pos (by omega) (by omega)
    have h2 := Nat.mul_le_mul_right (2 ^ 199) h1
    have h3 : (2 : Nat) ^ 126 ≤ 2 ^ 199 := Nat.pow_le_pow_right (by decide) (by decide)
    have h4 : x * y * 2 ^ 199 < 2 ^ 126 := c2
    omega
theorem c_greatestCommon {p q : Nat} (hp : p < 2 ^ 63) (hq : q < 2 ^ 63) : ev_V scr d cd_X5_greatestCommon 0 [.long (lN p), .double 0, .long (lN q), .double 0, .float 0, .float 0, .float 0, .float 0, .float 0, .float 0, .float 0] [] h (some (.long (lN (Nat.gcd p q))), h) := by
  refine ev_go 80 rfl ?_
  refine ev_loop 200 (fun i => ∀ x y tl, (tl = [.float 0, .float 0] ∨ ∃ r, tl = [.long r, .double 0]) → x < 2 ^ 63 → y < 2 ^ 63 → Nat.gcd x y = Nat.gcd p q → (i = 0 ∨ (y < x ∧ x * y * 2 ^ (i - 1) < 2 ^ 126)) → ev_V scr d cd_X5_greatestCommon 6 (.long (lN p) :: .double 0 :: .long (lN q) :: .double 0 :: .long (lN x) :: .double 0 :: .long (lN y) :: .double 0 :: .int (nI i) :: tl) [] h (some (.long (lN (Nat.gcd p q))), h)) (fun i hi K x y tl ht hx hy hg hc => ?_) (fun x y tl ht hx hy hg hc => ?_) p q _ (Or.inl rfl) hp hq rfl (Or.inl rfl)
  · refine ev_nop rfl ?_
    refine ev_go 80 rfl ?_
    refine ev_igeF rfl (nI_ge hi (by decide)) ?_
    have ez : lg_cmp (lN y) 0 = 0 ↔ y = 0 := by
      rw [lg_cmp_eq, show (0 : Int64) = lN 0 from rfl, pk_lEQ hy (by decide)]
    rcases ht with rfl | ⟨r, rfl⟩
    · skip
      refine ev_go 80 rfl ?_
      try dsimp only
      try simp only [nI_inc, nI_1, nI_add, nI_mul2, tb_and, tb_or, tb_andn]
      refine ev_zeq rfl (fun hz => ?_) (fun hz => ?_)
      · rw [ez] at hz
        rw [← hg, hz, Nat.gcd_zero_right]
        refine ev_go 80 rfl ?_
        exact ev_lret rfl
      · rw [ez] at hz
        refine ev_go 80 rfl ?_
        refine ev_lrem (v := lN (x % y)) rfl (fun q => hz ((pk_lEQ hy (by decide)).mp q)) (pk_lRem hx (by omega) hy) ?_
        refine ev_go 80 rfl ?_
        rw [nI_inc]
        obtain ⟨d1, d2⟩ := gcd_dec (by omega) hx hy hc
        exact K y (x % y) _ (Or.inr ⟨_, rfl⟩) hy (by omega) (by rw [gcd_step (by omega), hg]) (Or.inr ⟨d1, d2⟩)
    · skip
      refine ev_go 80 rfl ?_
      try dsimp only
      try simp only [nI_inc, nI_1, nI_add, nI_mul2, tb_and, tb_or, tb_andn]
      refine ev_zeq rfl (fun hz => ?_) (fun hz => ?_)
      · rw [ez] at hz
        rw [← hg, hz, Nat.gcd_zero_right]
        refine ev_go 80 rfl ?_
        exact ev_lret rfl
      · rw [ez] at hz
        refine ev_go 80 rfl ?_
        refine ev_lrem (v := lN (x % y)) rfl (fun q => hz ((pk_lEQ hy (by decide)).mp q)) (pk_lRem hx (by omega) hy) ?_
        refine ev_go 80 rfl ?_
        rw [nI_inc]
        obtain ⟨d1, d2⟩ := gcd_dec (by omega) hx hy hc
        exact K y (x % y) _ (Or.inr ⟨_, rfl⟩) hy (by omega) (by rw [gcd_step (by omega), hg]) (Or.inr ⟨d1, d2⟩)
  · have hy0 := gcd_end hc
    rw [hy0, Nat.gcd_zero_right] at hg
    refine ev_nop rfl ?_
    refine ev_go 80 rfl ?_
    refine ev_igeT rfl (nI_le (Nat.le_refl 200) (by decide)) ?_
    rw [← hg]
    refine ev_go 80 rfl ?_
    exact ev_lret rfl
def low (p q w : Nat) : Nat := if w = 0 then p / Nat.gcd p q else q / Nat.gcd p q
theorem c_inLowestTerms {p q w : Nat} (hp : p < 2 ^ 63) (hq : q < 2 ^ 63) (hq0 : 0 < q) (hw : w < 2) (hd : 1 ≤ d) : ev_V scr d cd_X5_inLowestTerms 0 [.long (lN p), .double 0, .long (lN q), .double 0, .int (nI w), .float 0, .float 0] [] h (some (.long (lN (low p q w))), h) := by
  have hg0 : 0 < Nat.gcd p q := Nat.gcd_pos_of_pos_right _ hq0
  have hgl : Nat.gcd p q < 2 ^ 63 := Nat.lt_of_le_of_lt (Nat.gcd_le_right _ hq0) hq
  have hgz : ¬ lN (Nat.gcd p q) = 0 := fun c => by
    have := (pk_lEQ (b := 0) hgl (by decide)).mp c
    omega
  refine ev_go 80 rfl ?_
  refine ev_cs rfl rfl rfl (d' := 0) (by omega) (c_greatestCommon hp hq) ?_
  refine ev_go 80 rfl ?_
  try dsimp only
  try simp only [nI_inc, nI_1, nI_add, nI_mul2, tb_and, tb_or, tb_andn]
  refine ev_zgtT rfl ((lg_cmp_gt _ _).mpr ((pk_lLT (a := 0) (by decide) hgl).mpr hg0)) ?_
  unfold low
  refine ev_go 80 rfl ?_
  refine ev_zne rfl (fun hc => ?_) (fun hc => ?_)
  · rw [if_neg (fun c => hc (by rw [c]; rfl))]
    refine ev_go 80 rfl ?_
    refine ev_ldiv (v := lN (q / Nat.gcd p q)) rfl (hgz) (pk_lDiv hq hg0 hgl) ?_
    exact ev_lret rfl
  · rw [if_pos ((nI_eq (b := 0) (by omega) (by decide)).mp hc)]
    refine ev_go 80 rfl ?_
    refine ev_ldiv (v := lN (p / Nat.gcd p q)) rfl (hgz) (pk_lDiv hp hg0 hgl) ?_
    refine ev_go 80 rfl ?_
    exact ev_lret rfl
theorem c_common {p q : Nat} (hp : p < 2 ^ 63) (hq : q < 2 ^ 63) : ev_V scr d cd_X6_common 0 [.long (lN p), .double 0, .long (lN q), .double 0, .float 0, .float 0, .float 0, .float 0, .float 0, .float 0] [] h (some (.long (lN (Nat.gcd p q))), h) := by
  refine ev_go 80 rfl ?_
  refine ev_loop 200 (fun i => ∀ x y tl, (tl = [.float 0, .float 0] ∨ ∃ r, tl = [.long r, .double 0]) → x < 2 ^ 63 → y < 2 ^ 63 → Nat.gcd x y = Nat.gcd p q → (i = 0 ∨ (y < x ∧ x * y * 2 ^ (i - 1) < 2 ^ 126)) → ev_V scr d cd_X6_common 4 (.long (lN p) :: .double 0 :: .long (lN q) :: .double 0 :: .long (lN x) :: .double 0 :: .long (lN y) :: .double 0 :: tl) [] h (some (.long (lN (Nat.gcd p q))), h)) (fun i hi K x y tl ht hx hy hg hc => ?_) (fun x y tl ht hx hy hg hc => ?_) p q _ (Or.inl rfl) hp hq rfl (Or.inl rfl)
  · refine ev_nop rfl ?_
    have ez : lg_cmp (lN y) 0 = 0 ↔ y = 0 := by
      rw [lg_cmp_eq, show (0 : Int64) = lN 0 from rfl, pk_lEQ hy (by decide)]
    rcases ht with rfl | ⟨r, rfl⟩
    · skip
      refine ev_go 80 rfl ?_
      try dsimp only
      try simp only [nI_inc, nI_1, nI_add, nI_mul2, tb_and, tb_or, tb_andn, nI_x5, nI_x2, nI_p0, nI_p2, nI_p3, nI_p4, nI_q45]
      refine ev_zeq rfl (fun hz => ?_) (fun hz => ?_)
      · rw [ez] at hz
        rw [← hg, hz, Nat.gcd_zero_right]
        refine ev_go 80 rfl ?_
        exact ev_lret rfl
      · rw [ez] at hz
        refine ev_go 80 rfl ?_
        refine ev_lrem (v := lN (x % y)) rfl (fun q => hz ((pk_lEQ hy (by decide)).mp q)) (pk_lRem hx (by omega) hy) ?_
        refine ev_go 80 rfl ?_
        obtain ⟨d1, d2⟩ := gcd_dec (by omega) hx hy hc
        exact K y (x % y) _ (Or.inr ⟨_, rfl⟩) hy (by omega) (by rw [gcd_step (by omega), hg]) (Or.inr ⟨d1, d2⟩)
    · skip
      refine ev_go 80 rfl ?_
      try dsimp only
      try simp only [nI_inc, nI_1, nI_add, nI_mul2, tb_and, tb_or, tb_andn, nI_x5, nI_x2, nI_p0, nI_p2, nI_p3, nI_p4, nI_q45]
      refine ev_zeq rfl (fun hz => ?_) (fun hz => ?_)
      · rw [ez] at hz
        rw [← hg, hz, Nat.gcd_zero_right]
        refine ev_go 80 rfl ?_
        exact ev_lret rfl
      · rw [ez] at hz
        refine ev_go 80 rfl ?_
        refine ev_lrem (v := lN (x % y)) rfl (fun q => hz ((pk_lEQ hy (by decide)).mp q)) (pk_lRem hx (by omega) hy) ?_
        refine ev_go 80 rfl ?_
        obtain ⟨d1, d2⟩ := gcd_dec (by omega) hx hy hc
        exact K y (x % y) _ (Or.inr ⟨_, rfl⟩) hy (by omega) (by rw [gcd_step (by omega), hg]) (Or.inr ⟨d1, d2⟩)
  · have hy0 := gcd_end hc
    have ez : lg_cmp (lN y) 0 = 0 := by
      rw [lg_cmp_eq, hy0]
      rfl
    rw [hy0, Nat.gcd_zero_right] at hg
    refine ev_nop rfl ?_
    refine ev_go 80 rfl ?_
    try dsimp only
    try simp only [nI_inc, nI_1, nI_add, nI_mul2, tb_and, tb_or, tb_andn, nI_x5, nI_x2, nI_p0, nI_p2, nI_p3, nI_p4, nI_q45]
    refine ev_zeqT rfl (ez) ?_
    rw [← hg]
    refine ev_go 80 rfl ?_
    exact ev_lret rfl
theorem c_told {p q w : Nat} (hp : p < 2 ^ 63) (hq : q < 2 ^ 63) (hq0 : 0 < q) (hw : w < 2) (hd : 1 ≤ d) : ev_V scr d cd_X6_told 0 [.long (lN p), .double 0, .long (lN q), .double 0, .int (nI w), .float 0, .float 0] [] h (some (.long (lN (low p q w))), h) := by
  have hg0 : 0 < Nat.gcd p q := Nat.gcd_pos_of_pos_right _ hq0
  have hgl : Nat.gcd p q < 2 ^ 63 := Nat.lt_of_le_of_lt (Nat.gcd_le_right _ hq0) hq
  have hgz : ¬ lN (Nat.gcd p q) = 0 := fun c => by
    have := (pk_lEQ (b := 0) hgl (by decide)).mp c
    omega
  refine ev_go 80 rfl ?_
  refine ev_cs rfl rfl rfl (d' := 0) (by omega) (c_common hq hp) ?_
  refine ev_go 80 rfl ?_
  rw [Nat.gcd_comm q p]
  unfold low
  refine ev_zne rfl (fun hc => ?_) (fun hc => ?_)
  · rw [if_neg (fun c => hc (by rw [c]; rfl))]
    refine ev_go 80 rfl ?_
    refine ev_ldiv (v := lN (q / Nat.gcd p q)) rfl (hgz) (pk_lDiv hq hg0 hgl) ?_
    exact ev_lret rfl
  · rw [if_pos ((nI_eq (b := 0) (by omega) (by decide)).mp hc)]
    refine ev_go 80 rfl ?_
    refine ev_ldiv (v := lN (p / Nat.gcd p q)) rfl (hgz) (pk_lDiv hp hg0 hgl) ?_
    refine ev_go 80 rfl ?_
    exact ev_lret rfl
end REST
end
section
/-! The model: its picture, and what it reads. -/
def rv (f : Nat → Nat) (k : Nat) : Int32 := if k % 5 = 3 ∧ k < 40 then tv (f k) else nI (f k)
theorem rv_0 (f : Nat → Nat) (m : Nat) : rv f (5 * m) = nI (f (5 * m)) := if_neg (by omega)
theorem rv_1 (f : Nat → Nat) (m : Nat) : rv f (5 * m + 1) = nI (f (5 * m + 1)) := if_neg (by omega)
theorem rv_2 (f : Nat → Nat) (m : Nat) : rv f (5 * m + 2) = nI (f (5 * m + 2)) := if_neg (by omega)
theorem rv_3 (f : Nat → Nat) {m : Nat} (hm : m < 8) : rv f (5 * m + 3) = tv (f (5 * m + 3)) := if_pos (by omega)
theorem rv_4 (f : Nat → Nat) (m : Nat) : rv f (5 * m + 4) = nI (f (5 * m + 4)) := if_neg (by omega)
theorem rv_40 (f : Nat → Nat) : rv f 40 = nI (f 40) := rfl
theorem rv_41 (f : Nat → Nat) : rv f 41 = nI (f 41) := rfl
theorem rv_42 (f : Nat → Nat) : rv f 42 = nI (f 42) := rfl
theorem rv_43 (f : Nat → Nat) : rv f 43 = nI (f 43) := rfl
theorem rv_44 (f : Nat → Nat) : rv f 44 = nI (f 44) := rfl
theorem rv_hi (f : Nat → Nat) {k : Nat} (hk : 40 ≤ k) : rv f k = nI (f k) := if_neg (by omega)
def rs (f : Nat → Nat) (im : Nat → Int32) (k : Nat) : Int32 := if k < 57 then rv f k else im k
theorem rs_lt {f : Nat → Nat} {im : Nat → Int32} {k : Nat} (hk : k < 57) : rs f im k = rv f k := if_pos hk
def mo (n : Nat) (q : Nat → Int32) : List Value := [.ref 58, .ref 59, .ref 60, .int (nI n), .ref 61, .ref 62, .int (q 0), .ref 63, .int (q 1), .int (q 2), .int (q 3), .ref 64, .int (q 4), .int (q 5), .int (q 6), .int (q 7), .int (q 8), .int (q 9), .int (q 10), .ref 65, .ref 66, .ref 67, .ref 68, .ref 69, .int (q 11), .ref 70]
abbrev MO (h : ev_H) (n : Nat) (q : Nat → Int32) : Prop := h[57]? = some (.inr (6, mo n q))
abbrev AT (h : ev_H) (f : Nat → Nat) : Prop := IA h 59 57 (fun _ => True) (rv f)
abbrev ST (h : ev_H) (f : Nat → Nat) (im : Nat → Int32) : Prop := IA h 58 171 (fun _ => True) (rs f im)
theorem nI_x5 (m : Nat) : 5 * nI m = nI (5 * m) := nI_mul2 5 m
theorem nI_x2 (m : Nat) : 2 * nI m = nI (2 * m) := nI_mul2 2 m
theorem nI_p0 (m : Nat) : nI m + 0 = nI m := nI_add m 0
theorem nI_p2 (m : Nat) : nI m + 2 = nI (m + 2) := nI_add m 2
theorem nI_p3 (m : Nat) : nI m + 3 = nI (m + 3) := nI_add m 3
theorem nI_p4 (m : Nat) : nI m + 4 = nI (m + 4) := nI_add m 4
theorem nI_q45 (m : Nat) : 45 + nI m = nI (45 + m) := nI_add 45 m
theorem if10 {P Q : Prop} [Decidable P] [Decidable Q] (e : P ↔ Q) : (if P then (1 : Int32) else 0) = nI (tb_b (decide Q)) := by
  by_cases c : P
  · rw [if_pos c, decide_eq_true (e.mp c)]; rfl
  · rw [if_neg c, decide_eq_false (fun q => c (e.mpr q))]; rfl
theorem ifb {P : Prop} [Decidable P] {b : Bool} (e : P ↔ b = true) : (if P then (1 : Int32) else 0) = nI (tb_b b) := by
  by_cases c : P
  · rw [if_pos c, e.mp c]; rfl
  · have : b = false := by
      cases b
      · rfl
      · exact absurd (e.mpr rfl) c
    rw [if_neg c, this]; rfl
theorem tb_b1' {a i : Nat} (ha : a < 2 ^ 31) (hi : i < 31) : (nI a >>> (nI i &&& 31)) &&& 1 = 1 ↔ a.testBit i = true := by
  rw [tb_bit ha i hi, tb_b1]
theorem bs_fl (p : Nat → Bool) {i : Nat} (hi : i < 31) : nI (bs p i) ||| (nI (tb_b (p i)) <<< (nI i &&& 31)) = nI (bs p (i + 1)) := by
  cases c : p i
  · rw [bs_stay p c, tb_shl i hi, tb_or]
    simp [tb_b]
  · rw [← bs_step p hi c]
    rfl
theorem in_isM {v : Int32} {hi : Int64} {k : Nat} (hh : hi.toInt = (k : Int) - 1) : decide ((0 : Int64) ≤ v.toInt64 ∧ v.toInt64 ≤ hi) = isM k v := by
  unfold isM
  rw [← Bool.decide_and]
  exact decide_eq_decide.mpr (by
    rw [Int64.le_iff_toInt_le, Int64.le_iff_toInt_le, Int32.toInt_toInt64, hh, show (0 : Int64).toInt = 0 by decide]
    omega)
/-- a sum of others, as the model counts them -/
def otk (f : Nat → Nat) (m j : Nat) : Nat := tb_b (decide (j ≠ m) && (decide (f (5 * j + 3) = f (5 * m + 3)) && decide (f (5 * j) = 1)) && decide (f (5 * m) = 1))
theorem otk_sm (n : Nat) (f : Nat → Nat) (m : Nat) : sm (otk f m) n = if f (5 * m) = 1 then oth n f m else 0 := by
  by_cases c : f (5 * m) = 1
  · rw [if_pos c]
    exact sm_cong (fun i _ => by unfold otk; rw [decide_eq_true c, Bool.and_true])
  · rw [if_neg c]
    have := sm_le (g := otk f m) (c := 0) (n := n) (fun i _ => by unfold otk; rw [decide_eq_false c, Bool.and_false]; exact Nat.le_refl _)
    omega
def hrg (n : Nat) (f : Nat → Nat) (t m : Nat) : Nat := if f (5 * m + 3) = t then od n f m * f 41 + tb_b ((f 40).testBit m) * 10 * f 42 else 0
theorem hrg_sm (n : Nat) (f : Nat → Nat) (t : Nat) : ∀ i, sm (hrg n f t) i = sm (hmg n f t) i * f 41 + 10 * f 42 * sm (fun m => tb_b (decide (f (5 * m + 3) = t) && (f 40).testBit m)) i
  | 0 => by simp [sm]
  | i + 1 => by
    rw [sm_s, sm_s, sm_s, hrg_sm n f t i]
    unfold hrg hmg
    by_cases c : f (5 * i + 3) = t
    · rw [if_pos c, if_pos c, decide_eq_true c, Bool.true_and, Nat.add_mul, Nat.mul_add]
      rw [Nat.mul_comm (10 * f 42) (tb_b _), Nat.mul_assoc (tb_b _) 10]
      omega
    · rw [if_neg c, if_neg c, decide_eq_false c, Bool.false_and]
      simp [tb_b]
section REF
variable {scr : List Int32} {d : Nat} {h : ev_H} {n : Nat} {f : Nat → Nat} {q : Nat → Int32} {im : Nat → Int32}
theorem c_in {v lo hi : Int64} : ev_V scr d cd_X6_in 0 [.long v, .double 0, .long lo, .double 0, .long hi, .double 0] [] h (some (.int (nI (tb_b (decide (lo ≤ v ∧ v ≤ hi))))), h) := by
  refine ev_go 80 rfl ?_
  try dsimp only
  try simp only [nI_inc, nI_1, nI_add, nI_mul2, tb_and, tb_or, tb_andn, nI_x5, nI_x2, nI_p0, nI_p2, nI_p3, nI_p4, nI_q45]
  refine ev_zlt rfl (fun hc => ?_) (fun hc => ?_)
  · rw [lg_cmp_lt] at hc
    rw [decide_eq_false (fun q => absurd q.1 (Int64.not_le.mpr hc))]
    refine ev_go 80 rfl ?_
    exact ev_tret rfl rfl
  · rw [lg_cmp_lt] at hc
    have h1 := Int64.not_lt.mp hc
    refine ev_go 80 rfl ?_
    try dsimp only
    try simp only [nI_inc, nI_1, nI_add, nI_mul2, tb_and, tb_or, tb_andn, nI_x5, nI_x2, nI_p0, nI_p2, nI_p3, nI_p4, nI_q45]
    refine ev_zgt rfl (fun hc => ?_) (fun hc => ?_)
    · rw [lg_cmp_gt] at hc
      rw [decide_eq_false (fun q => absurd q.2 (Int64.not_le.mpr hc))]
      refine ev_go 80 rfl ?_
      exact ev_tret rfl rfl
    · rw [lg_cmp_gt] at hc
      rw [decide_eq_true (And.intro h1 (Int64.not_lt.mp hc))]
      refine ev_go 80 rfl ?_
      exact ev_tret rfl rfl
theorem c_in0 {v : Int32} {hi : Int64} (k : Nat) (hh : hi.toInt = (k : Int) - 1) : ev_V scr d cd_X6_in 0 [.long v.toInt64, .double 0, .long 0, .double 0, .long hi, .double 0] [] h (some (.int (nI (tb_b (isM k v)))), h) := by
  rw [← in_isM hh]
  exact c_in
theorem c_flag {b : Bool} : ev_V scr d cd_X6_flag 0 [.int (nI (tb_b b))] [] h (some (.int (nI (tb_b b))), h) := by
  refine ev_go 80 rfl ?_
  refine ev_zeqM 1 2 5 (v := nI (tb_b b)) rfl rfl rfl (by cases b <;> rfl) ?_
  exact ev_iret rfl
theorem c_isMan (hM : MO h n q) (hn : n ≤ 8) {m : Int32} (hd : 1 ≤ d) : ev_V scr d cd_X6_isMan 0 [.ref 57, .int m] [] h (some (.int (nI (tb_b (isM n m)))), h) := by
  refine ev_go 80 rfl ?_
  try dsimp only
  try simp only [nI_inc, nI_1, nI_add, nI_mul2, tb_and, tb_or, tb_andn, nI_x5, nI_x2, nI_p0, nI_p2, nI_p3, nI_p4, nI_q45]
  refine ev_getf rfl hM rfl rfl ?_
  refine ev_go 80 rfl ?_
  try dsimp only
  try simp only [nI_inc, nI_1, nI_add, nI_mul2, tb_and, tb_or, tb_andn, nI_x5, nI_x2, nI_p0, nI_p2, nI_p3, nI_p4, nI_q45]
  refine ev_cs rfl rfl rfl (d' := 0) (by omega) (c_in0 n (by rw [Int32.toInt_toInt64, show (1 : Int32) = nI 1 from rfl, pk_sub_toInt (by omega) (by decide)]; rfl)) ?_
  refine ev_tret rfl ?_
  cases isM n m <;> rfl
theorem c_isTenR {t : Int32} (hd : 1 ≤ d) : ev_V scr d cd_X6_isTen 0 [.int t] [] h (some (.int (nI (tb_b (isM 4 t)))), h) := by
  refine ev_go 80 rfl ?_
  try dsimp only
  try simp only [nI_inc, nI_1, nI_add, nI_mul2, tb_and, tb_or, tb_andn, nI_x5, nI_x2, nI_p0, nI_p2, nI_p3, nI_p4, nI_q45]
  refine ev_cs rfl rfl rfl (d' := 0) (by omega) (c_in0 4 (by decide)) ?_
  refine ev_tret rfl ?_
  cases isM 4 t <;> rfl
theorem c_isPart {t : Int32} (hd : 1 ≤ d) : ev_V scr d cd_X6_isPart 0 [.int t] [] h (some (.int (nI (tb_b (isM 2 t)))), h) := by
  refine ev_go 80 rfl ?_
  try dsimp only
  try simp only [nI_inc, nI_1, nI_add, nI_mul2, tb_and, tb_or, tb_andn, nI_x5, nI_x2, nI_p0, nI_p2, nI_p3, nI_p4, nI_q45]
  refine ev_cs rfl rfl rfl (d' := 0) (by omega) (c_in0 2 (by decide)) ?_
  refine ev_tret rfl ?_
  cases isM 2 t <;> rfl
theorem c_bitsOf {x : Nat} (hx : x < 2 ^ 31) : ev_V scr d cd_X6_bitsOf 0 [.int (nI x), .float 0, .float 0] [] h (some (.int (nI (pc8 x))), h) := by
  refine ev_go 80 rfl ?_
  refine ev_loop 8 (fun i => ev_V scr d cd_X6_bitsOf 4 [.int (nI x), .int (nI (sm (fun i => tb_b (x.testBit i)) i)), .int (nI i)] [] h _) (fun i hi K => ?_) ?_
  · refine ev_nop rfl ?_
    refine ev_go 80 rfl ?_
    refine ev_igeF rfl (nI_ge hi (by first | omega | decide)) ?_
    refine ev_go 80 rfl ?_
    dsimp only
    rw [tb_bit hx i (by omega), nI_add, nI_inc]
    exact K
  · refine ev_nop rfl ?_
    refine ev_go 80 rfl ?_
    refine ev_igeT rfl (nI_le (Nat.le_refl _) (by first | omega | decide)) ?_
    refine ev_go 80 rfl ?_
    exact ev_iret rfl
theorem c_starts {P : Nat → Prop} {g : Nat → Int32} (hM : MO h n q) (hS : ST h f im) (hI : IA h 59 57 P g) : ev_X scr d cd_X6_starts 0 [.ref 57, .float 0] [] h (fun v h' => v = none ∧ AT h' f ∧ SB 59 h h') := by
  refine ex_go 80 rfl ?_
  refine ev_loop 57 (fun i => ∀ h1, IA h1 59 57 (fun k => k < i ∧ True) (rv f) → SB 59 h h1 → ev_X scr d cd_X6_starts 2 [.ref 57, .int (nI i)] [] h1 _) (fun i hi K h1 hA1 hB1 => ?_) (fun h1 hA1 hB1 => ?_) h hI.none SB.rf
  · have hM1 := (hB1.2 57 (by decide)).trans hM
    have hS1 := hS.sb hB1 (by decide)
    refine ex_nop rfl ?_
    refine ex_go 80 rfl ?_
    refine ex_igeF rfl (nI_ge hi (by first | omega | decide)) ?_
    refine ex_go 80 rfl ?_
    refine ex_getf rfl hM1 rfl rfl ?_
    refine ex_go 80 rfl ?_
    refine ex_getf rfl hM1 rfl rfl ?_
    refine ex_go 80 rfl ?_
    refine ex_ia _ rfl hS1 rfl trivial (by omega) (by omega) rfl ?_
    rw [rs_lt hi]
    refine ex_is _ rfl hA1 rfl (by omega) (by omega) (fun h2 hA2 hB2 => ?_)
    refine ex_go 80 rfl ?_
    try dsimp only
    try simp only [nI_inc, nI_1, nI_add, nI_mul2, tb_and, tb_or, tb_andn, nI_x5, nI_x2, nI_p0, nI_p2, nI_p3, nI_p4, nI_q45]
    exact K h2 (hA2.grow (fun _ => rfl)) (hB1.tr hB2)
  · refine ex_nop rfl ?_
    refine ex_go 80 rfl ?_
    refine ex_igeT rfl (nI_le (Nat.le_refl _) (by first | omega | decide)) ?_
    exact ex_vret rfl (⟨rfl, hA1.full, hB1⟩)
theorem c_settles {f0 : Nat → Nat} (hM : MO h n q) (hS : ST h f0 im) (hA : AT h f) : ev_X scr d cd_X6_settles 0 [.ref 57, .float 0] [] h (fun v h' => v = none ∧ ST h' f im ∧ SB 58 h h') := by
  refine ex_go 80 rfl ?_
  refine ev_loop 57 (fun i => ∀ h1, IA h1 58 171 (fun _ => True) (fun k => if k < i then rv f k else rs f0 im k) → SB 58 h h1 → ev_X scr d cd_X6_settles 2 [.ref 57, .int (nI i)] [] h1 _) (fun i hi K h1 hA1 hB1 => ?_) (fun h1 hA1 hB1 => ?_) h (hS.congr (fun k _ hp => ⟨hp, by rw [if_neg (by omega)]⟩)) SB.rf
  · have hM1 := (hB1.2 57 (by decide)).trans hM
    have hS1 := hA.sb hB1 (by decide)
    refine ex_nop rfl ?_
    refine ex_go 80 rfl ?_
    refine ex_igeF rfl (nI_ge hi (by first | omega | decide)) ?_
    refine ex_go 80 rfl ?_
    refine ex_getf rfl hM1 rfl rfl ?_
    refine ex_go 80 rfl ?_
    refine ex_getf rfl hM1 rfl rfl ?_
    refine ex_go 80 rfl ?_
    refine ex_ia _ rfl hS1 rfl trivial (by omega) (by omega) rfl ?_
    refine ex_is _ rfl hA1 rfl (by omega) (by omega) (fun h2 hA2 hB2 => ?_)
    refine ex_go 80 rfl ?_
    try dsimp only
    try simp only [nI_inc, nI_1, nI_add, nI_mul2, tb_and, tb_or, tb_andn, nI_x5, nI_x2, nI_p0, nI_p2, nI_p3, nI_p4, nI_q45]
    refine K h2 (hA2.congr (fun k _ _ => ⟨Or.inl trivial, ?_⟩)) (hB1.tr hB2)
    by_cases c : k = i
    · rw [if_pos c, if_pos (by omega), c]
    · rw [if_neg c]
      by_cases c2 : k < i
      · rw [if_pos c2, if_pos (by omega)]
      · rw [if_neg c2, if_neg (by omega)]
  · refine ex_nop rfl ?_
    refine ex_go 80 rfl ?_
    refine ex_igeT rfl (nI_le (Nat.le_refl _) (by first | omega | decide)) ?_
    exact ex_vret rfl (⟨rfl, hA1.congr (fun k _ hp => ⟨hp, by unfold rs; by_cases c : k < 57 <;> simp [c]⟩), hB1⟩)
theorem c_ofw (hM : MO h n q) (hA : AT h f) {m w : Nat} {x : Int32} (hm : m < 8) (hw : w < 5) (hx : rv f (5 * m + w) = x) : ev_V scr d cd_X6_of 0 [.ref 57, .int (nI m), .int (nI w)] [] h (some (.int x), h) := by
  refine ev_go 80 rfl ?_
  refine ev_getf rfl hM rfl rfl ?_
  refine ev_go 80 rfl ?_
  dsimp only
  rw [nI_x5, nI_add]
  refine ev_ia (5 * m + w) rfl hA rfl trivial (by omega) (by omega) hx ?_
  exact ev_iret rfl
theorem c_of0 (hM : MO h n q) (hA : AT h f) {m : Nat} (hm : m < 8) : ev_V scr d cd_X6_of 0 [.ref 57, .int (nI m), .int 0] [] h (some (.int (nI (f (5 * m)))), h) := c_ofw hM hA hm (w := 0) (by decide) (rv_0 f m)
theorem c_of1 (hM : MO h n q) (hA : AT h f) {m : Nat} (hm : m < 8) : ev_V scr d cd_X6_of 0 [.ref 57, .int (nI m), .int 1] [] h (some (.int (nI (f (5 * m + 1)))), h) := c_ofw hM hA hm (w := 1) (by decide) (rv_1 f m)
theorem c_of2 (hM : MO h n q) (hA : AT h f) {m : Nat} (hm : m < 8) : ev_V scr d cd_X6_of 0 [.ref 57, .int (nI m), .int 2] [] h (some (.int (nI (f (5 * m + 2)))), h) := c_ofw hM hA hm (w := 2) (by decide) (rv_2 f m)
theorem c_of3 (hM : MO h n q) (hA : AT h f) {m : Nat} (hm : m < 8) : ev_V scr d cd_X6_of 0 [.ref 57, .int (nI m), .int 3] [] h (some (.int (tv (f (5 * m + 3)))), h) := c_ofw hM hA hm (w := 3) (by decide) (rv_3 f hm)
theorem c_of4 (hM : MO h n q) (hA : AT h f) {m : Nat} (hm : m < 8) : ev_V scr d cd_X6_of 0 [.ref 57, .int (nI m), .int 4] [] h (some (.int (nI (f (5 * m + 4)))), h) := c_ofw hM hA hm (w := 4) (by decide) (rv_4 f m)
theorem c_menOf (hM : MO h n q) (hA : AT h f) (hn : n ≤ 8) {t : Nat} (ht : t < 4) (hd : 1 ≤ d) : ev_V scr d cd_X6_menOf 0 [.ref 57, .int (nI t), .float 0, .float 0] [] h (some (.int (nI (bs (fun m => decide (f (5 * m + 3) = t)) n))), h) := by
  refine ev_go 80 rfl ?_
  refine ev_loop n (fun i => ev_V scr d cd_X6_menOf 4 [.ref 57, .int (nI t), .int (nI (bs (fun m => decide (f (5 * m + 3) = t)) i)), .int (nI i)] [] h _) (fun i hi K => ?_) ?_
  · refine ev_nop rfl ?_
    refine ev_go 80 rfl ?_
    refine ev_getf rfl hM rfl rfl ?_
    refine ev_igeF rfl (nI_ge hi (by first | omega | decide)) ?_
    refine ev_go 80 rfl ?_
    refine ev_cv rfl rfl rfl rfl hM rfl (d' := 0) (by omega) (c_of3 hM hA (by omega)) ?_
    refine ev_go 80 rfl ?_
    refine ev_ineM 1 2 19 (v := nI (tb_b (decide (f (5 * i + 3) = t)))) rfl rfl rfl (if10 (tv_eq ht)) ?_
    refine ev_cs rfl rfl rfl (d' := 0) (by omega) (c_flag) ?_
    refine ev_go 80 rfl ?_
    dsimp only
    rw [nI_inc, bs_fl (fun m => decide (f (5 * m + 3) = t)) (by omega)]
    exact K
  · refine ev_nop rfl ?_
    refine ev_go 80 rfl ?_
    refine ev_getf rfl hM rfl rfl ?_
    refine ev_igeT rfl (nI_le (Nat.le_refl _) (by first | omega | decide)) ?_
    refine ev_go 80 rfl ?_
    exact ev_iret rfl
theorem c_isWatched (hM : MO h n q) (hA : AT h f) {m : Nat} (hm : m < 8) (hw : f 40 < 2 ^ 31) : ev_V scr d cd_X6_isWatched 0 [.ref 57, .int (nI m)] [] h (some (.int (nI (tb_b ((f 40).testBit m)))), h) := by
  refine ev_go 80 rfl ?_
  refine ev_getf rfl hM rfl rfl ?_
  refine ev_go 80 rfl ?_
  refine ev_ia 40 rfl hA rfl (by first | exact trivial | assumption | (show _ < _; omega)) (by omega) (by omega) rfl ?_
  simp (disch := omega) only [rv_0, rv_1, rv_2, rv_3, rv_4, rv_40, rv_41, rv_42, rv_43, rv_44]
  refine ev_go 80 rfl ?_
  try dsimp only
  try simp only [nI_inc, nI_1, nI_add, nI_mul2, tb_and, tb_or, tb_andn, nI_x5, nI_x2, nI_p0, nI_p2, nI_p3, nI_p4, nI_q45]
  refine ev_ineM 1 2 13 (v := nI (tb_b ((f 40).testBit m))) rfl rfl rfl (ifb (tb_b1' hw (by omega))) ?_
  refine ev_tret rfl ?_
  cases (f 40).testBit m <;> rfl
theorem od_wan {n : Nat} {f : Nat → Nat} (g : GD n f) {m : Nat} (hm : m < n) (ht : f (5 * m + 3) = 4) : od n f m = f (5 * m + 1) := by
  obtain ⟨g1, g2, g3, g4, g5, g6⟩ := g.2.1 m hm
  have hk : f (5 * m) = 3 := g5.mpr ht
  have hb : (f 40).testBit m = false := by
    cases c : (f 40).testBit m
    · rfl
    · have := g6 c; omega
  unfold od odw oda
  rw [hb, if_neg (by omega), if_neg (by omega)]
  show min 9 (f (5 * m + 1)) = _
  omega
theorem c_oddsOf (hM : MO h n q) (hA : AT h f) (g : GD n f) {m : Nat} (hm : m < n) (hd : 1 ≤ d) : ev_V scr d cd_X6_oddsOf 0 [.ref 57, .int (nI m), .float 0, .float 0, .float 0] [] h (some (.int (nI (od n f m))), h) := by
  have hn := g.1
  have hw := g.w
  obtain ⟨g1, g2, g3, g4, g5, g6⟩ := g.2.1 m hm
  refine ev_go 80 rfl ?_
  refine ev_cv rfl rfl rfl rfl hM rfl (d' := 0) (by omega) (c_of1 hM hA (by omega)) ?_
  refine ev_go 80 rfl ?_
  refine ev_cv rfl rfl rfl rfl hM rfl (d' := 0) (by omega) (c_of0 hM hA (by omega)) ?_
  refine ev_go 80 rfl ?_
  refine ev_ine rfl (fun hc => ?_) (fun hc => ?_)
  · have h2 : ¬ f (5 * m) = 2 := fun q => hc (by rw [q]; rfl)
    refine ev_go 80 rfl ?_
    refine ev_cv rfl rfl rfl rfl hM rfl (d' := 0) (by omega) (c_of3 hM hA (by omega)) ?_
    refine ev_go 80 rfl ?_
    refine ev_ine rfl (fun hc => ?_) (fun hc => ?_)
    · rw [tv_m4 g4] at hc
      refine ev_go 80 rfl ?_
      refine ev_loop n (fun i => ev_V scr d cd_X6_oddsOf 23 [.ref 57, .int (nI m), .int (nI (f (5 * m + 1) + sm (otk f m) i)), .int (nI i), .float 0] [] h _) (fun i hi K => ?_) ?_
      · obtain ⟨k1, -, -, k4, -⟩ := g.2.1 i hi
        have tail : ∀ b : Bool, (b && decide (f (5 * m) = 1)) = (decide (i ≠ m) && (decide (f (5 * i + 3) = f (5 * m + 3)) && decide (f (5 * i) = 1)) && decide (f (5 * m) = 1)) → ev_V scr d cd_X6_oddsOf 49 [.ref 57, .int (nI m), .int (nI (f (5 * m + 1) + sm (otk f m) i)), .int (nI i), .float 0] [.int (nI (tb_b b))] h (some (.int (nI (od n f m))), h) := by
          intro b hb
          have e : otk f m i = tb_b (b && decide (f (5 * m) = 1)) := by unfold otk; rw [hb]
          rw [sm_s, e, ← Nat.add_assoc] at K
          refine ev_go 80 rfl ?_
          refine ev_zeq rfl (fun hz => ?_) (fun hz => ?_)
          · rw [tb_b0] at hz
            rw [hz, Bool.false_and] at K
            refine ev_go 80 rfl ?_
            refine ev_cs rfl rfl rfl (d' := 0) (by omega) (c_flag (b := false)) ?_
            refine ev_go 80 rfl ?_
            try dsimp only
            try simp only [nI_inc, nI_1, nI_add, nI_mul2, tb_and, tb_or, tb_andn, nI_x5, nI_x2, nI_p0, nI_p2, nI_p3, nI_p4, nI_q45]
            rw [hz]
            exact ev_weak (K) (by repeat (first | exact W_n | refine W_e ?_ | refine W_i ?_ | refine W_r ?_))
          · have hb1 : b = true := by simpa [tb_b0] using hz
            rw [hb1, Bool.true_and] at K
            refine ev_go 80 rfl ?_
            refine ev_cv rfl rfl rfl rfl hM rfl (d' := 0) (by omega) (c_of0 hM hA (by omega)) ?_
            refine ev_go 80 rfl ?_
            refine ev_ineM 1 2 62 (v := nI (tb_b (decide (f (5 * m) = 1)))) rfl rfl rfl (if10 (nI_eq (b := 1) (by omega) (by decide))) ?_
            refine ev_cs rfl rfl rfl (d' := 0) (by omega) (c_flag) ?_
            refine ev_go 80 rfl ?_
            try dsimp only
            try simp only [nI_inc, nI_1, nI_add, nI_mul2, tb_and, tb_or, tb_andn, nI_x5, nI_x2, nI_p0, nI_p2, nI_p3, nI_p4, nI_q45]
            exact ev_weak (K) (by repeat (first | exact W_n | refine W_e ?_ | refine W_i ?_ | refine W_r ?_))
        refine ev_nop rfl ?_
        refine ev_go 80 rfl ?_
        refine ev_getf rfl hM rfl rfl ?_
        refine ev_igeF rfl (nI_ge hi (by first | omega | decide)) ?_
        refine ev_go 80 rfl ?_
        refine ev_ieq rfl (fun hz => ?_) (fun hz => ?_)
        · rw [nI_eq (by omega) (by omega)] at hz
          refine ev_go 1 rfl ?_
          exact tail false (by simp [hz])
        · rw [nI_eq (by omega) (by omega)] at hz
          refine ev_go 80 rfl ?_
          refine ev_cv rfl rfl rfl rfl hM rfl (d' := 0) (by omega) (c_of3 hM hA (by omega)) ?_
          refine ev_go 80 rfl ?_
          refine ev_cv rfl rfl rfl rfl hM rfl (d' := 0) (by omega) (c_of3 hM hA (by omega)) ?_
          refine ev_ine rfl (fun hy => ?_) (fun hy => ?_)
          · rw [tv_inj k4 g4] at hy
            refine ev_go 1 rfl ?_
            exact tail false (by simp [hy])
          · rw [tv_inj k4 g4] at hy
            refine ev_go 80 rfl ?_
            refine ev_cv rfl rfl rfl rfl hM rfl (d' := 0) (by omega) (c_of0 hM hA (by omega)) ?_
            refine ev_go 80 rfl ?_
            refine ev_ine rfl (fun hx => ?_) (fun hx => ?_)
            · refine ev_go 1 rfl ?_
              exact tail false (by
                have hx1 : ¬ f (5 * i) = 1 := fun q => hx (by rw [q]; rfl)
                simp [hx1])
            · refine ev_go 2 rfl ?_
              exact tail true (by
                have hx1 : f (5 * i) = 1 := (nI_eq (b := 1) (by omega) (by decide)).mp hx
                simp [hz, hy, hx1])
      · refine ev_nop rfl ?_
        refine ev_go 80 rfl ?_
        refine ev_getf rfl hM rfl rfl ?_
        refine ev_igeT rfl (nI_le (Nat.le_refl _) (by first | omega | decide)) ?_
        refine ev_go 80 rfl ?_
        refine ev_cv rfl rfl rfl rfl hM rfl (d' := 0) (by omega) (c_isWatched hM hA (by omega) (by omega)) ?_
        have ho := oth_le n f m
        rw [otk_sm]
        have e : ∀ b, oda f m (oth n f m) b = min 9 (hv b (f (5 * m + 1) + (if f (5 * m) = 1 then oth n f m else 0))) := fun b => if_neg h2
        have hx : f (5 * m + 1) + (if f (5 * m) = 1 then oth n f m else 0) < 1000 := by split <;> omega
        unfold od odw
        generalize f (5 * m + 1) + (if f (5 * m) = 1 then oth n f m else 0) = x at *
        have fin : ∀ y : Nat, y < 1000 → (if (9 : Int32) ≤ nI y then (9 : Int32) else nI y) = nI (min 9 y) := by
          intro y hy
          rw [show (9 : Int32) = nI 9 from rfl]
          by_cases c : 9 ≤ y
          · rw [if_pos (nI_le (a := 9) c (by omega)), Nat.min_eq_left c]
          · rw [if_neg (nI_ge (b := 9) (by omega) (by decide)), Nat.min_eq_right (by omega)]
        refine ev_zeq rfl (fun hz => ?_) (fun hz => ?_)
        · rw [tb_b0] at hz
          rw [hz, e]
          show ev_V _ _ _ _ _ _ _ (some (.int (nI (min 9 x))), h)
          refine ev_go 80 rfl ?_
          refine ev_igeM 1 2 83 (v := nI (min 9 x)) rfl rfl rfl (fin x hx) ?_
          exact ev_iret rfl
        · have hb1 : (f 40).testBit m = true := by simpa [tb_b0] using hz
          rw [hb1, e]
          show ev_V _ _ _ _ _ _ _ (some (.int (nI (min 9 (x / 2)))), h)
          refine ev_go 80 rfl ?_
          refine ev_idiv (v := nI (x / 2)) rfl (by decide) (pk_div (d := 2) (by omega) (by decide) (by decide)) ?_
          refine ev_go 80 rfl ?_
          refine ev_igeM 1 2 83 (v := nI (min 9 (x / 2))) rfl rfl rfl (fin (x / 2) (by omega)) ?_
          exact ev_iret rfl
    · rw [tv_m4 g4] at hc
      rw [od_wan g hm hc]
      refine ev_go 80 rfl ?_
      exact ev_iret rfl
  · have h2 : f (5 * m) = 2 := (nI_eq (b := 2) (by omega) (by decide)).mp hc
    have e : od n f m = 0 := by unfold od odw oda; rw [if_pos h2]
    rw [e]
    refine ev_go 80 rfl ?_
    exact ev_iret rfl
theorem c_harmOf (hM : MO h n q) (hA : AT h f) (g : GD n f) {t : Nat} (ht : t < 4) (hd : 2 ≤ d) : ev_V scr d cd_X6_harmOf 0 [.ref 57, .int (nI t), .float 0, .float 0] [] h (some (.int (nI (hm n f t))), h) := by
  have hn := g.1
  have hw := g.w
  refine ev_go 80 rfl ?_
  refine ev_loop n (fun i => ev_V scr d cd_X6_harmOf 4 [.ref 57, .int (nI t), .int (nI (sm (hrg n f t) i)), .int (nI i)] [] h _) (fun i hi K => ?_) ?_
  · rw [sm_s] at K
    refine ev_nop rfl ?_
    refine ev_go 80 rfl ?_
    refine ev_getf rfl hM rfl rfl ?_
    refine ev_igeF rfl (nI_ge hi (by first | omega | decide)) ?_
    refine ev_go 80 rfl ?_
    refine ev_cv rfl rfl rfl rfl hM rfl (d' := 0) (by omega) (c_of3 hM hA (by omega)) ?_
    refine ev_go 80 rfl ?_
    refine ev_ine rfl (fun hc => ?_) (fun hc => ?_)
    · rw [tv_eq ht] at hc
      rw [hrg, if_neg hc] at K
      refine ev_go 80 rfl ?_
      dsimp only
      rw [show (0 : Int32) = nI 0 from rfl, nI_add, nI_inc]
      exact K
    · rw [tv_eq ht] at hc
      rw [hrg, if_pos hc] at K
      refine ev_go 80 rfl ?_
      refine ev_cv rfl rfl rfl rfl hM rfl (d' := 1) (by omega) (c_oddsOf hM hA g hi (Nat.le_refl _)) ?_
      refine ev_go 80 rfl ?_
      refine ev_getf rfl hM rfl rfl ?_
      refine ev_go 80 rfl ?_
      refine ev_ia 41 rfl hA rfl (by first | exact trivial | assumption | (show _ < _; omega)) (by omega) (by omega) rfl ?_
      simp (disch := omega) only [rv_0, rv_1, rv_2, rv_3, rv_4, rv_40, rv_41, rv_42, rv_43, rv_44]
      refine ev_go 80 rfl ?_
      try dsimp only
      try simp only [nI_inc, nI_1, nI_add, nI_mul2, tb_and, tb_or, tb_andn, nI_x5, nI_x2, nI_p0, nI_p2, nI_p3, nI_p4, nI_q45]
      refine ev_cv rfl rfl rfl rfl hM rfl (d' := 0) (by omega) (c_isWatched hM hA (by omega) (by omega)) ?_
      refine ev_cs rfl rfl rfl (d' := 0) (by omega) (c_flag) ?_
      refine ev_go 80 rfl ?_
      try dsimp only
      try simp only [nI_inc, nI_1, nI_add, nI_mul2, tb_and, tb_or, tb_andn, nI_x5, nI_x2, nI_p0, nI_p2, nI_p3, nI_p4, nI_q45]
      refine ev_getf rfl hM rfl rfl ?_
      refine ev_go 80 rfl ?_
      refine ev_ia 42 rfl hA rfl (by first | exact trivial | assumption | (show _ < _; omega)) (by omega) (by omega) rfl ?_
      simp (disch := omega) only [rv_0, rv_1, rv_2, rv_3, rv_4, rv_40, rv_41, rv_42, rv_43, rv_44]
      refine ev_go 80 rfl ?_
      try dsimp only
      try simp only [nI_inc, nI_1, nI_add, nI_mul2, tb_and, tb_or, tb_andn, nI_x5, nI_x2, nI_p0, nI_p2, nI_p3, nI_p4, nI_q45]
      rw [li10, nI_mul2, nI_mul2, nI_add, nI_add]
      exact K
  · rw [hrg_sm]
    refine ev_nop rfl ?_
    refine ev_go 80 rfl ?_
    refine ev_getf rfl hM rfl rfl ?_
    refine ev_igeT rfl (nI_le (Nat.le_refl _) (by first | omega | decide)) ?_
    refine ev_go 80 rfl ?_
    exact ev_iret rfl
theorem c_harmAll (hM : MO h n q) (hA : AT h f) (g : GD n f) (hd : 3 ≤ d) : ev_V scr d cd_X6_harmAll 0 [.ref 57, .float 0, .float 0] [] h (some (.int (nI (ha n f))), h) := by
  have hn := g.1
  refine ev_go 80 rfl ?_
  refine ev_loop 4 (fun i => ev_V scr d cd_X6_harmAll 4 [.ref 57, .int (nI (sm (hm n f) i)), .int (nI i)] [] h _) (fun i hi K => ?_) ?_
  · refine ev_nop rfl ?_
    refine ev_go 80 rfl ?_
    refine ev_igeF rfl (nI_ge hi (by first | omega | decide)) ?_
    refine ev_go 80 rfl ?_
    refine ev_cv rfl rfl rfl rfl hM rfl (d' := 2) (by omega) (c_harmOf hM hA g hi (Nat.le_refl _)) ?_
    refine ev_go 80 rfl ?_
    try dsimp only
    try simp only [nI_inc, nI_1, nI_add, nI_mul2, tb_and, tb_or, tb_andn, nI_x5, nI_x2, nI_p0, nI_p2, nI_p3, nI_p4, nI_q45]
    exact K
  · refine ev_nop rfl ?_
    refine ev_go 80 rfl ?_
    refine ev_igeT rfl (nI_le (Nat.le_refl _) (by first | omega | decide)) ?_
    refine ev_go 80 rfl ?_
    refine ev_loop n (fun i => ev_V scr d cd_X6_harmAll 18 [.ref 57, .int (nI (sm (hm n f) 4 + sm (hwg f) i)), .int (nI i)] [] h _) (fun i hi K => ?_) ?_
    · rw [sm_s (hwg f)] at K
      obtain ⟨g1, g2, g3, g4, g5, g6⟩ := g.2.1 i hi
      refine ev_nop rfl ?_
      refine ev_go 80 rfl ?_
      refine ev_getf rfl hM rfl rfl ?_
      refine ev_igeF rfl (nI_ge hi (by first | omega | decide)) ?_
      refine ev_go 80 rfl ?_
      refine ev_cv rfl rfl rfl rfl hM rfl (d' := 0) (by omega) (c_of3 hM hA (by omega)) ?_
      refine ev_go 80 rfl ?_
      refine ev_ine rfl (fun hc => ?_) (fun hc => ?_)
      · rw [tv_m4 g4] at hc
        rw [hwg, if_neg (fun c => hc (g5.mp c))] at K
        refine ev_go 80 rfl ?_
        dsimp only
        rw [show (0 : Int32) = nI 0 from rfl, nI_add, nI_inc, Nat.add_assoc]
        exact K
      · rw [tv_m4 g4] at hc
        rw [hwg, if_pos (g5.mpr hc), ← Nat.add_assoc] at K
        refine ev_go 80 rfl ?_
        refine ev_cv rfl rfl rfl rfl hM rfl (d' := 0) (by omega) (c_of1 hM hA (by omega)) ?_
        refine ev_go 80 rfl ?_
        refine ev_getf rfl hM rfl rfl ?_
        refine ev_go 80 rfl ?_
        refine ev_ia 41 rfl hA rfl (by first | exact trivial | assumption | (show _ < _; omega)) (by omega) (by omega) rfl ?_
        simp (disch := omega) only [rv_0, rv_1, rv_2, rv_3, rv_4, rv_40, rv_41, rv_42, rv_43, rv_44]
        refine ev_go 80 rfl ?_
        try dsimp only
        try simp only [nI_inc, nI_1, nI_add, nI_mul2, tb_and, tb_or, tb_andn, nI_x5, nI_x2, nI_p0, nI_p2, nI_p3, nI_p4, nI_q45]
        exact K
    · refine ev_nop rfl ?_
      refine ev_go 80 rfl ?_
      refine ev_getf rfl hM rfl rfl ?_
      refine ev_igeT rfl (nI_le (Nat.le_refl _) (by first | omega | decide)) ?_
      refine ev_go 80 rfl ?_
      exact ev_iret rfl
theorem c_allGoods (hM : MO h n q) (hA : AT h f) (hn : n ≤ 8) {x : Nat} (hx : x < 2 ^ 31) (hd : 1 ≤ d) : ev_V scr d cd_X6_allGoods 0 [.ref 57, .int (nI x), .float 0, .float 0] [] h (some (.int (nI (sm (gsg f x) n))), h) := by
  refine ev_go 80 rfl ?_
  refine ev_loop n (fun i => ev_V scr d cd_X6_allGoods 4 [.ref 57, .int (nI x), .int (nI (sm (gsg f x) i)), .int (nI i)] [] h _) (fun i hi K => ?_) ?_
  · rw [sm_s] at K
    refine ev_nop rfl ?_
    refine ev_go 80 rfl ?_
    refine ev_getf rfl hM rfl rfl ?_
    refine ev_igeF rfl (nI_ge hi (by first | omega | decide)) ?_
    refine ev_go 80 rfl ?_
    try dsimp only
    try simp only [nI_inc, nI_1, nI_add, nI_mul2, tb_and, tb_or, tb_andn, nI_x5, nI_x2, nI_p0, nI_p2, nI_p3, nI_p4, nI_q45]
    refine ev_ine rfl (fun hc => ?_) (fun hc => ?_)
    · rw [tb_b1' hx (by omega)] at hc
      rw [gsg, if_neg hc] at K
      refine ev_go 80 rfl ?_
      dsimp only
      rw [show (0 : Int32) = nI 0 from rfl, nI_add, nI_inc]
      exact K
    · rw [tb_b1' hx (by omega)] at hc
      rw [gsg, if_pos hc] at K
      refine ev_go 80 rfl ?_
      refine ev_cv rfl rfl rfl rfl hM rfl (d' := 0) (by omega) (c_of2 hM hA (by omega)) ?_
      refine ev_go 80 rfl ?_
      try dsimp only
      try simp only [nI_inc, nI_1, nI_add, nI_mul2, tb_and, tb_or, tb_andn, nI_x5, nI_x2, nI_p0, nI_p2, nI_p3, nI_p4, nI_q45]
      exact K
  · refine ev_nop rfl ?_
    refine ev_go 80 rfl ?_
    refine ev_getf rfl hM rfl rfl ?_
    refine ev_igeT rfl (nI_le (Nat.le_refl _) (by first | omega | decide)) ?_
    refine ev_go 80 rfl ?_
    exact ev_iret rfl
end REF
end
section
/-! The model pays, and changes. -/
/-- nothing but what the model writes on for itself is another -/
def RZ (h h' : ev_H) : Prop := h'.length = h.length ∧ ∀ j, j ≠ 59 → j ≠ 65 → h'[j]? = h[j]?
theorem RZ.rf {h : ev_H} : RZ h h := ⟨rfl, fun _ _ _ => rfl⟩
theorem RZ.tr {h h1 h2 : ev_H} (x : RZ h h1) (y : RZ h1 h2) : RZ h h2 := ⟨y.1.trans x.1, fun j a b => (y.2 j a b).trans (x.2 j a b)⟩
theorem SB.rz9 {h h' : ev_H} (x : SB 59 h h') : RZ h h' := ⟨x.1, fun j a _ => x.2 j a⟩
theorem SB.rz5 {h h' : ev_H} (x : SB 65 h h') : RZ h h' := ⟨x.1, fun j _ a => x.2 j a⟩
theorem IA.rz {h h' : ev_H} {k L : Nat} {P : Nat → Prop} {g : Nat → Int32} (x : IA h k L P g) (y : RZ h h') (a : k ≠ 59) (b : k ≠ 65) : IA h' k L P g := x.kept (y.2 k a b)
theorem RZ.mo {h h' : ev_H} {n : Nat} {q : Nat → Int32} (y : RZ h h') (x : MO h n q) : MO h' n q := (y.2 57 (by decide) (by decide)).trans x
theorem SB.mo {h h' : ev_H} {k n : Nat} {q : Nat → Int32} (y : SB k h h') (x : MO h n q) (hk : 57 ≠ k) : MO h' n q := (y.2 57 hk).trans x
def rvx (k v : Nat) : Int32 := if k % 5 = 3 ∧ k < 40 then tv v else nI v
theorem rvx_n {k v : Nat} (hk : ¬ (k % 5 = 3 ∧ k < 40)) : rvx k v = nI v := if_neg hk
theorem rvx_t {k v : Nat} (hk : k % 5 = 3 ∧ k < 40) : rvx k v = tv v := if_pos hk
theorem AT.st {h1 : ev_H} {f : Nat → Nat} {k v : Nat} {x : Int32} {P : Nat → Prop} (hA : IA h1 59 57 P (fun i => if i = k then x else rv f i)) (hP : ∀ i, P i) (hx : x = rvx k v) : AT h1 (up f k v) := hA.congr (fun i _ _ => ⟨hP i, by
  by_cases c : i = k
  · rw [if_pos c, hx, c, rv, up_eq]; rfl
  · rw [if_neg c, rv, rv, up_ne c]⟩)
theorem ST.st {h1 : ev_H} {f : Nat → Nat} {im : Nat → Int32} {k v : Nat} {x : Int32} {P : Nat → Prop} (hA : IA h1 58 171 P (fun i => if i = k then x else rs f im i)) (hP : ∀ i, P i) (hk : k < 57) (hx : x = rvx k v) : ST h1 (up f k v) im := hA.congr (fun i _ _ => ⟨hP i, by
  by_cases c : i = k
  · rw [if_pos c, hx, c, rs_lt hk, rv, up_eq]; rfl
  · rw [if_neg c, rs, rs, rv, rv, up_ne c]⟩)
theorem if01 {P Q : Prop} [Decidable P] [Decidable Q] (e : P ↔ ¬ Q) : (if P then (0 : Int32) else 1) = nI (tb_b (decide Q)) := by
  by_cases c : P
  · rw [if_pos c, decide_eq_false (e.mp c)]; rfl
  · rw [if_neg c, decide_eq_true (Classical.not_not.mp (fun q => c (e.mpr q)))]; rfl
theorem wo_comm (a b c : Nat) : tb_wo (tb_wo a b) c = tb_wo (tb_wo a c) b := by
  apply Nat.eq_of_testBit_eq
  intro i
  rw [tb_wo_bit, tb_wo_bit, tb_wo_bit, tb_wo_bit]
  cases a.testBit i <;> cases b.testBit i <;> cases c.testBit i <;> rfl
theorem pf_none {q r x : Nat} {g : Nat → Nat} : ∀ {n : Nat}, (∀ i, i < n → x.testBit i = false) → pf q r x g n = (g, 0, 0)
  | 0, _ => rfl
  | n + 1, h => by rw [pf_f (h n (Nat.lt_succ_self n)), pf_none (fun i hi => h i (Nat.lt_succ_of_lt hi))]
theorem sm_zero {g : Nat → Nat} : ∀ {n : Nat}, sm g n = 0 → ∀ i, i < n → g i = 0
  | 0, _, i, hi => absurd hi (Nat.not_lt_zero i)
  | n + 1, h, i, hi => by
    rw [sm] at h
    by_cases c : i = n
    · rw [c]; omega
    · exact sm_zero (n := n) (by omega) i (by omega)
theorem pc8_0 {x : Nat} (h : pc8 x = 0) {i : Nat} (hi : i < 8) : x.testBit i = false := by
  have := sm_zero h i hi
  cases c : x.testBit i
  · rfl
  · simp [c, tb_b] at this
/-- as far as payments go -/
def GP (n : Nat) (f : Nat → Nat) : Prop := n ≤ 8 ∧ (∀ m, m < n → f (5 * m + 3) ≤ 4) ∧ f 40 < 256 ∧ f 41 ≤ 99 ∧ f 42 ≤ 9
theorem GD.p {n : Nat} {f : Nat → Nat} (g : GD n f) : GP n f := ⟨g.1, fun m hm => (g.2.1 m hm).2.2.2.1, g.w, g.2.2.2.1, g.2.2.2.2.1⟩
def rn (n : Nat) (f g : Nat → Nat) (m : Nat) : (Nat → Nat) × Nat := if f (5 * m + 3) < 4 then pfm n f g m else (g, 0)
theorem rn_le (n : Nat) (f g : Nat → Nat) (m j : Nat) : (rn n f g m).1 j ≤ g j := by
  unfold rn
  split
  · exact pfm_le n f g m j
  · exact Nat.le_refl _
theorem fi_t {n : Nat} {f : Nat → Nat} {w : Nat} {g : Nat → Nat} {i : Nat} (h : w.testBit i = true) : fi n f w g (i + 1) = ((rn n f (fi n f w g i).1 i).1, (fi n f w g i).2 + (rn n f (fi n f w g i).1 i).2) := by
  rw [fi]
  unfold rn
  by_cases c : f (5 * i + 3) < 4
  · rw [if_pos ⟨h, c⟩, if_pos c]
  · rw [if_neg (fun q => c q.2), if_neg c]
    rfl
theorem fi_f {n : Nat} {f : Nat → Nat} {w : Nat} {g : Nat → Nat} {i : Nat} (h : w.testBit i = false) : fi n f w g (i + 1) = fi n f w g i := by
  rw [fi, if_neg (fun q => by rw [h] at q; exact absurd q.1 (by decide))]
abbrev FZ (h : ev_H) (g0 g : Nat → Nat) : Prop := IA h 65 8 (fun _ => True) (fun m => nI (g0 m - g m))
section RPAY
variable {scr : List Int32} {d : Nat} {h : ev_H} {n : Nat} {f g : Nat → Nat} {q : Nat → Int32} {im : Nat → Int32}
theorem c_becomesOf (hM : MO h n q) (hA : AT h f) {m w v : Nat} {x : Int32} (hm : m < 8) (hw : w < 5) (hx : x = rvx (5 * m + w) v) : ev_X scr d cd_X6_becomesOf 0 [.ref 57, .int (nI m), .int (nI w), .int x] [] h (fun r h' => r = none ∧ AT h' (up f (5 * m + w) v) ∧ SB 59 h h') := by
  refine ex_go 80 rfl ?_
  refine ex_getf rfl hM rfl rfl ?_
  refine ex_go 80 rfl ?_
  dsimp only
  rw [nI_x5, nI_add]
  refine ex_is (5 * m + w) rfl hA rfl (by omega) (by omega) (fun h1 hA1 hB1 => ?_)
  exact ex_vret rfl ⟨rfl, AT.st hA1 (fun _ => Or.inl trivial) hx, hB1⟩
theorem c_pay (hM : MO h n q) (hA : AT h (wg f g)) {m v : Nat} (hm : m < 8) (hv : v < 2 ^ 31) (hg : g m < 2 ^ 31) (hd : 1 ≤ d) : ev_X scr d cd_X6_pay 0 [.ref 57, .int (nI m), .int (nI v), .float 0] [] h (fun r h' => r = some (.int (nI (min v (g m)))) ∧ AT h' (wg f (tk g m v)) ∧ SB 59 h h') := by
  have e := wg_gd (f := f) (g := g) (m := m) hm
  have tail : ∀ x : Int32, x = nI (min v (g m)) → ev_X scr d cd_X6_pay 12 [.ref 57, .int (nI m), .int (nI v), .float 0] [.int x] h (fun r h' => r = some (.int (nI (min v (g m)))) ∧ AT h' (wg f (tk g m v)) ∧ SB 59 h h') := by
    intro x hx
    subst hx
    refine ex_go 80 rfl ?_
    refine ex_cv rfl rfl rfl rfl hM rfl (d' := 0) (by omega) (c_of2 hM hA hm) ?_
    rw [e]
    refine ex_go 80 rfl ?_
    dsimp only
    rw [pk_sub (Nat.min_le_right _ _)]
    refine ex_cvx rfl rfl rfl rfl hM rfl (d' := 0) (by omega) (c_becomesOf (w := 2) (v := g m - min v (g m)) hM hA hm (by decide) (rvx_n (by omega)).symm) ?_
    rintro v1 h1 ⟨rfl, hA1, hB1⟩
    rw [wg_up hm] at hA1
    refine ex_go 80 rfl ?_
    exact ex_iret rfl (⟨rfl, hA1, hB1⟩)
  refine ex_go 80 rfl ?_
  refine ex_cv rfl rfl rfl rfl hM rfl (d' := 0) (by omega) (c_of2 hM hA hm) ?_
  rw [e]
  refine ex_ige rfl (fun hc => ?_) (fun hc => ?_)
  · refine ex_go 80 rfl ?_
    refine ex_cv rfl rfl rfl rfl hM rfl (d' := 0) (by omega) (c_of2 hM hA hm) ?_
    rw [e]
    exact tail _ (by rw [Nat.min_eq_right ((nI_leI hg hv).mp hc)])
  · refine ex_go 2 rfl ?_
    exact tail _ (by rw [Nat.min_eq_left (Nat.le_of_lt (Nat.lt_of_not_le (fun c => hc ((nI_leI hg hv).mpr c))))])
theorem c_runs {Q : Option Value → ev_H → Prop} {g0 : Nat → Nat} (hM : MO h n q) (hA : AT h (wg f g)) (hFi : FZ h g0 g) (hg0 : ∀ j, g j ≤ g0 j) (gp : GP n f) (hg : ∀ j, j < n → g0 j < 2 ^ 31) {m : Nat} (hm : m < n) (hQ : Q = fun r h' => r = some (.int (nI (rn n f g m).2)) ∧ AT h' (wg f (rn n f g m).1) ∧ FZ h' g0 (rn n f g m).1 ∧ RZ h h') (hd : 2 ≤ d) : ev_X scr d cd_X6_runs 0 [.ref 57, .int (nI m), .float 0, .float 0, .float 0, .float 0, .float 0, .float 0] [] h Q := by
  have hn := gp.1
  have ht4 := gp.2.1 m hm
  have h41 := gp.2.2.2.1
  have e3 : ∀ j, wg f g (5 * j + 3) = f (5 * j + 3) := fun j => wg_ne (by omega)
  have e4 : wg f g (5 * m + 4) = f (5 * m + 4) := wg_ne (by omega)
  have e41 : ∀ g', wg f g' 41 = f 41 := fun g' => wg_ne (by decide)
  refine ex_go 80 rfl ?_
  refine ex_cv rfl rfl rfl rfl hM rfl (d' := 0) (by omega) (c_of3 hM hA (by omega)) ?_
  rw [e3]
  refine ex_go 80 rfl ?_
  refine ex_ine rfl (fun hc => ?_) (fun hc => ?_)
  · rw [tv_m4 ht4] at hc
    have ht : f (5 * m + 3) < 4 := by omega
    unfold rn at hQ
    rw [if_pos ht] at hQ
    refine ex_go 80 rfl ?_
    refine ex_cv rfl rfl rfl rfl hM rfl (d' := 0) (by omega) (c_of3 hM hA (by omega)) ?_
    rw [e3, tv_lt ht]
    refine ex_cv rfl rfl rfl rfl hM rfl (d' := 1) (by omega) (c_menOf hM hA hn ht (Nat.le_refl _)) ?_
    rw [wg_bs]
    refine ex_go 80 rfl ?_
    dsimp only
    rw [tb_sh1 m (by omega), tb_andn]
    refine ex_cv rfl rfl rfl rfl hM rfl (d' := 0) (by omega) (c_of4 hM hA (by omega)) ?_
    rw [e4]
    refine ex_go 80 rfl ?_
    dsimp only
    rw [tb_andn, wo_comm]
    have hx : pyr n f m < 256 := by
      unfold pyr
      refine Nat.lt_of_le_of_lt ?_ (bs_256 (fun j => decide (f (5 * j + 3) = f (5 * m + 3))) hn)
      refine Nat.le_trans (m := tb_wo (bs (fun j => decide (f (5 * j + 3) = f (5 * m + 3))) n) (f (5 * m + 4))) ?_ ?_ <;> exact tb_wo_le _ _
    show ev_X scr d _ _ [.ref 57, .int (nI m), .int (nI (pyr n f m)), .float 0, .float 0, .float 0, .float 0, .float 0] [.int (nI (pyr n f m))] _ _
    refine ex_cs rfl rfl rfl (d' := 0) (by omega) (c_bitsOf (by omega)) ?_
    have hp8 := pc8_le (pyr n f m)
    have tail : ∀ r : Nat, r < 2 ^ 30 → (pc8 (pyr n f m) ≠ 0 → r = f 41 % pc8 (pyr n f m)) → ev_X scr d cd_X6_runs 43 [.ref 57, .int (nI m), .int (nI (pyr n f m)), .int (nI (pc8 (pyr n f m))), .int (nI 0), .float 0, .float 0, .float 0] [.int (nI r)] h Q := by
      intro r hr hrc
      have hQ2 : Q = fun v h' => v = some (.int (nI (pf (f 41 / pc8 (pyr n f m)) r (pyr n f m) g n).2.1)) ∧ AT h' (wg f (pf (f 41 / pc8 (pyr n f m)) r (pyr n f m) g n).1) ∧ FZ h' g0 (pf (f 41 / pc8 (pyr n f m)) r (pyr n f m) g n).1 ∧ RZ h h' := by
        rw [hQ]
        unfold pfm
        by_cases c : pc8 (pyr n f m) = 0
        · rw [if_pos c, pf_none (fun i hi => pc8_0 c (by omega))]
        · rw [if_neg c, hrc c]
      have hdv : pc8 (pyr n f m) ≠ 0 → nI (f 41) / nI (pc8 (pyr n f m)) = nI (f 41 / pc8 (pyr n f m)) := fun c => pk_div (by omega) (by omega) (by omega)
      have hqq : f 41 / pc8 (pyr n f m) ≤ 99 := Nat.le_trans (Nat.div_le_self _ _) h41
      have hbit : ∀ i, i < 8 → (pyr n f m).testBit i = true → pc8 (pyr n f m) ≠ 0 := fun i hi hb c => by rw [pc8_0 c hi] at hb; exact absurd hb (by decide)
      generalize f 41 / pc8 (pyr n f m) = u at *
      refine ex_go 80 rfl ?_
      rw [show nI r = nI r - nI 0 by rw [pk_sub (Nat.zero_le _)]; rfl]
      refine ev_loop n (fun i => ∀ h1, AT h1 (wg f (pf u r (pyr n f m) g i).1) → FZ h1 g0 (pf u r (pyr n f m) g i).1 → RZ h h1 → ev_X scr d cd_X6_runs 46 [.ref 57, .int (nI m), .int (nI (pyr n f m)), .int (nI (pc8 (pyr n f m))), .int (nI (pf u r (pyr n f m) g i).2.1), .int (nI r - nI (pf u r (pyr n f m) g i).2.2), .int (nI i), .float 0] [] h1 Q) (fun i hi K h1 hA1 hFi1 hZ1 => ?_) (fun h1 hA1 hFi1 hZ1 => ?_) h hA hFi RZ.rf
      · have hM1 := hZ1.mo hM
        have hci := pf_c u r (pyr n f m) g i
        have hgi : (pf u r (pyr n f m) g i).1 i ≤ g0 i := Nat.le_trans (pf_le _ _ _ _ _ _) (hg0 i)
        have hgl := hg i hi
        refine ex_nop rfl ?_
        refine ex_go 80 rfl ?_
        refine ex_getf rfl hM1 rfl rfl ?_
        refine ex_igeF rfl (nI_ge hi (by first | omega | decide)) ?_
        refine ex_go 80 rfl ?_
        try dsimp only
        try simp only [nI_inc, nI_1, nI_add, nI_mul2, tb_and, tb_or, tb_andn, nI_x5, nI_x2, nI_p0, nI_p2, nI_p3, nI_p4, nI_q45]
        refine ex_ine rfl (fun hc => ?_) (fun hc => ?_)
        · rw [tb_b1' (by omega) (by omega)] at hc
          rw [pf_f (by simpa using hc)] at K
          refine ex_go 80 rfl ?_
          try dsimp only
          try simp only [nI_inc, nI_1, nI_add, nI_mul2, tb_and, tb_or, tb_andn, nI_x5, nI_x2, nI_p0, nI_p2, nI_p3, nI_p4, nI_q45]
          exact K h1 hA1 hFi1 hZ1
        · rw [tb_b1' (by omega) (by omega)] at hc
          have hcn := hbit i (by omega) hc
          rw [pf_t hc] at K
          have hpd : pfd u r (pf u r (pyr n f m) g i).2.2 < 2 ^ 31 := by unfold pfd; split <;> omega
          refine ex_go 80 rfl ?_
          refine ex_getf rfl hM1 rfl rfl ?_
          refine ex_go 80 rfl ?_
          refine ex_ia 41 rfl hA1 rfl (by first | exact trivial | assumption | (show _ < _; omega)) (by omega) (by omega) rfl ?_
          simp (disch := omega) only [rv_0, rv_1, rv_2, rv_3, rv_4, rv_40, rv_41, rv_42, rv_43, rv_44]
          refine ex_go 80 rfl ?_
          rw [e41]
          refine ex_idiv (v := nI u) rfl (nI_ne0 (by omega) (by omega)) (hdv hcn) ?_
          refine ex_go 80 rfl ?_
          refine ex_zleM 1 2 71 (v := nI (tb_b (decide ((pf u r (pyr n f m) g i).2.2 < r)))) rfl rfl rfl (if01 (un_le hr (by omega))) ?_
          refine ex_cs rfl rfl rfl (d' := 0) (by omega) (c_flag) ?_
          refine ex_go 80 rfl ?_
          dsimp only
          rw [nI_add]
          have epf : u + tb_b (decide ((pf u r (pyr n f m) g i).2.2 < r)) = pfd u r (pf u r (pyr n f m) g i).2.2 := by
            unfold pfd tb_b
            simp
          rw [epf]
          generalize (pf u r (pyr n f m) g i).2.2 = cc at *
          generalize (pf u r (pyr n f m) g i).2.1 = ss at *
          generalize (pf u r (pyr n f m) g i).1 = gi at *
          refine ex_cvx rfl rfl rfl rfl hM1 rfl (d' := 1) (by omega) (c_pay hM1 hA1 (by omega) hpd (by omega) (Nat.le_refl _)) ?_
          rintro v2 h2 ⟨rfl, hA2, hB2⟩
          have hM2 := hB2.mo hM1 (by decide)
          have hFi2 := hFi1.sb hB2 (by decide)
          refine ex_go 80 rfl ?_
          refine ex_getf rfl hM2 rfl rfl ?_
          refine ex_go 80 rfl ?_
          refine ex_ia i rfl hFi2 rfl trivial (by omega) (by omega) rfl ?_
          refine ex_go 80 rfl ?_
          dsimp only
          rw [nI_add]
          refine ex_is i rfl hFi2 rfl (by omega) (by omega) (fun h3 hA3 hB3 => ?_)
          refine ex_go 80 rfl ?_
          dsimp only
          rw [nI_add, nI_inc, un_dec]
          have hFi3 : FZ h3 g0 (tk gi i (pfd u r cc)) := hA3.congr (fun j _ _ => ⟨Or.inl trivial, by
            by_cases c : j = i
            · rw [if_pos c, c]
              congr 1
              unfold tk
              rw [up_eq]
              omega
            · rw [if_neg c]
              unfold tk
              rw [up_ne c]⟩)
          exact ex_weak (K h3 (hA2.sb hB3 (by decide)) hFi3 ((hZ1.tr hB2.rz9).tr hB3.rz5)) (by repeat (first | exact W_n | refine W_e ?_ | refine W_i ?_ | refine W_r ?_))
      · have hM1 := hZ1.mo hM
        refine ex_nop rfl ?_
        refine ex_go 80 rfl ?_
        refine ex_getf rfl hM1 rfl rfl ?_
        refine ex_igeT rfl (nI_le (Nat.le_refl _) (by first | omega | decide)) ?_
        refine ex_go 80 rfl ?_
        exact ex_iret rfl (by rw [hQ2]; exact ⟨rfl, hA1, hFi1, hZ1⟩)
    refine ex_go 80 rfl ?_
    refine ex_zne rfl (fun hz => ?_) (fun hz => ?_)
    · have h0 : pc8 (pyr n f m) ≠ 0 := fun c => hz (by rw [c]; rfl)
      refine ex_go 80 rfl ?_
      refine ex_getf rfl hM rfl rfl ?_
      refine ex_go 80 rfl ?_
      refine ex_ia 41 rfl hA rfl (by first | exact trivial | assumption | (show _ < _; omega)) (by omega) (by omega) rfl ?_
      simp (disch := omega) only [rv_0, rv_1, rv_2, rv_3, rv_4, rv_40, rv_41, rv_42, rv_43, rv_44]
      refine ex_go 80 rfl ?_
      rw [e41]
      refine ex_irem (v := nI (f 41 % pc8 (pyr n f m))) rfl (hz) (pk_rem (by omega) (by omega) (by omega)) ?_
      exact tail (f 41 % pc8 (pyr n f m)) (Nat.lt_of_le_of_lt (Nat.mod_le _ _) (by omega)) (fun _ => rfl)
    · refine ex_go 2 rfl ?_
      exact tail 0 (by decide) (fun c => absurd ((nI_eq (b := 0) (by omega) (by decide)).mp hz) c)
  · rw [tv_m4 ht4] at hc
    unfold rn at hQ
    rw [if_neg (by omega)] at hQ
    refine ex_go 80 rfl ?_
    exact ex_iret rfl (by rw [hQ]; exact ⟨rfl, hA, hFi, RZ.rf⟩)
theorem c_watches {Q : Option Value → ev_H → Prop} (hM : MO h n q) (hA : AT h (wg f g)) (gp : GP n f) (hg : ∀ j, j < n → g j < 2 ^ 31) {t : Nat} (ht : t < 4) (hQ : Q = fun r h' => r = some (.int (nI (cot n f g t).2.2)) ∧ AT h' (wg f (cot n f g t).1) ∧ SB 59 h h') (hd : 2 ≤ d) : ev_X scr d cd_X6_watches 0 [.ref 57, .int (nI t), .float 0, .float 0, .float 0, .float 0, .float 0] [] h Q := by
  have hn := gp.1
  have h42 := gp.2.2.2.2
  have e42 : wg f g 42 = f 42 := wg_ne (by decide)
  have e40 : wg f g 40 = f 40 := wg_ne (by decide)
  have hbx := bs_256 (fun m => decide (f (5 * m + 3) = t)) hn
  refine ex_go 80 rfl ?_
  refine ex_cv rfl rfl rfl rfl hM rfl (d' := 1) (by omega) (c_menOf hM hA hn ht (Nat.le_refl _)) ?_
  rw [wg_bs]
  refine ex_go 80 rfl ?_
  refine ex_getf rfl hM rfl rfl ?_
  refine ex_go 80 rfl ?_
  refine ex_ia 42 rfl hA rfl (by first | exact trivial | assumption | (show _ < _; omega)) (by omega) (by omega) rfl ?_
  simp (disch := omega) only [rv_0, rv_1, rv_2, rv_3, rv_4, rv_40, rv_41, rv_42, rv_43, rv_44]
  refine ex_go 80 rfl ?_
  refine ex_getf rfl hM rfl rfl ?_
  refine ex_go 80 rfl ?_
  refine ex_ia 40 rfl hA rfl (by first | exact trivial | assumption | (show _ < _; omega)) (by omega) (by omega) rfl ?_
  simp (disch := omega) only [rv_0, rv_1, rv_2, rv_3, rv_4, rv_40, rv_41, rv_42, rv_43, rv_44]
  refine ex_go 80 rfl ?_
  try dsimp only
  try simp only [nI_inc, nI_1, nI_add, nI_mul2, tb_and, tb_or, tb_andn, nI_x5, nI_x2, nI_p0, nI_p2, nI_p3, nI_p4, nI_q45]
  rw [e42, e40]
  refine ex_cs rfl rfl rfl (d' := 0) (by omega) (c_bitsOf (Nat.lt_trans (and256 hbx) (by decide))) ?_
  rw [pc8_bsa _ _ hn]
  have hwc : wct n f t ≤ 8 := by
    have := sm_le (g := fun m => tb_b (decide (f (5 * m + 3) = t) && (f 40).testBit m)) (c := 1) (n := n) (fun i _ => tb_le _)
    unfold wct
    omega
  have hl0 : f 42 * wct n f t < 2 ^ 31 := Nat.lt_of_le_of_lt (Nat.mul_le_mul h42 hwc) (by decide)
  unfold cot at hQ
  refine ex_go 80 rfl ?_
  try dsimp only
  try simp only [nI_inc, nI_1, nI_add, nI_mul2, tb_and, tb_or, tb_andn, nI_x5, nI_x2, nI_p0, nI_p2, nI_p3, nI_p4, nI_q45]
  show ev_X scr d cd_X6_watches 21 [.ref 57, .int (nI t), .int (nI (bs (fun m => decide (f (5 * m + 3) = t)) n)), .int (nI (f 42 * wct n f t)), .int 0, .int 0, .float 0] [] h _
  generalize bs (fun m => decide (f (5 * m + 3) = t)) n = x at *
  generalize f 42 * wct n f t = l at *
  refine ev_loop n (fun i => ∀ h1, AT h1 (wg f (cs x l g i).1) → SB 59 h h1 → ev_X scr d cd_X6_watches 21 [.ref 57, .int (nI t), .int (nI x), .int (nI (cs x l g i).2.1), .int (nI (cs x l g i).2.2), .int (nI i), .float 0] [] h1 Q) (fun i hi K h1 hA1 hB1 => ?_) (fun h1 hA1 hB1 => ?_) h hA SB.rf
  · have hM1 := hB1.mo hM (by decide)
    have hli := cs_l x l g i
    have hgi : (cs x l g i).1 i < 2 ^ 31 := Nat.lt_of_le_of_lt (cs_le _ _ _ _ _) (hg i hi)
    refine ex_nop rfl ?_
    refine ex_go 80 rfl ?_
    refine ex_getf rfl hM1 rfl rfl ?_
    refine ex_igeF rfl (nI_ge hi (by first | omega | decide)) ?_
    refine ex_go 80 rfl ?_
    try dsimp only
    try simp only [nI_inc, nI_1, nI_add, nI_mul2, tb_and, tb_or, tb_andn, nI_x5, nI_x2, nI_p0, nI_p2, nI_p3, nI_p4, nI_q45]
    refine ex_ine rfl (fun hc => ?_) (fun hc => ?_)
    · rw [tb_b1' (by omega) (by omega)] at hc
      rw [cs_f (by simpa using hc)] at K
      refine ex_go 80 rfl ?_
      try dsimp only
      try simp only [nI_inc, nI_1, nI_add, nI_mul2, tb_and, tb_or, tb_andn, nI_x5, nI_x2, nI_p0, nI_p2, nI_p3, nI_p4, nI_q45]
      exact K h1 hA1 hB1
    · rw [tb_b1' (by omega) (by omega)] at hc
      rw [cs_t hc] at K
      refine ex_go 80 rfl ?_
      refine ex_cvx rfl rfl rfl rfl hM1 rfl (d' := 1) (by omega) (c_pay hM1 hA1 (by omega) (by omega) hgi (Nat.le_refl _)) ?_
      rintro v2 h2 ⟨rfl, hA2, hB2⟩
      refine ex_go 80 rfl ?_
      dsimp only
      rw [pk_sub (Nat.min_le_left _ _), nI_add, nI_inc]
      exact ex_weak (K h2 hA2 (hB1.tr hB2)) (by repeat (first | exact W_n | refine W_e ?_ | refine W_i ?_ | refine W_r ?_))
  · have hM1 := hB1.mo hM (by decide)
    refine ex_nop rfl ?_
    refine ex_go 80 rfl ?_
    refine ex_getf rfl hM1 rfl rfl ?_
    refine ex_igeT rfl (nI_le (Nat.le_refl _) (by first | omega | decide)) ?_
    refine ex_go 80 rfl ?_
    exact ex_iret rfl (by rw [hQ]; exact ⟨rfl, hA1, hB1⟩)
theorem c_yearGoes {P : Nat → Prop} {z : Nat → Int32} (hM : MO h n q) (hA : AT h (wg f g)) (hI : IA h 65 8 P z) (gp : GP n f) (hg : ∀ j, j < n → g j < 2 ^ 31) {w : Nat} (hw : w < 2 ^ 31) (hd : 3 ≤ d) : ev_X scr d cd_X6_yearGoes 0 [.ref 57, .int (nI w), .float 0, .float 0] [] h (fun r h' => r = some (.int (nI (yr n f g w).2)) ∧ AT h' (up (wg f (yr n f g w).1) 43 (f 43 + 1)) ∧ FZ h' g (fi n f w g n).1 ∧ RZ h h') := by
  have hn := gp.1
  refine ex_go 80 rfl ?_
  refine ev_loop 8 (fun i => ∀ h1, IA h1 65 8 (fun k => k < i ∧ True) (fun m => nI (g m - g m)) → SB 65 h h1 → ev_X scr d cd_X6_yearGoes 4 [.ref 57, .int (nI w), .int 0, .int (nI i)] [] h1 _) (fun i hi K h1 hA1 hB1 => ?_) (fun h1 hA1 hB1 => ?_) h hI.none SB.rf
  · have hM1 := hB1.mo hM (by decide)
    refine ex_nop rfl ?_
    refine ex_go 80 rfl ?_
    refine ex_igeF rfl (nI_ge hi (by first | omega | decide)) ?_
    refine ex_go 80 rfl ?_
    refine ex_getf rfl hM1 rfl rfl ?_
    refine ex_go 80 rfl ?_
    refine ex_is _ rfl hA1 rfl (by omega) (by omega) (fun h2 hA2 hB2 => ?_)
    refine ex_go 80 rfl ?_
    try dsimp only
    try simp only [nI_inc, nI_1, nI_add, nI_mul2, tb_and, tb_or, tb_andn, nI_x5, nI_x2, nI_p0, nI_p2, nI_p3, nI_p4, nI_q45]
    exact K h2 (hA2.grow (fun _ => by rw [Nat.sub_self]; rfl)) (hB1.tr hB2)
  · have hM1 := hB1.mo hM (by decide)
    have hAt1 := hA.sb hB1 (by decide)
    have hFi1 := hA1.full
    have hZ1 := hB1.rz5
    clear hA1 hB1
    refine ex_nop rfl ?_
    refine ex_go 80 rfl ?_
    refine ex_igeT rfl (nI_le (Nat.le_refl _) (by first | omega | decide)) ?_
    refine ex_go 80 rfl ?_
    refine ev_loop n (fun i => ∀ h2, AT h2 (wg f (fi n f w g i).1) → FZ h2 g (fi n f w g i).1 → RZ h h2 → ev_X scr d cd_X6_yearGoes 17 [.ref 57, .int (nI w), .int (nI (fi n f w g i).2), .int (nI i)] [] h2 _) (fun i hi K h2 hA2 hFi2 hZ2 => ?_) (fun h2 hA2 hFi2 hZ2 => ?_) h1 hAt1 hFi1 hZ1
    · have hM2 := hZ2.mo hM
      refine ex_nop rfl ?_
      refine ex_go 80 rfl ?_
      refine ex_getf rfl hM2 rfl rfl ?_
      refine ex_igeF rfl (nI_ge hi (by first | omega | decide)) ?_
      refine ex_go 80 rfl ?_
      try dsimp only
      try simp only [nI_inc, nI_1, nI_add, nI_mul2, tb_and, tb_or, tb_andn, nI_x5, nI_x2, nI_p0, nI_p2, nI_p3, nI_p4, nI_q45]
      refine ex_ine rfl (fun hc => ?_) (fun hc => ?_)
      · rw [tb_b1' (by omega) (by omega)] at hc
        rw [fi_f (by simpa using hc)] at K
        refine ex_go 80 rfl ?_
        dsimp only
        rw [show (0 : Int32) = nI 0 from rfl, nI_add, nI_inc]
        exact K h2 hA2 hFi2 hZ2
      · rw [tb_b1' (by omega) (by omega)] at hc
        rw [fi_t hc] at K
        refine ex_go 80 rfl ?_
        refine ex_cvx rfl rfl rfl rfl hM2 rfl (d' := 2) (by omega) (c_runs hM2 hA2 hFi2 (fun j => fi_le _ _ _ _ _ _) gp hg hi rfl (Nat.le_refl _)) ?_
        rintro v3 h3 ⟨rfl, hA3, hFi3, hZ3⟩
        refine ex_go 80 rfl ?_
        try dsimp only
        try simp only [nI_inc, nI_1, nI_add, nI_mul2, tb_and, tb_or, tb_andn, nI_x5, nI_x2, nI_p0, nI_p2, nI_p3, nI_p4, nI_q45]
        exact K h3 hA3 hFi3 (hZ2.tr hZ3)
    · have hM2 := hZ2.mo hM
      refine ex_nop rfl ?_
      refine ex_go 80 rfl ?_
      refine ex_getf rfl hM2 rfl rfl ?_
      refine ex_igeT rfl (nI_le (Nat.le_refl _) (by first | omega | decide)) ?_
      refine ex_go 80 rfl ?_
      refine ev_loop 4 (fun t => ∀ h3, AT h3 (wg f (co n f (fi n f w g n).1 t).1) → SB 59 h2 h3 → ev_X scr d cd_X6_yearGoes 41 [.ref 57, .int (nI w), .int (nI ((fi n f w g n).2 + (co n f (fi n f w g n).1 t).2)), .int (nI t)] [] h3 _) (fun t ht K h3 hA3 hB3 => ?_) (fun h3 hA3 hB3 => ?_) h2 hA2 SB.rf
      · have hM3 := hB3.mo hM2 (by decide)
        refine ex_nop rfl ?_
        refine ex_go 80 rfl ?_
        refine ex_igeF rfl (nI_ge ht (by decide)) ?_
        refine ex_go 80 rfl ?_
        refine ex_cvx rfl rfl rfl rfl hM3 rfl (d' := 2) (by omega) (c_watches hM3 hA3 gp (fun j hj => Nat.lt_of_le_of_lt (co_le _ _ _ _ _) (Nat.lt_of_le_of_lt (fi_le _ _ _ _ _ _) (hg j hj))) ht rfl (Nat.le_refl _)) ?_
        rintro v4 h4 ⟨rfl, hA4, hB4⟩
        refine ex_go 80 rfl ?_
        try dsimp only
        try simp only [nI_inc, nI_1, nI_add, nI_mul2, tb_and, tb_or, tb_andn, nI_x5, nI_x2, nI_p0, nI_p2, nI_p3, nI_p4, nI_q45]
        rw [Nat.add_assoc]
        exact K h4 hA4 (hB3.tr hB4)
      · have hM3 := hB3.mo hM2 (by decide)
        refine ex_nop rfl ?_
        refine ex_go 80 rfl ?_
        refine ex_igeT rfl (nI_le (Nat.le_refl _) (by first | omega | decide)) ?_
        refine ex_go 80 rfl ?_
        refine ex_getf rfl hM3 rfl rfl ?_
        refine ex_go 80 rfl ?_
        refine ex_ia 43 rfl hA3 rfl (by first | exact trivial | assumption | (show _ < _; omega)) (by omega) (by omega) rfl ?_
        simp (disch := omega) only [rv_0, rv_1, rv_2, rv_3, rv_4, rv_40, rv_41, rv_42, rv_43, rv_44]
        refine ex_go 80 rfl ?_
        try dsimp only
        try simp only [nI_inc, nI_1, nI_add, nI_mul2, tb_and, tb_or, tb_andn, nI_x5, nI_x2, nI_p0, nI_p2, nI_p3, nI_p4, nI_q45]
        refine ex_is 43 rfl hA3 rfl (by omega) (by omega) (fun h4 hA4 hB4 => ?_)
        have e43 : wg f (co n f (fi n f w g n).1 4).1 43 = f 43 := wg_ne (by decide)
        refine ex_go 80 rfl ?_
        exact ex_iret rfl (⟨rfl, AT.st hA4 (fun _ => Or.inl trivial) (by rw [e43]; rfl), (hFi2.sb hB3 (by decide)).sb hB4 (by decide), (hZ2.tr hB3.rz9).tr hB4.rz9⟩)
theorem c_saints (hM : MO h n q) (hS : ST h f im) (g : GD n f) (hd : 1 ≤ d) : ev_V scr d cd_X6_saints 0 [.ref 57, .float 0, .float 0] [] h (some (.int (nI (sa n f))), h) := by
  have hn := g.1
  refine ev_go 80 rfl ?_
  refine ev_loop n (fun i => ev_V scr d cd_X6_saints 4 [.ref 57, .int (nI (bs (fun m => decide (f (5 * m) = 2)) i)), .int (nI i)] [] h _) (fun i hi K => ?_) ?_
  · have gi := (g.2.1 i hi).1
    refine ev_nop rfl ?_
    refine ev_go 80 rfl ?_
    refine ev_getf rfl hM rfl rfl ?_
    refine ev_igeF rfl (nI_ge hi (by first | omega | decide)) ?_
    refine ev_go 80 rfl ?_
    refine ev_getf rfl hM rfl rfl ?_
    refine ev_go 80 rfl ?_
    try dsimp only
    try simp only [nI_inc, nI_1, nI_add, nI_mul2, tb_and, tb_or, tb_andn, nI_x5, nI_x2, nI_p0, nI_p2, nI_p3, nI_p4, nI_q45]
    refine ev_ia _ rfl hS rfl (by first | exact trivial | assumption | (show _ < _; omega)) (by omega) (by omega) rfl ?_
    simp (disch := omega) only [rs_lt, rv_0, rv_1, rv_2, rv_3, rv_4, rv_40, rv_41, rv_42, rv_43, rv_44]
    refine ev_go 80 rfl ?_
    refine ev_ineM 1 2 23 (v := nI (tb_b (decide (f (5 * i) = 2)))) rfl rfl rfl (if10 (nI_eq (b := 2) (by omega) (by decide))) ?_
    refine ev_cs rfl rfl rfl (d' := 0) (by omega) (c_flag) ?_
    refine ev_go 80 rfl ?_
    dsimp only
    rw [nI_inc, bs_fl (fun m => decide (f (5 * m) = 2)) (by omega)]
    exact K
  · refine ev_nop rfl ?_
    refine ev_go 80 rfl ?_
    refine ev_getf rfl hM rfl rfl ?_
    refine ev_igeT rfl (nI_le (Nat.le_refl _) (by first | omega | decide)) ?_
    refine ev_go 80 rfl ?_
    exact ev_iret rfl
end RPAY
end
section
/-! The model: small ones. -/
def RX (h h' : ev_H) : Prop := h'.length = h.length ∧ ∀ j, j ≠ 59 → j ≠ 65 → j ≠ 66 → h'[j]? = h[j]?
theorem RX.tr {h h1 h2 : ev_H} (x : RX h h1) (y : RX h1 h2) : RX h h2 := ⟨y.1.trans x.1, fun j a b c => (y.2 j a b c).trans (x.2 j a b c)⟩
theorem RZ.rx {h h' : ev_H} (x : RZ h h') : RX h h' := ⟨x.1, fun j a b _ => x.2 j a b⟩
theorem SB.rx6 {h h' : ev_H} (x : SB 66 h h') : RX h h' := ⟨x.1, fun j _ _ a => x.2 j a⟩
section RMUT
variable {scr : List Int32} {d : Nat} {h : ev_H} {n : Nat} {f g : Nat → Nat} {q : Nat → Int32} {im : Nat → Int32}
theorem c_isWrong (hM : MO h n q) (hS : ST h f im) (g : GD n f) {w : Int32} (hd : 2 ≤ d) : ev_V scr d cd_X6_isWrong 0 [.ref 57, .int w] [] h (some (.int (nI (tb_b (mdw n f w)))), h) := by
  have hn := g.1
  have h8 : 2 ^ n ≤ 2 ^ 8 := Nat.pow_le_pow_right (by decide) hn
  have h1 : 1 ≤ 2 ^ n := Nat.one_le_two_pow
  refine ev_go 80 rfl ?_
  try dsimp only
  try simp only [nI_inc, nI_1, nI_add, nI_mul2, tb_and, tb_or, tb_andn, nI_x5, nI_x2, nI_p0, nI_p2, nI_p3, nI_p4, nI_q45]
  refine ev_getf rfl hM rfl rfl ?_
  refine ev_go 80 rfl ?_
  try dsimp only
  try simp only [nI_inc, nI_1, nI_add, nI_mul2, tb_and, tb_or, tb_andn, nI_x5, nI_x2, nI_p0, nI_p2, nI_p3, nI_p4, nI_q45]
  rw [tb_sh1 n (by omega)]
  refine ev_cs rfl rfl rfl (d' := 0) (by omega) (c_in0 (2 ^ n) (by rw [Int32.toInt_toInt64, show (1 : Int32) = nI 1 from rfl, pk_sub_toInt (by omega) (by decide)]; rfl)) ?_
  refine ev_zeq rfl (fun hc => ?_) (fun hc => ?_)
  · rw [tb_b0] at hc
    unfold mdw
    rw [hc]
    refine ev_go 80 rfl ?_
    exact ev_tret rfl rfl
  · have hm : isM (2 ^ n) w = true := by simpa [tb_b0] using hc
    obtain ⟨j, hj, rfl⟩ := isM_of hm (by omega)
    rw [mdw_nI hn hj]
    refine ev_go 80 rfl ?_
    refine ev_cv rfl rfl rfl rfl hM rfl (d' := 1) (by omega) (c_saints hM hS g (Nat.le_refl _)) ?_
    refine ev_go 80 rfl ?_
    try dsimp only
    try simp only [nI_inc, nI_1, nI_add, nI_mul2, tb_and, tb_or, tb_andn, nI_x5, nI_x2, nI_p0, nI_p2, nI_p3, nI_p4, nI_q45]
    have hjs : j &&& sa n f < 2 ^ 32 := Nat.lt_of_le_of_lt Nat.and_le_left (by omega)
    refine ev_zne rfl (fun hz => ?_) (fun hz => ?_)
    · rw [nI_z hjs] at hz
      rw [decide_eq_false hz]
      refine ev_go 80 rfl ?_
      exact ev_tret rfl rfl
    · rw [nI_z hjs] at hz
      rw [decide_eq_true hz]
      refine ev_go 80 rfl ?_
      exact ev_tret rfl rfl
theorem c_becomes (hM : MO h n q) (hS : ST h f im) {k v : Nat} {x : Int32} (hk : k < 57) (hx : x = rvx k v) : ev_X scr d cd_X6_becomes 0 [.ref 57, .int (nI k), .int x, .float 0] [] h (fun r h' => r = some (.int (rv f k)) ∧ ST h' (up f k v) im ∧ SB 58 h h') := by
  refine ex_go 80 rfl ?_
  refine ex_getf rfl hM rfl rfl ?_
  refine ex_go 80 rfl ?_
  refine ex_ia k rfl hS rfl trivial (by omega) (by omega) (rs_lt hk) ?_
  refine ex_go 80 rfl ?_
  refine ex_getf rfl hM rfl rfl ?_
  refine ex_go 80 rfl ?_
  refine ex_is k rfl hS rfl (by omega) (by omega) (fun h1 hA1 hB1 => ?_)
  refine ex_go 80 rfl ?_
  exact ex_iret rfl ⟨rfl, ST.st hA1 (fun _ => Or.inl trivial) hk hx, hB1⟩
theorem c_becomesBit (hM : MO h n q) (hS : ST h f im) {k i : Nat} (b : Bool) (hk : k < 57) (hr : ¬ (k % 5 = 3 ∧ k < 40)) (hf : f k < 2 ^ 31) (hi : i < 31) : ev_X scr d cd_X6_becomesBit 0 [.ref 57, .int (nI k), .int (nI i), .int (nI (tb_b b)), .float 0] [] h (fun r h' => r = some (.int (nI (tb_b ((f k).testBit i)))) ∧ ST h' (up f k (wb b (f k) i)) im ∧ SB 58 h h') := by
  have e : rs f im k = nI (f k) := by rw [rs_lt hk, rv, if_neg hr]
  refine ex_go 80 rfl ?_
  refine ex_getf rfl hM rfl rfl ?_
  refine ex_go 80 rfl ?_
  refine ex_ia k rfl hS rfl trivial (by omega) (by omega) e ?_
  refine ex_go 80 rfl ?_
  dsimp only
  rw [tb_bit hf i hi]
  refine ex_getf rfl hM rfl rfl ?_
  refine ex_go 80 rfl ?_
  refine ex_zeq rfl (fun hc => ?_) (fun hc => ?_)
  · rw [tb_b0] at hc
    refine ex_go 80 rfl ?_
    refine ex_getf rfl hM rfl rfl ?_
    refine ex_go 80 rfl ?_
    refine ex_ia k rfl hS rfl trivial (by omega) (by omega) e ?_
    refine ex_go 80 rfl ?_
    dsimp only
    rw [tb_sh1 i hi, tb_andn]
    refine ex_is k rfl hS rfl (by omega) (by omega) (fun h1 hA1 hB1 => ?_)
    refine ex_go 80 rfl ?_
    exact ex_iret rfl ⟨rfl, ST.st hA1 (fun _ => Or.inl trivial) hk (by rw [hc, rvx_n hr]; rfl), hB1⟩
  · have hb : b = true := by simpa [tb_b0] using hc
    refine ex_go 80 rfl ?_
    refine ex_getf rfl hM rfl rfl ?_
    refine ex_go 80 rfl ?_
    refine ex_ia k rfl hS rfl trivial (by omega) (by omega) e ?_
    refine ex_go 80 rfl ?_
    dsimp only
    rw [tb_sh1 i hi, tb_or]
    refine ex_is k rfl hS rfl (by omega) (by omega) (fun h1 hA1 hB1 => ?_)
    refine ex_go 80 rfl ?_
    exact ex_iret rfl ⟨rfl, ST.st hA1 (fun _ => Or.inl trivial) hk (by rw [hb, rvx_n hr]; rfl), hB1⟩
theorem c_isWanderer (hM : MO h n q) (hS : ST h f im) {m : Nat} (hm : m < 8) (ht : f (5 * m + 3) ≤ 4) : ev_V scr d cd_X6_isWanderer 0 [.ref 57, .int (nI m)] [] h (some (.int (nI (tb_b (decide (f (5 * m + 3) = 4))))), h) := by
  refine ev_go 80 rfl ?_
  refine ev_getf rfl hM rfl rfl ?_
  refine ev_go 80 rfl ?_
  try dsimp only
  try simp only [nI_inc, nI_1, nI_add, nI_mul2, tb_and, tb_or, tb_andn, nI_x5, nI_x2, nI_p0, nI_p2, nI_p3, nI_p4, nI_q45]
  refine ev_ia _ rfl hS rfl (by first | exact trivial | assumption | (show _ < _; omega)) (by omega) (by omega) rfl ?_
  simp (disch := omega) only [rs_lt, rv_0, rv_1, rv_2, rv_3, rv_4, rv_40, rv_41, rv_42, rv_43, rv_44]
  refine ev_go 80 rfl ?_
  refine ev_ineM 1 2 13 (v := nI (tb_b (decide (f (5 * m + 3) = 4)))) rfl rfl rfl (if10 (tv_m4 ht)) ?_
  refine ev_tret rfl ?_
  cases decide (f (5 * m + 3) = 4) <;> rfl
theorem c_isFull {P : Nat → Prop} {z : Nat → Int32} (hM : MO h n q) (hS : ST h f im) (hI : IA h 59 57 P z) (hMo : IA h 61 4 (fun _ => True) (fun t => nI (f (60 + t)))) (g : GD n f) {t : Nat} (ht : t < 4) (hd : 2 ≤ d) : ev_X scr d cd_X6_isFull 0 [.ref 57, .int (nI t)] [] h (fun r h' => r = some (.int (nI (tb_b (decide (f (60 + t) ≤ sz n f t))))) ∧ AT h' f ∧ SB 59 h h') := by
  have hn := g.1
  have hz : pc8 (bs (fun m => decide (f (5 * m + 3) = t)) n) ≤ 8 := pc8_le _
  have hmo := (g.2.2.2.2.2.2.2.2.2 t ht).2
  have hbx := bs_256 (fun m => decide (f (5 * m + 3) = t)) hn
  refine ex_go 80 rfl ?_
  refine ex_cvx rfl rfl rfl rfl hM rfl (d' := 0) (by omega) (c_starts hM hS hI) ?_
  rintro v1 h1 ⟨rfl, hA1, hB1⟩
  have hM1 := hB1.mo hM (by decide)
  have hMo1 := hMo.sb hB1 (by decide)
  refine ex_go 80 rfl ?_
  refine ex_cv rfl rfl rfl rfl hM1 rfl (d' := 1) (by omega) (c_menOf hM1 hA1 hn ht (Nat.le_refl _)) ?_
  refine ex_cs rfl rfl rfl (d' := 0) (by omega) (c_bitsOf (by omega)) ?_
  refine ex_go 80 rfl ?_
  refine ex_getf rfl hM1 rfl rfl ?_
  refine ex_go 80 rfl ?_
  refine ex_ia _ rfl hMo1 rfl (by first | exact trivial | assumption | (show _ < _; omega)) (by omega) (by omega) rfl ?_
  refine ex_iltM 1 2 14 (v := nI (tb_b (decide (f (60 + t) ≤ sz n f t)))) rfl rfl rfl (if01 (by unfold sz; rw [nI_ltI (by omega) (by omega)]; omega)) ?_
  refine ex_tret rfl ?_ ⟨rfl, hA1, hB1⟩
  cases decide (f (60 + t) ≤ sz n f t) <;> rfl
theorem c_tensOfR (hM : MO h n q) (hS : ST h f im) (g : GD n f) {x : Nat} (hx : x < 2 ^ 31) (hd : 1 ≤ d) : ev_V scr d cd_X6_tensOf 0 [.ref 57, .int (nI x), .float 0, .float 0, .float 0] [] h (some (.int (nI (tor f x n))), h) := by
  have hn := g.1
  refine ev_go 80 rfl ?_
  refine ev_loop n (fun i => ev_V scr d cd_X6_tensOf 4 [.ref 57, .int (nI x), .int (nI (tor f x i)), .int (nI i), .float 0] [] h _) (fun i hi K => ?_) ?_
  · have g4 := (g.2.1 i hi).2.2.2.1
    rw [tor] at K
    have no : ¬ (x.testBit i = true ∧ f (5 * i + 3) < 4) → ev_V scr d cd_X6_tensOf 22 [.ref 57, .int (nI x), .int (nI (tor f x i)), .int (nI i), .float 0] [] h (some (.int (nI (tor f x n))), h) := by
      intro c
      rw [if_neg c] at K
      refine ev_go 80 rfl ?_
      refine ev_zeqT rfl (rfl) ?_
      refine ev_go 80 rfl ?_
      dsimp only
      rw [show (0 : Int32) = nI 0 from rfl, tb_or, nI_inc, Nat.or_zero]
      exact ev_weak (K) (by repeat (first | exact W_n | refine W_e ?_ | refine W_i ?_ | refine W_r ?_))
    refine ev_nop rfl ?_
    refine ev_go 80 rfl ?_
    refine ev_getf rfl hM rfl rfl ?_
    refine ev_igeF rfl (nI_ge hi (by first | omega | decide)) ?_
    refine ev_go 80 rfl ?_
    try dsimp only
    try simp only [nI_inc, nI_1, nI_add, nI_mul2, tb_and, tb_or, tb_andn, nI_x5, nI_x2, nI_p0, nI_p2, nI_p3, nI_p4, nI_q45]
    refine ev_ine rfl (fun hc => ?_) (fun hc => ?_)
    · rw [tb_b1' hx (by omega)] at hc
      exact no (fun q => hc q.1)
    · rw [tb_b1' hx (by omega)] at hc
      refine ev_go 80 rfl ?_
      refine ev_cv rfl rfl rfl rfl hM rfl (d' := 0) (by omega) (c_isWanderer hM hS (by omega) g4) ?_
      refine ev_zne rfl (fun hz => ?_) (fun hz => ?_)
      · have h4 : f (5 * i + 3) = 4 := by simpa [tb_b0] using hz
        exact no (fun q => by omega)
      · rw [tb_b0, decide_eq_false_iff_not] at hz
        have ht : f (5 * i + 3) < 4 := by omega
        rw [if_pos ⟨hc, ht⟩] at K
        refine ev_go 80 rfl ?_
        refine ev_zeqF rfl (by decide) ?_
        refine ev_go 80 rfl ?_
        refine ev_getf rfl hM rfl rfl ?_
        refine ev_go 80 rfl ?_
        try dsimp only
        try simp only [nI_inc, nI_1, nI_add, nI_mul2, tb_and, tb_or, tb_andn, nI_x5, nI_x2, nI_p0, nI_p2, nI_p3, nI_p4, nI_q45]
        refine ev_ia _ rfl hS rfl (by first | exact trivial | assumption | (show _ < _; omega)) (by omega) (by omega) rfl ?_
        simp (disch := omega) only [rs_lt, rv_0, rv_1, rv_2, rv_3, rv_4, rv_40, rv_41, rv_42, rv_43, rv_44]
        refine ev_go 80 rfl ?_
        try dsimp only
        try simp only [nI_inc, nI_1, nI_add, nI_mul2, tb_and, tb_or, tb_andn, nI_x5, nI_x2, nI_p0, nI_p2, nI_p3, nI_p4, nI_q45]
        rw [tv_lt ht, tb_sh1 _ (by omega), tb_or]
        exact ev_weak (K) (by repeat (first | exact W_n | refine W_e ?_ | refine W_i ?_ | refine W_r ?_))
  · refine ev_nop rfl ?_
    refine ev_go 80 rfl ?_
    refine ev_getf rfl hM rfl rfl ?_
    refine ev_igeT rfl (nI_le (Nat.le_refl _) (by first | omega | decide)) ?_
    refine ev_go 80 rfl ?_
    exact ev_iret rfl
theorem c_goesAway (hM : MO h n q) (hA : AT h f) {m : Nat} (hm : m < 8) (hd : 1 ≤ d) : ev_X scr d cd_X6_goesAway 0 [.ref 57, .int (nI m)] [] h (fun r h' => r = none ∧ AT h' (gvF f m) ∧ SB 59 h h') := by
  refine ex_go 80 rfl ?_
  refine ex_cvx rfl rfl rfl rfl hM rfl (d' := 0) (by omega) (c_becomesOf (w := 3) (v := 4) hM hA hm (by decide) (by rw [rvx_t (by omega)]; rfl)) ?_
  rintro v1 h1 ⟨rfl, hA1, hB1⟩
  have hM1 := hB1.mo hM (by decide)
  refine ex_go 80 rfl ?_
  refine ex_cvx rfl rfl rfl rfl hM1 rfl (d' := 0) (by omega) (c_becomesOf (w := 0) (v := 3) hM1 hA1 hm (by decide) (by rw [rvx_n (by omega)]; rfl)) ?_
  rintro v2 h2 ⟨rfl, hA2, hB2⟩
  have hM2 := hB2.mo hM1 (by decide)
  refine ex_go 80 rfl ?_
  refine ex_getf rfl hM2 rfl rfl ?_
  refine ex_go 80 rfl ?_
  refine ex_ia 40 rfl hA2 rfl (by first | exact trivial | assumption | (show _ < _; omega)) (by omega) (by omega) rfl ?_
  simp (disch := omega) only [rv_0, rv_1, rv_2, rv_3, rv_4, rv_40, rv_41, rv_42, rv_43, rv_44]
  refine ex_go 80 rfl ?_
  try dsimp only
  try simp only [nI_inc, nI_1, nI_add, nI_mul2, tb_and, tb_or, tb_andn, nI_x5, nI_x2, nI_p0, nI_p2, nI_p3, nI_p4, nI_q45]
  rw [tb_sh1 m (by omega), tb_andn]
  refine ex_is 40 rfl hA2 rfl (by omega) (by omega) (fun h3 hA3 hB3 => ?_)
  have e40 : up (up f (5 * m + 3) 4) (5 * m + 0) 3 40 = f 40 := by rw [up_ne (by omega), up_ne (by omega)]
  have hA4 := AT.st (v := tb_wo (f 40) (2 ^ m)) hA3 (fun _ => Or.inl trivial) (by rw [e40]; rfl)
  exact ex_vret rfl (⟨rfl, hA4, (hB1.tr hB2).tr hB3⟩)
theorem c_findOdds {P P2 : Nat → Prop} {z z2 : Nat → Int32} (hM : MO h n q) (hS : ST h f im) (hI : IA h 59 57 P z) (hJ : IA h 66 8 P2 z2) (g : GD n f) (hd : 2 ≤ d) : ev_X scr d cd_X6_findOdds 0 [.ref 57, .float 0] [] h (fun r h' => r = none ∧ AT h' f ∧ IA h' 66 8 (fun m => m < n) (fun m => nI (od n f m)) ∧ RX h h') := by
  have hn := g.1
  refine ex_go 80 rfl ?_
  refine ex_cvx rfl rfl rfl rfl hM rfl (d' := 0) (by omega) (c_starts hM hS hI) ?_
  rintro v1 h1 ⟨rfl, hA1, hB1⟩
  have hM1 := hB1.mo hM (by decide)
  have hJ1 := hJ.sb hB1 (by decide)
  refine ex_go 80 rfl ?_
  refine ev_loop n (fun i => ∀ h2, IA h2 66 8 (fun m => m < i ∧ True) (fun m => nI (od n f m)) → SB 66 h1 h2 → ev_X scr d cd_X6_findOdds 4 [.ref 57, .int (nI i)] [] h2 _) (fun i hi K h2 hJ2 hB2 => ?_) (fun h2 hJ2 hB2 => ?_) h1 hJ1.none SB.rf
  · have hM2 := hB2.mo hM1 (by decide)
    have hA2 := hA1.sb hB2 (by decide)
    refine ex_nop rfl ?_
    refine ex_go 80 rfl ?_
    refine ex_getf rfl hM2 rfl rfl ?_
    refine ex_igeF rfl (nI_ge hi (by first | omega | decide)) ?_
    refine ex_go 80 rfl ?_
    refine ex_getf rfl hM2 rfl rfl ?_
    refine ex_go 80 rfl ?_
    refine ex_cv rfl rfl rfl rfl hM2 rfl (d' := 1) (by omega) (c_oddsOf hM2 hA2 g hi (Nat.le_refl _)) ?_
    refine ex_is _ rfl hJ2 rfl (by omega) (by omega) (fun h3 hA3 hB3 => ?_)
    refine ex_go 80 rfl ?_
    try dsimp only
    try simp only [nI_inc, nI_1, nI_add, nI_mul2, tb_and, tb_or, tb_andn, nI_x5, nI_x2, nI_p0, nI_p2, nI_p3, nI_p4, nI_q45]
    exact K h3 (hA3.grow (fun _ => rfl)) (hB2.tr hB3)
  · have hM2 := hB2.mo hM1 (by decide)
    refine ex_nop rfl ?_
    refine ex_go 80 rfl ?_
    refine ex_getf rfl hM2 rfl rfl ?_
    refine ex_igeT rfl (nI_le (Nat.le_refl _) (by first | omega | decide)) ?_
    exact ex_vret rfl (⟨rfl, hA1.sb hB2 (by decide), hJ2.congr (fun m hm hp => ⟨⟨hp, trivial⟩, rfl⟩), hB1.rz9.rx.tr hB2.rx6⟩)
end RMUT
end
section
/-! The calls, one side and the other: what a call answers, and what the town is then. -/
def ix (m : Int32) : Nat := m.toNatClampNeg
theorem ix_nI {j : Nat} (h : j < 2 ^ 31) : ix (nI j) = j := nI_clamp h
def cob (x : Nat → Int32) : List Value := [.ref 1, .ref 10, .ref 19, .ref 20, .ref 21, .ref 22, .ref 23, .ref 25, .ref 30, .int (x 0), .int (x 1), .int (x 2)]
abbrev CO (h : ev_H) (x : Nat → Int32) : Prop := h[0]? = some (.inr (5, cob x))
def TL (h : ev_H) : Prop := ∃ n f, TA h 10 n f
abbrev CQ (h : ev_H) (n : Nat) (f : Nat → Nat) (a : Value) : Option Value → ev_H → Prop := fun v h' => v = some a ∧ TA h' 1 n f ∧ TL h' ∧ FR 1 18 h h'
def LA (h : ev_H) (k L : Nat) : Prop := IA h k L (fun _ => False) (fun _ => 0)
theorem IA.la {h : ev_H} {k L : Nat} {P : Nat → Prop} {g : Nat → Int32} (x : IA h k L P g) : LA h k L := x.congr (fun _ _ q => q.elim)
def RS (h : ev_H) : Prop := LA h 59 57 ∧ LA h 65 8 ∧ LA h 66 8
def RY (h h' : ev_H) : Prop := h'.length = h.length ∧ ∀ j, j ≠ 58 → j ≠ 59 → j ≠ 65 → j ≠ 66 → h'[j]? = h[j]?
theorem RY.rf {h : ev_H} : RY h h := ⟨rfl, fun _ _ _ _ _ => rfl⟩
theorem RY.tr {h h1 h2 : ev_H} (x : RY h h1) (y : RY h1 h2) : RY h h2 := ⟨y.1.trans x.1, fun j a b c e => (y.2 j a b c e).trans (x.2 j a b c e)⟩
theorem RX.ry {h h' : ev_H} (x : RX h h') : RY h h' := ⟨x.1, fun j _ a b c => x.2 j a b c⟩
theorem SB.ry8 {h h' : ev_H} (x : SB 58 h h') : RY h h' := ⟨x.1, fun j a _ _ _ => x.2 j a⟩
theorem SB.ry9 {h h' : ev_H} (x : SB 59 h h') : RY h h' := ⟨x.1, fun j _ a _ _ => x.2 j a⟩
theorem RZ.ry {h h' : ev_H} (x : RZ h h') : RY h h' := x.rx.ry
abbrev RQ (h : ev_H) (f : Nat → Nat) (im : Nat → Int32) (a : Value) : Option Value → ev_H → Prop := fun v h' => v = some a ∧ ST h' f im ∧ RS h' ∧ RY h h'
theorem RS.b8 {h h' : ev_H} (x : RS h) (y : SB 58 h h') : RS h' := ⟨x.1.sb y (by decide), x.2.1.sb y (by decide), x.2.2.sb y (by decide)⟩
theorem RS.b9 {h h' : ev_H} {P : Nat → Prop} {z : Nat → Int32} (x : RS h) (y : SB 59 h h') (w : IA h' 59 57 P z) : RS h' := ⟨w.la, x.2.1.sb y (by decide), x.2.2.sb y (by decide)⟩
theorem RS.z {h h' : ev_H} {P P2 : Nat → Prop} {z z2 : Nat → Int32} (x : RS h) (y : RZ h h') (w : IA h' 59 57 P z) (w2 : IA h' 65 8 P2 z2) : RS h' := ⟨w.la, w2.la, x.2.2.rz y (by decide) (by decide)⟩
theorem ST.b9 {h h' : ev_H} {f : Nat → Nat} {im : Nat → Int32} (x : ST h f im) (y : SB 59 h h') : ST h' f im := x.sb y (by decide)
theorem ST.z {h h' : ev_H} {f : Nat → Nat} {im : Nat → Int32} (x : ST h f im) (y : RZ h h') : ST h' f im := x.rz y (by decide) (by decide)
theorem TL.fr {h h' : ev_H} (x : TL h) (y : FR 1 (1 + 8) h h') : TL h' := by
  obtain ⟨n, f, t⟩ := x
  exact ⟨n, f, t.kept y (by decide)⟩
theorem cq_s {h : ev_H} {n : Nat} {f : Nat → Nat} {a : Value} (hT : TA h 1 n f) (hR : TL h) : CQ h n f a (some a) h := ⟨rfl, hT, hR, FR.rf⟩
theorem cq_t {h h' : ev_H} {n : Nat} {f : Nat → Nat} {a : Value} (hR : TL h) (hT : TA h' 1 n f) (hF : FR 1 (1 + 8) h h') : CQ h n f a (some a) h' := ⟨rfl, hT, hR.fr hF, hF.wide (by decide) (by decide)⟩
theorem cq_r {h h' : ev_H} {n n2 : Nat} {f f2 : Nat → Nat} {a : Value} (hT : TA h 1 n f) (hR : TA h' 10 n2 f2) (hF : FR 10 (10 + 8) h h') : CQ h n f a (some a) h' := ⟨rfl, hT.kept hF (by decide), ⟨n2, f2, hR⟩, hF.wide (by decide) (by decide)⟩
theorem rq_s {h : ev_H} {f : Nat → Nat} {im : Nat → Int32} {a : Value} (hS : ST h f im) (hR : RS h) : RQ h f im a (some a) h := ⟨rfl, hS, hR, RY.rf⟩
theorem rq_9 {h h' : ev_H} {f : Nat → Nat} {im : Nat → Int32} {a : Value} {P : Nat → Prop} {z : Nat → Int32} (hS : ST h f im) (hR : RS h) (hB : SB 59 h h') (w : IA h' 59 57 P z) : RQ h f im a (some a) h' := ⟨rfl, hS.b9 hB, hR.b9 hB w, hB.ry9⟩
theorem rq_8 {h h' : ev_H} {f : Nat → Nat} {im : Nat → Int32} {a : Value} (hS : ST h' f im) (hR : RS h) (hB : SB 58 h h') : RQ h f im a (some a) h' := ⟨rfl, hS, hR.b8 hB, hB.ry8⟩
theorem up_comm {f : Nat → Nat} {k k' v v' : Nat} (h : k ≠ k') : up (up f k v) k' v' = up (up f k' v') k v := funext (fun j => by
  unfold up
  by_cases c : j = k'
  · rw [if_pos c, if_neg (by omega), if_pos c]
  · rw [if_neg c]
    by_cases c2 : j = k
    · rw [if_pos c2, if_pos c2]
    · rw [if_neg c2, if_neg c2, if_neg c])
theorem up_self (f : Nat → Nat) (k : Nat) : up f k (f k) = f := funext (fun j => by
  unfold up
  by_cases c : j = k
  · rw [if_pos c, c]
  · rw [if_neg c])
theorem tsw_d {w : Int32} {k : Nat} {lo hi d0 : Int} {offs : Array Int} (hw : isM (k + 1) w = false) (hlo : lo = 0) (hhi : hi = (k : Int)) : (if w.toInt < lo ∨ hi < w.toInt then d0.toNat else (offs.toList.getD (w.toInt - lo).toNat d0).toNat) = d0.toNat := by
  refine if_pos ?_
  rw [hlo, hhi]
  simp only [isM, Bool.and_eq_false_iff, decide_eq_false_iff_not] at hw
  omega
def gd (f : Nat → Nat) : Nat → Nat := fun m => f (5 * m + 2)
theorem wg_gdf (f : Nat → Nat) : wg f (gd f) = f := wg_self f
/-! answers -/
def a_rule (n : Nat) (f : Nat → Nat) (w : Int32) : Int32 := if isM 6 w = true then (match ix w with | 0 => nI n | 1 => nI (f 41) | 2 => nI (f 42) | 3 => nI (f 43) | 4 => nI (f 40) | _ => nI (bs (fun m => decide (f (5 * m) = 3)) n)) else -1
def a_man (n : Nat) (f : Nat → Nat) (m w : Int32) : Int32 := if (isM n m && isM 6 w) = true then (if ix w < 5 then rv f (5 * ix m + ix w) else nI (od n f (ix m))) else -1
def tb (n : Nat) (f : Nat → Nat) (t : Nat) : Nat := bs (fun m => decide (f (5 * m + 3) = t)) n
def a_ten (n : Nat) (f : Nat → Nat) (t w : Int32) : Int32 := if (isM 4 t && isM 4 w) = true then (match ix w with | 0 => nI (tb n f (ix t)) | 1 => nI (f (60 + ix t)) | 2 => nI (hm n f (ix t)) | _ => nI (sm (gsg f (tb n f (ix t))) n)) else -1
def a_move (n : Nat) (f : Nat → Nat) (m t : Int32) : Int32 := if (isM n m && isM 4 t) = true then (if wns n f (ix m) (ix t) = 0 then tv (f (5 * ix m + 3)) else -3) else -1
def s_move (n : Nat) (f : Nat → Nat) (m t : Int32) : Nat → Nat := if (isM n m && isM 4 t) = true then (if wns n f (ix m) (ix t) = 0 then seF f (ix m) (ix t) else f) else f
def rit (n : Nat) (f : Nat → Nat) (m : Int32) : Int32 := if isM n m = true then (if f (5 * ix m + 3) < 4 then 0 else -2) else -1
def a_leave (n : Nat) (f : Nat → Nat) (m : Int32) : Int32 := if rit n f m = 0 then tv (f (5 * ix m + 3)) else rit n f m
def s_leave (n : Nat) (f : Nat → Nat) (m : Int32) : Nat → Nat := if rit n f m = 0 then gvF f (ix m) else f
def prm (n : Nat) (m k : Int32) : Bool := isM n m && (isM n k && decide (m ≠ k))
def msw (f : Nat → Nat) (i j : Nat) : Bool := decide (f (5 * i + 3) < 4 ∧ f (5 * j + 3) < 4 ∧ f (5 * i + 3) ≠ f (5 * j + 3))
def a_swap (n : Nat) (f : Nat → Nat) (m k : Int32) : Int32 := if prm n m k = true then (if msw f (ix m) (ix k) = true then tv (f (5 * ix k + 3)) else -2) else -1
def s_swap (n : Nat) (f : Nat → Nat) (m k : Int32) : Nat → Nat := if prm n m k = true then (if msw f (ix m) (ix k) = true then exF f (ix m) (ix k) else f) else f
def a_watch (n : Nat) (f : Nat → Nat) (m : Int32) : Int32 := if rit n f m = 0 then nI (tb_b ((f 40).testBit (ix m))) else rit n f m
def s_watch (n : Nat) (f : Nat → Nat) (m : Int32) (b : Bool) : Nat → Nat := if rit n f m = 0 then up f 40 (wb b (f 40) (ix m)) else f
def a_kin (n : Nat) (f : Nat → Nat) (m k : Int32) : Int32 := if prm n m k = true then nI (tb_b ((f (5 * ix m + 4)).testBit (ix k))) else -1
def s_kin (n : Nat) (f : Nat → Nat) (m k : Int32) (b : Bool) : Nat → Nat := if prm n m k = true then kiF f (ix m) (ix k) b else f
def a_odd (n : Nat) (f : Nat → Nat) (m v : Int32) : Int32 := if (isM n m && isM 10 v) = true then (if f (5 * ix m) = 2 then -2 else nI (f (5 * ix m + 1))) else -1
def s_odd (n : Nat) (f : Nat → Nat) (m v : Int32) : Nat → Nat := if (isM n m && isM 10 v) = true then (if f (5 * ix m) = 2 then f else up f (5 * ix m + 1) (ix v)) else f
def a_law (f : Nat → Nat) (w v : Int32) : Int32 := if (decide (w = 0) && isM 100 v) = true then nI (f 41) else if (decide (w = 1) && isM 10 v) = true then nI (f 42) else -1
def s_law (f : Nat → Nat) (w v : Int32) : Nat → Nat := if (decide (w = 0) && isM 100 v) = true then up f 41 (ix v) else if (decide (w = 1) && isM 10 v) = true then up f 42 (ix v) else f
def a_goods (n : Nat) (f : Nat → Nat) (m v : Int32) : Int32 := if (isM n m && isM 100 v) = true then nI (f (5 * ix m + 2)) else -1
def s_goods (n : Nat) (f : Nat → Nat) (m v : Int32) : Nat → Nat := if (isM n m && isM 100 v) = true then up f (5 * ix m + 2) (ix v) else f
section CALLS
variable {scr : List Int32} {d : Nat} {h : ev_H} {n : Nat} {f : Nat → Nat} {x : Nat → Int32} {q : Nat → Int32} {im : Nat → Int32}
theorem k_rule (hC : CO h x) (hT : TA h 1 n f) (hL : TL h) (g : GD n f) {w : Int32} (hd : 1 ≤ d) : ev_X scr d cd_X5_rule 0 [.ref 0, .int w] [] h (CQ h n f (.int (a_rule n f w))) := by
  unfold a_rule
  cases hw : isM 6 w
  · refine ex_go 80 rfl ?_
    refine ex_tsw (t := 27) rfl (tsw_d (k := 5) hw rfl rfl) ?_
    refine ex_go 80 rfl ?_
    exact ex_iret rfl (cq_s hT hL)
  · obtain ⟨j, hj, rfl⟩ := isM_of hw (by decide)
    rw [ix_nI (by omega), if_pos rfl]
    rcases (by omega : j = 0 ∨ j = 1 ∨ j = 2 ∨ j = 3 ∨ j = 4 ∨ j = 5) with rfl | rfl | rfl | rfl | rfl | rfl
    · refine ex_go 80 rfl ?_
      refine ex_tsw (t := 2) rfl (by decide) ?_
      refine ex_go 80 rfl ?_
      refine ex_getf rfl hC rfl rfl ?_
      refine ex_getf rfl hT.1 rfl rfl ?_
      exact ex_iret rfl (cq_s hT hL)
    · refine ex_go 80 rfl ?_
      refine ex_tsw (t := 6) rfl (by decide) ?_
      refine ex_go 80 rfl ?_
      refine ex_getf rfl hC rfl rfl ?_
      refine ex_getf rfl hT.1 rfl rfl ?_
      exact ex_iret rfl (cq_s hT hL)
    · refine ex_go 80 rfl ?_
      refine ex_tsw (t := 10) rfl (by decide) ?_
      refine ex_go 80 rfl ?_
      refine ex_getf rfl hC rfl rfl ?_
      refine ex_getf rfl hT.1 rfl rfl ?_
      exact ex_iret rfl (cq_s hT hL)
    · refine ex_go 80 rfl ?_
      refine ex_tsw (t := 14) rfl (by decide) ?_
      refine ex_go 80 rfl ?_
      refine ex_getf rfl hC rfl rfl ?_
      refine ex_getf rfl hT.1 rfl rfl ?_
      exact ex_iret rfl (cq_s hT hL)
    · refine ex_go 80 rfl ?_
      refine ex_tsw (t := 18) rfl (by decide) ?_
      refine ex_go 80 rfl ?_
      refine ex_getf rfl hC rfl rfl ?_
      refine ex_getf rfl hT.1 rfl rfl ?_
      exact ex_iret rfl (cq_s hT hL)
    · refine ex_go 80 rfl ?_
      refine ex_tsw (t := 22) rfl (by decide) ?_
      refine ex_go 80 rfl ?_
      refine ex_getf rfl hC rfl rfl ?_
      refine ex_go 80 rfl ?_
      refine ex_cv rfl rfl rfl rfl hT.1 rfl (d' := 0) (by omega) (c_menOfKind (k := 3) hT g.1 (by decide) (fun j hj => (g.2.1 j hj).1)) ?_
      exact ex_iret rfl (cq_s hT hL)
theorem k_man (hC : CO h x) (hT : TA h 1 n f) (hL : TL h) (g : GD n f) {m w : Int32} (hd : 4 ≤ d) : ev_X scr d cd_X5_man 0 [.ref 0, .int m, .int w] [] h (CQ h n f (.int (a_man n f m w))) := by
  have hn := g.1
  unfold a_man
  refine ex_go 80 rfl ?_
  refine ex_getf rfl hC rfl rfl ?_
  refine ex_go 80 rfl ?_
  refine ex_cv rfl rfl rfl rfl hT.1 rfl (d' := 0) (by omega) (c_hasMan hT hn) ?_
  cases hm : isM n m
  · refine ex_zneF rfl (by decide) ?_
    refine ex_go 80 rfl ?_
    exact ex_iret rfl (cq_s hT hL)
  · obtain ⟨i, hi, rfl⟩ := isM_of hm (by omega)
    refine ex_zneT rfl (by decide) ?_
    cases hw : isM 6 w
    · refine ex_go 80 rfl ?_
      refine ex_tsw (t := 44) rfl (tsw_d (k := 5) hw rfl rfl) ?_
      refine ex_go 80 rfl ?_
      exact ex_iret rfl (cq_s hT hL)
    · obtain ⟨j, hj, rfl⟩ := isM_of hw (by decide)
      rw [ix_nI (by omega), ix_nI (by omega), Bool.true_and, if_pos rfl]
      rcases (by omega : j = 0 ∨ j = 1 ∨ j = 2 ∨ j = 3 ∨ j = 4 ∨ j = 5) with rfl | rfl | rfl | rfl | rfl | rfl
      · rw [if_pos (by decide), show 5 * i + 0 = 5 * i from rfl, rv_0]
        refine ex_go 80 rfl ?_
        refine ex_tsw (t := 9) rfl (by decide) ?_
        refine ex_go 80 rfl ?_
        refine ex_getf rfl hC rfl rfl ?_
        refine ex_getf rfl hT.1 rfl rfl ?_
        refine ex_go 80 rfl ?_
        refine ex_ia _ rfl hT.2.1 rfl (by first | exact trivial | assumption | (show _ < _; omega)) (by omega) (by omega) rfl ?_
        exact ex_iret rfl (cq_s hT hL)
      · rw [if_pos (by decide), rv_1]
        refine ex_go 80 rfl ?_
        refine ex_tsw (t := 15) rfl (by decide) ?_
        refine ex_go 80 rfl ?_
        refine ex_getf rfl hC rfl rfl ?_
        refine ex_getf rfl hT.1 rfl rfl ?_
        refine ex_go 80 rfl ?_
        refine ex_ia _ rfl hT.2.2.1 rfl (by first | exact trivial | assumption | (show _ < _; omega)) (by omega) (by omega) rfl ?_
        exact ex_iret rfl (cq_s hT hL)
      · rw [if_pos (by decide), rv_2]
        refine ex_go 80 rfl ?_
        refine ex_tsw (t := 21) rfl (by decide) ?_
        refine ex_go 80 rfl ?_
        refine ex_getf rfl hC rfl rfl ?_
        refine ex_getf rfl hT.1 rfl rfl ?_
        refine ex_go 80 rfl ?_
        refine ex_ia _ rfl hT.2.2.2.1 rfl (by first | exact trivial | assumption | (show _ < _; omega)) (by omega) (by omega) rfl ?_
        exact ex_iret rfl (cq_s hT hL)
      · rw [if_pos (by decide), rv_3 f (by omega)]
        refine ex_go 80 rfl ?_
        refine ex_tsw (t := 27) rfl (by decide) ?_
        refine ex_go 80 rfl ?_
        refine ex_getf rfl hC rfl rfl ?_
        refine ex_getf rfl hT.1 rfl rfl ?_
        refine ex_go 80 rfl ?_
        refine ex_ia _ rfl hT.2.2.2.2.1 rfl (by first | exact trivial | assumption | (show _ < _; omega)) (by omega) (by omega) rfl ?_
        exact ex_iret rfl (cq_s hT hL)
      · rw [if_pos (by decide), rv_4]
        refine ex_go 80 rfl ?_
        refine ex_tsw (t := 33) rfl (by decide) ?_
        refine ex_go 80 rfl ?_
        refine ex_getf rfl hC rfl rfl ?_
        refine ex_getf rfl hT.1 rfl rfl ?_
        refine ex_go 80 rfl ?_
        refine ex_ia _ rfl hT.2.2.2.2.2.1 rfl (by first | exact trivial | assumption | (show _ < _; omega)) (by omega) (by omega) rfl ?_
        exact ex_iret rfl (cq_s hT hL)
      · refine ex_go 80 rfl ?_
        refine ex_tsw (t := 39) rfl (by decide) ?_
        refine ex_go 80 rfl ?_
        refine ex_getf rfl hC rfl rfl ?_
        refine ex_go 80 rfl ?_
        refine ex_cv rfl rfl rfl rfl hT.1 rfl (d' := 3) (by omega) (c_oddsInTen hT g hi (Nat.le_refl _)) ?_
        exact ex_iret rfl (cq_s hT hL)
theorem k_ten (hC : CO h x) (hT : TA h 1 n f) (hL : TL h) (g : GD n f) {t w : Int32} (hd : 5 ≤ d) : ev_X scr d cd_X5_ten 0 [.ref 0, .int t, .int w] [] h (CQ h n f (.int (a_ten n f t w))) := by
  have hn := g.1
  unfold a_ten
  refine ex_go 80 rfl ?_
  refine ex_cs rfl rfl rfl (d' := 0) (by omega) (c_isTen) ?_
  cases ht : isM 4 t
  · refine ex_zneF rfl (by decide) ?_
    refine ex_go 80 rfl ?_
    exact ex_iret rfl (cq_s hT hL)
  · obtain ⟨i, hi, rfl⟩ := isM_of ht (by omega)
    refine ex_zneT rfl (by decide) ?_
    cases hw : isM 4 w
    · refine ex_go 80 rfl ?_
      refine ex_tsw (t := 31) rfl (tsw_d (k := 3) hw rfl rfl) ?_
      refine ex_go 80 rfl ?_
      exact ex_iret rfl (cq_s hT hL)
    · obtain ⟨j, hj, rfl⟩ := isM_of hw (by decide)
      rw [ix_nI (by omega), ix_nI (by omega), Bool.true_and, if_pos rfl]
      rcases (by omega : j = 0 ∨ j = 1 ∨ j = 2 ∨ j = 3) with rfl | rfl | rfl | rfl
      · refine ex_go 80 rfl ?_
        refine ex_tsw (t := 7) rfl (by decide) ?_
        refine ex_go 80 rfl ?_
        refine ex_getf rfl hC rfl rfl ?_
        refine ex_go 80 rfl ?_
        refine ex_cv rfl rfl rfl rfl hT.1 rfl (d' := 0) (by omega) (c_menOfTen hT hn hi) ?_
        exact ex_iret rfl (cq_s hT hL)
      · refine ex_go 80 rfl ?_
        refine ex_tsw (t := 12) rfl (by decide) ?_
        refine ex_go 80 rfl ?_
        refine ex_getf rfl hC rfl rfl ?_
        refine ex_getf rfl hT.1 rfl rfl ?_
        refine ex_go 80 rfl ?_
        refine ex_ia _ rfl hT.2.2.2.2.2.2.1 rfl (by first | exact trivial | assumption | (show _ < _; omega)) (by omega) (by omega) rfl ?_
        exact ex_iret rfl (cq_s hT hL)
      · refine ex_go 80 rfl ?_
        refine ex_tsw (t := 18) rfl (by decide) ?_
        refine ex_go 80 rfl ?_
        refine ex_getf rfl hC rfl rfl ?_
        refine ex_go 80 rfl ?_
        refine ex_cv rfl rfl rfl rfl hT.1 rfl (d' := 4) (by omega) (c_harmOfTen hT g hi (Nat.le_refl _)) ?_
        exact ex_iret rfl (cq_s hT hL)
      · refine ex_go 80 rfl ?_
        refine ex_tsw (t := 23) rfl (by decide) ?_
        refine ex_go 80 rfl ?_
        refine ex_getf rfl hC rfl rfl ?_
        refine ex_go 80 rfl ?_
        refine ex_getf rfl hC rfl rfl ?_
        refine ex_go 80 rfl ?_
        refine ex_cv rfl rfl rfl rfl hT.1 rfl (d' := 0) (by omega) (c_menOfTen hT hn hi) ?_
        refine ex_cv rfl rfl rfl rfl hT.1 rfl (d' := 1) (by omega) (c_stockOf hT hn (Nat.lt_trans (bs_256 _ hn) (by decide)) (Nat.le_refl _)) ?_
        exact ex_iret rfl (cq_s hT hL)
theorem wns_or (n : Nat) (f : Nat → Nat) (i t : Nat) : wns n f i t = 0 ∨ wns n f i t = -3 := by
  unfold wns
  split
  · exact Or.inr rfl
  · exact Or.inl rfl
theorem k_move (hC : CO h x) (hT : TA h 1 n f) (hL : TL h) (g : GD n f) {m t : Int32} (hd : 3 ≤ d) : ev_X scr d cd_X5_move 0 [.ref 0, .int m, .int t, .float 0] [] h (CQ h n (s_move n f m t) (.int (a_move n f m t))) := by
  have hn := g.1
  unfold a_move s_move
  cases hb : isM n m && isM 4 t
  · refine ex_go 80 rfl ?_
    refine ex_getf rfl hC rfl rfl ?_
    refine ex_go 80 rfl ?_
    refine ex_cv rfl rfl rfl rfl hT.1 rfl (d' := 1) (by omega) (c_whyBad hT hn hb (Nat.le_refl _)) ?_
    refine ex_go 80 rfl ?_
    refine ex_zeqF rfl (by decide) ?_
    refine ex_go 80 rfl ?_
    exact ex_iret rfl (cq_s hT hL)
  · rw [Bool.and_eq_true] at hb
    obtain ⟨i, hi, rfl⟩ := isM_of hb.1 (by omega)
    obtain ⟨j, hj, rfl⟩ := isM_of hb.2 (by omega)
    rw [ix_nI (by omega), ix_nI (by omega), if_pos rfl, if_pos rfl]
    refine ex_go 80 rfl ?_
    refine ex_getf rfl hC rfl rfl ?_
    refine ex_go 80 rfl ?_
    refine ex_cv rfl rfl rfl rfl hT.1 rfl (d' := 2) (by omega) (c_whyNoSeat hT g hi hj (Nat.le_refl _)) ?_
    rcases wns_or n f i j with e | e
    · rw [e, if_pos rfl, if_pos rfl]
      refine ex_go 80 rfl ?_
      refine ex_zeqT rfl (rfl) ?_
      refine ex_go 80 rfl ?_
      refine ex_getf rfl hC rfl rfl ?_
      refine ex_go 80 rfl ?_
      refine ex_cvx rfl rfl rfl rfl hT.1 rfl (d' := 0) (by omega) (c_seat hT hn hi hj (g.2.1 i hi).1) ?_
      rintro v1 h1 ⟨rfl, hT1, hF1⟩
      exact ex_iret rfl (cq_t hL hT1 hF1)
    · rw [e, if_neg (by decide), if_neg (by decide)]
      refine ex_go 80 rfl ?_
      refine ex_zeqF rfl (by decide) ?_
      refine ex_go 80 rfl ?_
      exact ex_iret rfl (cq_s hT hL)
theorem c_refusalInTen (hC : CO h x) (hT : TA h 1 n f) (hn : n ≤ 8) {m : Int32} (hd : 1 ≤ d) : ev_V scr d cd_X5_refusalInTen 0 [.ref 0, .int m] [] h (some (.int (rit n f m)), h) := by
  unfold rit
  refine ev_go 80 rfl ?_
  refine ev_getf rfl hC rfl rfl ?_
  refine ev_go 80 rfl ?_
  refine ev_cv rfl rfl rfl rfl hT.1 rfl (d' := 0) (by omega) (c_hasMan hT hn) ?_
  cases hm : isM n m
  · refine ev_zneF rfl (by decide) ?_
    refine ev_go 80 rfl ?_
    exact ev_iret rfl
  · obtain ⟨i, hi, rfl⟩ := isM_of hm (by omega)
    refine ev_zneT rfl (by decide) ?_
    rw [ix_nI (by omega), if_pos rfl]
    refine ev_go 80 rfl ?_
    refine ev_getf rfl hC rfl rfl ?_
    refine ev_getf rfl hT.1 rfl rfl ?_
    refine ev_go 80 rfl ?_
    refine ev_ia _ rfl hT.2.2.2.2.1 rfl (by first | exact trivial | assumption | (show _ < _; omega)) (by omega) (by omega) rfl ?_
    refine ev_zge rfl (fun hc => ?_) (fun hc => ?_)
    · rw [if_pos (Classical.not_not.mp (fun q => absurd hc (Int32.not_le.mpr ((tv_neg _).mpr q))))]
      refine ev_go 80 rfl ?_
      exact ev_iret rfl
    · rw [if_neg ((tv_neg _).mp (Int32.not_le.mp hc))]
      refine ev_go 80 rfl ?_
      exact ev_iret rfl
theorem rit_0 {n : Nat} {f : Nat → Nat} {m : Int32} (hn : n ≤ 8) (h : rit n f m = 0) : ∃ i, i < n ∧ m = nI i ∧ f (5 * i + 3) < 4 ∧ ix m = i := by
  unfold rit at h
  by_cases c : isM n m = true
  · rw [if_pos c] at h
    obtain ⟨i, hi, rfl⟩ := isM_of c (by omega)
    rw [ix_nI (by omega)] at h
    refine ⟨i, hi, rfl, Classical.not_not.mp (fun q => ?_), ix_nI (by omega)⟩
    rw [if_neg q] at h
    exact absurd h (by decide)
  · rw [if_neg c] at h
    exact absurd h (by decide)
theorem k_leave (hC : CO h x) (hT : TA h 1 n f) (hL : TL h) (g : GD n f) {m : Int32} (hd : 2 ≤ d) : ev_X scr d cd_X5_leave 0 [.ref 0, .int m, .float 0, .float 0] [] h (CQ h n (s_leave n f m) (.int (a_leave n f m))) := by
  have hn := g.1
  unfold a_leave s_leave
  refine ex_go 80 rfl ?_
  refine ex_cv rfl rfl rfl rfl hC rfl (d' := 1) (by omega) (c_refusalInTen hC hT hn (Nat.le_refl _)) ?_
  by_cases c : rit n f m = 0
  · obtain ⟨i, hi, rfl, ht, e⟩ := rit_0 hn c
    rw [if_pos c, if_pos c, e, c]
    refine ex_go 80 rfl ?_
    refine ex_zeqT rfl (rfl) ?_
    refine ex_go 80 rfl ?_
    refine ex_getf rfl hC rfl rfl ?_
    refine ex_getf rfl hT.1 rfl rfl ?_
    refine ex_go 80 rfl ?_
    refine ex_ia _ rfl hT.2.2.2.2.1 rfl (by first | exact trivial | assumption | (show _ < _; omega)) (by omega) (by omega) rfl ?_
    refine ex_go 80 rfl ?_
    refine ex_getf rfl hC rfl rfl ?_
    refine ex_go 80 rfl ?_
    refine ex_cvx rfl rfl rfl rfl hT.1 rfl (d' := 1) (by omega) (c_giveUp hT hn hi (Nat.le_refl _)) ?_
    rintro v1 h1 ⟨rfl, hT1, hF1⟩
    refine ex_go 80 rfl ?_
    exact ex_iret rfl (cq_t hL hT1 hF1)
  · rw [if_neg c, if_neg c]
    refine ex_go 80 rfl ?_
    refine ex_zeqF rfl (c) ?_
    refine ex_go 80 rfl ?_
    exact ex_iret rfl (cq_s hT hL)
theorem c_isPair (hC : CO h x) (hT : TA h 1 n f) (hn : n ≤ 8) {m k : Int32} (hd : 1 ≤ d) : ev_V scr d cd_X5_isPair 0 [.ref 0, .int m, .int k] [] h (some (.int (nI (tb_b (prm n m k)))), h) := by
  unfold prm
  refine ev_go 80 rfl ?_
  refine ev_getf rfl hC rfl rfl ?_
  refine ev_go 80 rfl ?_
  refine ev_cv rfl rfl rfl rfl hT.1 rfl (d' := 0) (by omega) (c_hasMan hT hn) ?_
  cases hm : isM n m
  · refine ev_zeqT rfl (by decide) ?_
    refine ev_go 80 rfl ?_
    exact ev_tret rfl rfl
  · refine ev_zeqF rfl (by decide) ?_
    refine ev_go 80 rfl ?_
    refine ev_getf rfl hC rfl rfl ?_
    refine ev_go 80 rfl ?_
    refine ev_cv rfl rfl rfl rfl hT.1 rfl (d' := 0) (by omega) (c_hasMan hT hn) ?_
    cases hk : isM n k
    · refine ev_zeqT rfl (by decide) ?_
      refine ev_go 80 rfl ?_
      exact ev_tret rfl rfl
    · refine ev_zeqF rfl (by decide) ?_
      refine ev_go 80 rfl ?_
      refine ev_ieq rfl (fun hc => ?_) (fun hc => ?_)
      · rw [decide_eq_false (fun q => q hc)]
        refine ev_go 80 rfl ?_
        exact ev_tret rfl rfl
      · rw [decide_eq_true hc]
        refine ev_go 80 rfl ?_
        exact ev_tret rfl rfl
theorem prm_of {n : Nat} {m k : Int32} (hn : n ≤ 8) (h : prm n m k = true) : ∃ i j, i < n ∧ j < n ∧ i ≠ j ∧ m = nI i ∧ k = nI j ∧ ix m = i ∧ ix k = j := by
  unfold prm at h
  rw [Bool.and_eq_true, Bool.and_eq_true, decide_eq_true_eq] at h
  obtain ⟨i, hi, rfl⟩ := isM_of h.1 (by omega)
  obtain ⟨j, hj, rfl⟩ := isM_of h.2.1 (by omega)
  exact ⟨i, j, hi, hj, fun e => h.2.2 (by rw [e]), rfl, rfl, ix_nI (by omega), ix_nI (by omega)⟩
theorem k_swap (hC : CO h x) (hT : TA h 1 n f) (hL : TL h) (g : GD n f) {m k : Int32} (hd : 2 ≤ d) : ev_X scr d cd_X5_swap 0 [.ref 0, .int m, .int k] [] h (CQ h n (s_swap n f m k) (.int (a_swap n f m k))) := by
  have hn := g.1
  unfold a_swap s_swap
  refine ex_go 80 rfl ?_
  refine ex_cv rfl rfl rfl rfl hC rfl (d' := 1) (by omega) (c_isPair hC hT hn (Nat.le_refl _)) ?_
  cases hp : prm n m k
  · refine ex_zneF rfl (by decide) ?_
    refine ex_go 80 rfl ?_
    exact ex_iret rfl (cq_s hT hL)
  · obtain ⟨i, j, hi, hj, hij, rfl, rfl, ei, ej⟩ := prm_of hn hp
    rw [ei, ej, if_pos rfl, if_pos rfl]
    refine ex_zneT rfl (by decide) ?_
    refine ex_go 80 rfl ?_
    refine ex_getf rfl hC rfl rfl ?_
    refine ex_go 80 rfl ?_
    refine ex_cv rfl rfl rfl rfl hT.1 rfl (d' := 0) (by omega) (c_maySwap hT g hi hj) ?_
    show ev_X scr d cd_X5_swap _ _ [.int (nI (tb_b (msw f i j)))] _ _
    cases hs : msw f i j
    · refine ex_zneF rfl (by decide) ?_
      refine ex_go 80 rfl ?_
      exact ex_iret rfl (cq_s hT hL)
    · refine ex_zneT rfl (by decide) ?_
      refine ex_go 80 rfl ?_
      refine ex_getf rfl hC rfl rfl ?_
      refine ex_go 80 rfl ?_
      refine ex_cvx rfl rfl rfl rfl hT.1 rfl (d' := 0) (by omega) (c_exchange hT hn hi hj) ?_
      rintro v1 h1 ⟨rfl, hT1, hF1⟩
      have hC1 := (hF1.2 0 (by decide)).trans hC
      have e : exF f i j (5 * i + 3) = f (5 * j + 3) := by unfold exF; rw [up_ne (by omega), up_eq]
      rw [if_pos rfl, if_pos rfl, ← e]
      refine ex_go 80 rfl ?_
      refine ex_getf rfl hC1 rfl rfl ?_
      refine ex_getf rfl hT1.1 rfl rfl ?_
      refine ex_go 80 rfl ?_
      refine ex_ia _ rfl hT1.2.2.2.2.1 rfl (by first | exact trivial | assumption | (show _ < _; omega)) (by omega) (by omega) rfl ?_
      exact ex_iret rfl (cq_t hL hT1 hF1)
theorem k_watch (hC : CO h x) (hT : TA h 1 n f) (hL : TL h) (g : GD n f) {m : Int32} (b : Bool) (hd : 2 ≤ d) : ev_X scr d cd_X5_watch 0 [.ref 0, .int m, .int (nI (tb_b b)), .float 0, .float 0] [] h (CQ h n (s_watch n f m b) (.int (a_watch n f m))) := by
  have hn := g.1
  have hw := g.w
  unfold a_watch s_watch
  refine ex_go 80 rfl ?_
  refine ex_cv rfl rfl rfl rfl hC rfl (d' := 1) (by omega) (c_refusalInTen hC hT hn (Nat.le_refl _)) ?_
  by_cases c : rit n f m = 0
  · obtain ⟨i, hi, rfl, ht, e⟩ := rit_0 hn c
    rw [if_pos c, if_pos c, e, c]
    refine ex_go 80 rfl ?_
    refine ex_zeqT rfl (rfl) ?_
    refine ex_go 80 rfl ?_
    refine ex_getf rfl hC rfl rfl ?_
    refine ex_getf rfl hT.1 rfl rfl ?_
    refine ex_go 80 rfl ?_
    refine ex_cs rfl rfl rfl (d' := 0) (by omega) (c_bitOf (by omega) (by omega)) ?_
    refine ex_go 80 rfl ?_
    refine ex_getf rfl hC rfl rfl ?_
    refine ex_go 80 rfl ?_
    refine ex_getf rfl hC rfl rfl ?_
    refine ex_getf rfl hT.1 rfl rfl ?_
    refine ex_go 80 rfl ?_
    refine ex_cs rfl rfl rfl (d' := 0) (by omega) (c_withBit b (by omega)) ?_
    refine ex_pf rfl hT.1 rfl rfl (fun h1 hO1 hB1 => ?_)
    have hT1 := hT.f_40 (v := wb b (f 40) i) hO1 hB1 rfl
    refine ex_go 80 rfl ?_
    exact ex_iret rfl (cq_t hL hT1 (hB1.fr (by decide) (by decide)))
  · rw [if_neg c, if_neg c]
    refine ex_go 80 rfl ?_
    refine ex_zeqF rfl (c) ?_
    refine ex_go 80 rfl ?_
    exact ex_iret rfl (cq_s hT hL)
theorem k_kin (hC : CO h x) (hT : TA h 1 n f) (hL : TL h) (g : GD n f) {m k : Int32} (b : Bool) (hd : 2 ≤ d) : ev_X scr d cd_X5_kin 0 [.ref 0, .int m, .int k, .int (nI (tb_b b)), .float 0] [] h (CQ h n (s_kin n f m k b) (.int (a_kin n f m k))) := by
  have hn := g.1
  have hw := g.w
  unfold a_kin s_kin
  refine ex_go 80 rfl ?_
  refine ex_cv rfl rfl rfl rfl hC rfl (d' := 1) (by omega) (c_isPair hC hT hn (Nat.le_refl _)) ?_
  cases hp : prm n m k
  · refine ex_zneF rfl (by decide) ?_
    refine ex_go 80 rfl ?_
    exact ex_iret rfl (cq_s hT hL)
  · obtain ⟨i, j, hi, hj, hij, rfl, rfl, ei, ej⟩ := prm_of hn hp
    have hk := g.2.2.2.2.2.1 i (by omega)
    rw [ei, ej, if_pos rfl, if_pos rfl]
    refine ex_zneT rfl (by decide) ?_
    refine ex_go 80 rfl ?_
    refine ex_getf rfl hC rfl rfl ?_
    refine ex_getf rfl hT.1 rfl rfl ?_
    refine ex_go 80 rfl ?_
    refine ex_ia _ rfl hT.2.2.2.2.2.1 rfl (by first | exact trivial | assumption | (show _ < _; omega)) (by omega) (by omega) rfl ?_
    refine ex_go 80 rfl ?_
    refine ex_cs rfl rfl rfl (d' := 0) (by omega) (c_bitOf (by omega) (by omega)) ?_
    refine ex_go 80 rfl ?_
    refine ex_getf rfl hC rfl rfl ?_
    refine ex_go 80 rfl ?_
    refine ex_cvx rfl rfl rfl rfl hT.1 rfl (d' := 1) (by omega) (c_setKin hT (by omega) (by omega) hij b (Nat.le_refl _)) ?_
    rintro v1 h1 ⟨rfl, hT1, hF1⟩
    refine ex_go 80 rfl ?_
    exact ex_iret rfl (cq_t hL hT1 hF1)
theorem k_odd (hC : CO h x) (hT : TA h 1 n f) (hL : TL h) (g : GD n f) {m v : Int32} (hd : 1 ≤ d) : ev_X scr d cd_X5_odd 0 [.ref 0, .int m, .int v, .float 0] [] h (CQ h n (s_odd n f m v) (.int (a_odd n f m v))) := by
  have hn := g.1
  unfold a_odd s_odd
  refine ex_go 80 rfl ?_
  refine ex_getf rfl hC rfl rfl ?_
  refine ex_go 80 rfl ?_
  refine ex_cv rfl rfl rfl rfl hT.1 rfl (d' := 0) (by omega) (c_hasMan hT hn) ?_
  cases hm : isM n m
  · refine ex_zeqT rfl (by decide) ?_
    refine ex_go 80 rfl ?_
    exact ex_iret rfl (cq_s hT hL)
  · obtain ⟨i, hi, rfl⟩ := isM_of hm (by omega)
    have gi := (g.2.1 i hi).1
    refine ex_zeqF rfl (by decide) ?_
    refine ex_go 80 rfl ?_
    refine ex_cs rfl rfl rfl (d' := 0) (by omega) (c_isWithin (k := 9) (by decide)) ?_
    show ev_X scr d cd_X5_odd _ _ [.int (nI (tb_b (isM 10 v)))] _ _
    cases hv : isM 10 v
    · refine ex_zneF rfl (by decide) ?_
      refine ex_go 80 rfl ?_
      exact ex_iret rfl (cq_s hT hL)
    · obtain ⟨j, hj, rfl⟩ := isM_of hv (by omega)
      rw [ix_nI (by omega), ix_nI (by omega), Bool.true_and, if_pos rfl, if_pos rfl]
      refine ex_zneT rfl (by decide) ?_
      refine ex_go 80 rfl ?_
      refine ex_getf rfl hC rfl rfl ?_
      refine ex_getf rfl hT.1 rfl rfl ?_
      refine ex_go 80 rfl ?_
      refine ex_ia _ rfl hT.2.1 rfl (by first | exact trivial | assumption | (show _ < _; omega)) (by omega) (by omega) rfl ?_
      refine ex_go 80 rfl ?_
      refine ex_ine rfl (fun hc => ?_) (fun hc => ?_)
      · have h2 : ¬ f (5 * i) = 2 := fun q => hc (by rw [q]; rfl)
        rw [if_neg h2, if_neg h2]
        refine ex_go 80 rfl ?_
        refine ex_getf rfl hC rfl rfl ?_
        refine ex_getf rfl hT.1 rfl rfl ?_
        refine ex_go 80 rfl ?_
        refine ex_ia _ rfl hT.2.2.1 rfl (by first | exact trivial | assumption | (show _ < _; omega)) (by omega) (by omega) rfl ?_
        refine ex_go 80 rfl ?_
        refine ex_getf rfl hC rfl rfl ?_
        refine ex_getf rfl hT.1 rfl rfl ?_
        refine ex_go 80 rfl ?_
        refine ex_is _ rfl hT.2.2.1 rfl (by omega) (by omega) (fun h1 hA1 hB1 => ?_)
        have hT1 := hT.u_odds hA1 hB1 (by omega) rfl
        refine ex_go 80 rfl ?_
        exact ex_iret rfl (cq_t hL hT1 (hB1.fr (by decide) (by decide)))
      · have h2 : f (5 * i) = 2 := (nI_eq (b := 2) (by omega) (by decide)).mp hc
        rw [if_pos h2, if_pos h2]
        refine ex_go 80 rfl ?_
        exact ex_iret rfl (cq_s hT hL)
theorem k_law (hC : CO h x) (hT : TA h 1 n f) (hL : TL h) (g : GD n f) {w v : Int32} (hd : 1 ≤ d) : ev_X scr d cd_X5_law 0 [.ref 0, .int w, .int v, .float 0] [] h (CQ h n (s_law f w v) (.int (a_law f w v))) := by
  have hn := g.1
  unfold a_law s_law
  have two : ¬ (decide (w = 0) && isM 100 v) = true → ev_X scr d cd_X5_law 16 [.ref 0, .int w, .int v, .float 0] [] h (CQ h n (if (decide (w = 1) && isM 10 v) = true then up f 42 (ix v) else f) (.int (if (decide (w = 1) && isM 10 v) = true then nI (f 42) else -1))) := by
    intro _
    refine ex_go 80 rfl ?_
    refine ex_ine rfl (fun hc => ?_) (fun hc => ?_)
    · rw [decide_eq_false hc]
      refine ex_go 80 rfl ?_
      exact ex_iret rfl (cq_s hT hL)
    · rw [decide_eq_true hc]
      refine ex_go 80 rfl ?_
      refine ex_cs rfl rfl rfl (d' := 0) (by omega) (c_isWithin (k := 9) (by decide)) ?_
      show ev_X scr d cd_X5_law _ _ [.int (nI (tb_b (isM 10 v)))] _ _
      cases hv : isM 10 v
      · refine ex_zeqT rfl (by decide) ?_
        refine ex_go 80 rfl ?_
        exact ex_iret rfl (cq_s hT hL)
      · obtain ⟨j, hj, rfl⟩ := isM_of hv (by omega)
        rw [ix_nI (by omega)]
        refine ex_zeqF rfl (by decide) ?_
        refine ex_go 80 rfl ?_
        refine ex_getf rfl hC rfl rfl ?_
        refine ex_getf rfl hT.1 rfl rfl ?_
        refine ex_go 80 rfl ?_
        refine ex_getf rfl hC rfl rfl ?_
        refine ex_go 80 rfl ?_
        refine ex_pf rfl hT.1 rfl rfl (fun h1 hO1 hB1 => ?_)
        have hT1 := hT.f_42 (v := j) hO1 hB1 rfl
        refine ex_go 80 rfl ?_
        exact ex_iret rfl (cq_t hL hT1 (hB1.fr (by decide) (by decide)))
  refine ex_go 80 rfl ?_
  refine ex_zne rfl (fun hc => ?_) (fun hc => ?_)
  · have e : ¬ (decide (w = 0) && isM 100 v) = true := by simp [hc]
    rw [if_neg e, if_neg e]
    exact two e
  · rw [decide_eq_true hc]
    refine ex_go 80 rfl ?_
    refine ex_cs rfl rfl rfl (d' := 0) (by omega) (c_isWithin (k := 99) (by decide)) ?_
    show ev_X scr d cd_X5_law _ _ [.int (nI (tb_b (isM 100 v)))] _ _
    cases hv : isM 100 v
    · have e : ¬ (decide (w = 0) && isM 100 v) = true := by simp [hv]
      refine ex_zeqT rfl (by decide) ?_
      exact two e
    · obtain ⟨j, hj, rfl⟩ := isM_of hv (by omega)
      rw [ix_nI (by omega)]
      refine ex_zeqF rfl (by decide) ?_
      refine ex_go 80 rfl ?_
      refine ex_getf rfl hC rfl rfl ?_
      refine ex_getf rfl hT.1 rfl rfl ?_
      refine ex_go 80 rfl ?_
      refine ex_getf rfl hC rfl rfl ?_
      refine ex_go 80 rfl ?_
      refine ex_pf rfl hT.1 rfl rfl (fun h1 hO1 hB1 => ?_)
      have hT1 := hT.f_41 (v := j) hO1 hB1 rfl
      refine ex_go 80 rfl ?_
      exact ex_iret rfl (cq_t hL hT1 (hB1.fr (by decide) (by decide)))
theorem k_goods (hC : CO h x) (hT : TA h 1 n f) (hL : TL h) (g : GD n f) {m v : Int32} (hd : 1 ≤ d) : ev_X scr d cd_X5_goods 0 [.ref 0, .int m, .int v, .float 0] [] h (CQ h n (s_goods n f m v) (.int (a_goods n f m v))) := by
  have hn := g.1
  unfold a_goods s_goods
  refine ex_go 80 rfl ?_
  refine ex_getf rfl hC rfl rfl ?_
  refine ex_go 80 rfl ?_
  refine ex_cv rfl rfl rfl rfl hT.1 rfl (d' := 0) (by omega) (c_hasMan hT hn) ?_
  cases hm : isM n m
  · refine ex_zeqT rfl (by decide) ?_
    refine ex_go 80 rfl ?_
    exact ex_iret rfl (cq_s hT hL)
  · obtain ⟨i, hi, rfl⟩ := isM_of hm (by omega)
    refine ex_zeqF rfl (by decide) ?_
    refine ex_go 80 rfl ?_
    refine ex_cs rfl rfl rfl (d' := 0) (by omega) (c_isWithin (k := 99) (by decide)) ?_
    show ev_X scr d cd_X5_goods _ _ [.int (nI (tb_b (isM 100 v)))] _ _
    cases hv : isM 100 v
    · refine ex_zneF rfl (by decide) ?_
      refine ex_go 80 rfl ?_
      exact ex_iret rfl (cq_s hT hL)
    · obtain ⟨j, hj, rfl⟩ := isM_of hv (by omega)
      rw [ix_nI (by omega), ix_nI (by omega), Bool.true_and, if_pos rfl, if_pos rfl]
      refine ex_zneT rfl (by decide) ?_
      refine ex_go 80 rfl ?_
      refine ex_getf rfl hC rfl rfl ?_
      refine ex_getf rfl hT.1 rfl rfl ?_
      refine ex_go 80 rfl ?_
      refine ex_ia _ rfl hT.2.2.2.1 rfl (by first | exact trivial | assumption | (show _ < _; omega)) (by omega) (by omega) rfl ?_
      refine ex_go 80 rfl ?_
      refine ex_getf rfl hC rfl rfl ?_
      refine ex_getf rfl hT.1 rfl rfl ?_
      refine ex_go 80 rfl ?_
      refine ex_is _ rfl hT.2.2.2.1 rfl (by omega) (by omega) (fun h1 hA1 hB1 => ?_)
      have hT1 := hT.u_stock hA1 hB1 (by omega) rfl
      refine ex_go 80 rfl ?_
      exact ex_iret rfl (cq_t hL hT1 (hB1.fr (by decide) (by decide)))
end CALLS
end
section
/-! The same calls of the model. -/
theorem seF_up {n : Nat} {f : Nat → Nat} (g : GD n f) {i : Nat} (hi : i < n) (t : Nat) : seF f i t = up (up f (5 * i) (if f (5 * i + 3) = 4 then 0 else f (5 * i))) (5 * i + 3) t := by
  obtain ⟨g1, g2, g3, g4, g5, g6⟩ := g.2.1 i hi
  unfold seF
  by_cases c : f (5 * i) = 3
  · rw [if_pos c, if_pos (g5.mp c), up_comm (by omega)]
  · rw [if_neg c, if_neg (fun q => c (g5.mpr q)), up_self]
abbrev MS (h : ev_H) (f : Nat → Nat) : Prop := IA h 61 4 (fun _ => True) (fun t => nI (f (60 + t)))
section RCALLS
variable {scr : List Int32} {d : Nat} {h : ev_H} {n : Nat} {f : Nat → Nat} {q : Nat → Int32} {im : Nat → Int32}
theorem r_rule (hM : MO h n q) (hS : ST h f im) (hR : RS h) (g : GD n f) {w : Int32} (hd : 1 ≤ d) : ev_X scr d cd_X6_rule 0 [.ref 57, .int w, .float 0, .float 0] [] h (RQ h f im (.int (a_rule n f w))) := by
  have hn := g.1
  refine ex_go 80 rfl ?_
  refine ev_loop n (fun i => ev_X scr d cd_X6_rule 4 [.ref 57, .int w, .int (nI (bs (fun m => decide (f (5 * m + 3) = 4)) i)), .int (nI i)] [] h _) (fun i hi K => ?_) ?_
  · have g4 := (g.2.1 i hi).2.2.2.1
    refine ex_nop rfl ?_
    refine ex_go 80 rfl ?_
    refine ex_getf rfl hM rfl rfl ?_
    refine ex_igeF rfl (nI_ge hi (by first | omega | decide)) ?_
    refine ex_go 80 rfl ?_
    refine ex_getf rfl hM rfl rfl ?_
    refine ex_go 80 rfl ?_
    try dsimp only
    try simp only [nI_inc, nI_1, nI_add, nI_mul2, tb_and, tb_or, tb_andn, nI_x5, nI_x2, nI_p0, nI_p2, nI_p3, nI_p4, nI_q45]
    refine ex_ia _ rfl hS rfl (by first | exact trivial | assumption | (show _ < _; omega)) (by omega) (by omega) rfl ?_
    simp (disch := omega) only [rs_lt, rv_0, rv_1, rv_2, rv_3, rv_4, rv_40, rv_41, rv_42, rv_43, rv_44]
    refine ex_go 80 rfl ?_
    refine ex_ineM 1 2 23 (v := nI (tb_b (decide (f (5 * i + 3) = 4)))) rfl rfl rfl (if10 (tv_m4 g4)) ?_
    refine ex_cs rfl rfl rfl (d' := 0) (by omega) (c_flag) ?_
    refine ex_go 80 rfl ?_
    dsimp only
    rw [nI_inc, bs_fl (fun m => decide (f (5 * m + 3) = 4)) (by omega)]
    exact K
  · have e : bs (fun m => decide (f (5 * m + 3) = 4)) n = bs (fun m => decide (f (5 * m) = 3)) n := bs_cong (fun i hi => decide_eq_decide.mpr (g.2.1 i hi).2.2.2.2.1.symm)
    rw [e]
    unfold a_rule
    refine ex_nop rfl ?_
    refine ex_go 80 rfl ?_
    refine ex_getf rfl hM rfl rfl ?_
    refine ex_igeT rfl (nI_le (Nat.le_refl _) (by first | omega | decide)) ?_
    cases hw : isM 6 w
    · refine ex_go 80 rfl ?_
      refine ex_tsw (t := 57) rfl (tsw_d (k := 5) hw rfl rfl) ?_
      refine ex_go 80 rfl ?_
      exact ex_iret rfl (rq_s hS hR)
    · obtain ⟨j, hj, rfl⟩ := isM_of hw (by decide)
      rw [ix_nI (by omega), if_pos rfl]
      rcases (by omega : j = 0 ∨ j = 1 ∨ j = 2 ∨ j = 3 ∨ j = 4 ∨ j = 5) with rfl | rfl | rfl | rfl | rfl | rfl
      · refine ex_go 80 rfl ?_
        refine ex_tsw (t := 32) rfl (by decide) ?_
        refine ex_go 80 rfl ?_
        refine ex_getf rfl hM rfl rfl ?_
        exact ex_iret rfl (rq_s hS hR)
      · refine ex_go 80 rfl ?_
        refine ex_tsw (t := 35) rfl (by decide) ?_
        refine ex_go 80 rfl ?_
        refine ex_getf rfl hM rfl rfl ?_
        refine ex_go 80 rfl ?_
        refine ex_ia 41 rfl hS rfl (by first | exact trivial | assumption | (show _ < _; omega)) (by omega) (by omega) rfl ?_
        simp (disch := omega) only [rs_lt, rv_0, rv_1, rv_2, rv_3, rv_4, rv_40, rv_41, rv_42, rv_43, rv_44]
        exact ex_iret rfl (rq_s hS hR)
      · refine ex_go 80 rfl ?_
        refine ex_tsw (t := 40) rfl (by decide) ?_
        refine ex_go 80 rfl ?_
        refine ex_getf rfl hM rfl rfl ?_
        refine ex_go 80 rfl ?_
        refine ex_ia 42 rfl hS rfl (by first | exact trivial | assumption | (show _ < _; omega)) (by omega) (by omega) rfl ?_
        simp (disch := omega) only [rs_lt, rv_0, rv_1, rv_2, rv_3, rv_4, rv_40, rv_41, rv_42, rv_43, rv_44]
        exact ex_iret rfl (rq_s hS hR)
      · refine ex_go 80 rfl ?_
        refine ex_tsw (t := 45) rfl (by decide) ?_
        refine ex_go 80 rfl ?_
        refine ex_getf rfl hM rfl rfl ?_
        refine ex_go 80 rfl ?_
        refine ex_ia 43 rfl hS rfl (by first | exact trivial | assumption | (show _ < _; omega)) (by omega) (by omega) rfl ?_
        simp (disch := omega) only [rs_lt, rv_0, rv_1, rv_2, rv_3, rv_4, rv_40, rv_41, rv_42, rv_43, rv_44]
        exact ex_iret rfl (rq_s hS hR)
      · refine ex_go 80 rfl ?_
        refine ex_tsw (t := 50) rfl (by decide) ?_
        refine ex_go 80 rfl ?_
        refine ex_getf rfl hM rfl rfl ?_
        refine ex_go 80 rfl ?_
        refine ex_ia 40 rfl hS rfl (by first | exact trivial | assumption | (show _ < _; omega)) (by omega) (by omega) rfl ?_
        simp (disch := omega) only [rs_lt, rv_0, rv_1, rv_2, rv_3, rv_4, rv_40, rv_41, rv_42, rv_43, rv_44]
        exact ex_iret rfl (rq_s hS hR)
      · refine ex_go 80 rfl ?_
        refine ex_tsw (t := 55) rfl (by decide) ?_
        refine ex_go 80 rfl ?_
        exact ex_iret rfl (rq_s hS hR)
theorem r_man (hM : MO h n q) (hS : ST h f im) (hR : RS h) (g : GD n f) {m w : Int32} (hd : 2 ≤ d) : ev_X scr d cd_X6_man 0 [.ref 57, .int m, .int w] [] h (RQ h f im (.int (a_man n f m w))) := by
  have hn := g.1
  unfold a_man
  refine ex_go 80 rfl ?_
  refine ex_cv rfl rfl rfl rfl hM rfl (d' := 1) (by omega) (c_isMan hM hn (Nat.le_refl _)) ?_
  cases hm : isM n m
  · refine ex_zeqT rfl (by decide) ?_
    refine ex_go 80 rfl ?_
    exact ex_iret rfl (rq_s hS hR)
  · obtain ⟨i, hi, rfl⟩ := isM_of hm (by omega)
    refine ex_zeqF rfl (by decide) ?_
    refine ex_go 80 rfl ?_
    try dsimp only
    try simp only [nI_inc, nI_1, nI_add, nI_mul2, tb_and, tb_or, tb_andn, nI_x5, nI_x2, nI_p0, nI_p2, nI_p3, nI_p4, nI_q45]
    refine ex_cs rfl rfl rfl (d' := 0) (by omega) (c_in0 6 (by decide)) ?_
    cases hw : isM 6 w
    · refine ex_zneF rfl (by decide) ?_
      refine ex_go 80 rfl ?_
      exact ex_iret rfl (rq_s hS hR)
    · obtain ⟨j, hj, rfl⟩ := isM_of hw (by decide)
      rw [ix_nI (by omega), ix_nI (by omega), Bool.true_and, if_pos rfl]
      refine ex_zneT rfl (by decide) ?_
      refine ex_go 80 rfl ?_
      refine ex_cvx rfl rfl rfl rfl hM rfl (d' := 0) (by omega) (c_starts hM hS hR.1) ?_
      rintro v1 h1 ⟨rfl, hA1, hB1⟩
      have hM1 := hB1.mo hM (by decide)
      refine ex_go 80 rfl ?_
      refine ex_ige rfl (fun hc => ?_) (fun hc => ?_)
      · have h5 : ¬ j < 5 := Nat.not_lt.mpr ((nI_leI (a := 5) (by decide) (by omega)).mp hc)
        rw [if_neg h5]
        refine ex_go 80 rfl ?_
        refine ex_cv rfl rfl rfl rfl hM1 rfl (d' := 1) (by omega) (c_oddsOf hM1 hA1 g hi (Nat.le_refl _)) ?_
        exact ex_iret rfl (rq_9 hS hR hB1 hA1)
      · have h5 : j < 5 := Nat.lt_of_not_le (fun q => hc ((nI_leI (a := 5) (by decide) (by omega)).mpr q))
        rw [if_pos h5]
        refine ex_go 80 rfl ?_
        refine ex_cv rfl rfl rfl rfl hM1 rfl (d' := 0) (by omega) (c_ofw hM1 hA1 (by omega) h5 rfl) ?_
        refine ex_go 80 rfl ?_
        exact ex_iret rfl (rq_9 hS hR hB1 hA1)
theorem r_ten (hM : MO h n q) (hS : ST h f im) (hR : RS h) (hMo : MS h f) (g : GD n f) {t w : Int32} (hd : 3 ≤ d) : ev_X scr d cd_X6_ten 0 [.ref 57, .int t, .int w] [] h (RQ h f im (.int (a_ten n f t w))) := by
  have hn := g.1
  unfold a_ten
  refine ex_go 80 rfl ?_
  refine ex_cs rfl rfl rfl (d' := 1) (by omega) (c_isTenR (Nat.le_refl _)) ?_
  cases ht : isM 4 t
  · refine ex_zneF rfl (by decide) ?_
    refine ex_go 80 rfl ?_
    exact ex_iret rfl (rq_s hS hR)
  · obtain ⟨i, hi, rfl⟩ := isM_of ht (by omega)
    refine ex_zneT rfl (by decide) ?_
    refine ex_go 80 rfl ?_
    refine ex_cvx rfl rfl rfl rfl hM rfl (d' := 0) (by omega) (c_starts hM hS hR.1) ?_
    rintro v1 h1 ⟨rfl, hA1, hB1⟩
    have hM1 := hB1.mo hM (by decide)
    have hMo1 := hMo.sb hB1 (by decide)
    cases hw : isM 4 w
    · refine ex_go 80 rfl ?_
      refine ex_tsw (t := 28) rfl (tsw_d (k := 3) hw rfl rfl) ?_
      refine ex_go 80 rfl ?_
      exact ex_iret rfl (rq_9 hS hR hB1 hA1)
    · obtain ⟨j, hj, rfl⟩ := isM_of hw (by decide)
      rw [ix_nI (by omega), ix_nI (by omega), Bool.true_and, if_pos rfl]
      rcases (by omega : j = 0 ∨ j = 1 ∨ j = 2 ∨ j = 3) with rfl | rfl | rfl | rfl
      · refine ex_go 80 rfl ?_
        refine ex_tsw (t := 9) rfl (by decide) ?_
        refine ex_go 80 rfl ?_
        refine ex_cv rfl rfl rfl rfl hM1 rfl (d' := 1) (by omega) (c_menOf hM1 hA1 hn hi (Nat.le_refl _)) ?_
        exact ex_iret rfl (rq_9 hS hR hB1 hA1)
      · refine ex_go 80 rfl ?_
        refine ex_tsw (t := 13) rfl (by decide) ?_
        refine ex_go 80 rfl ?_
        refine ex_getf rfl hM1 rfl rfl ?_
        refine ex_go 80 rfl ?_
        refine ex_ia _ rfl hMo1 rfl (by first | exact trivial | assumption | (show _ < _; omega)) (by omega) (by omega) rfl ?_
        exact ex_iret rfl (rq_9 hS hR hB1 hA1)
      · refine ex_go 80 rfl ?_
        refine ex_tsw (t := 18) rfl (by decide) ?_
        refine ex_go 80 rfl ?_
        refine ex_cv rfl rfl rfl rfl hM1 rfl (d' := 2) (by omega) (c_harmOf hM1 hA1 g hi (Nat.le_refl _)) ?_
        exact ex_iret rfl (rq_9 hS hR hB1 hA1)
      · refine ex_go 80 rfl ?_
        refine ex_tsw (t := 22) rfl (by decide) ?_
        refine ex_go 80 rfl ?_
        refine ex_cv rfl rfl rfl rfl hM1 rfl (d' := 1) (by omega) (c_menOf hM1 hA1 hn hi (Nat.le_refl _)) ?_
        refine ex_cv rfl rfl rfl rfl hM1 rfl (d' := 1) (by omega) (c_allGoods hM1 hA1 hn (Nat.lt_trans (bs_256 _ hn) (by decide)) (Nat.le_refl _)) ?_
        exact ex_iret rfl (rq_9 hS hR hB1 hA1)
theorem c_moveR (hM : MO h n q) (hS : ST h f im) (hR : RS h) (hMo : MS h f) (g : GD n f) {m t : Int32} (hd : 3 ≤ d) : ev_X scr d cd_X6_move 0 [.ref 57, .int m, .int t, .float 0] [] h (RQ h (s_move n f m t) im (.int (a_move n f m t))) := by
  have hn := g.1
  unfold a_move s_move
  refine ex_go 80 rfl ?_
  refine ex_cv rfl rfl rfl rfl hM rfl (d' := 1) (by omega) (c_isMan hM hn (Nat.le_refl _)) ?_
  cases hm : isM n m
  · refine ex_zeqT rfl (by decide) ?_
    refine ex_go 80 rfl ?_
    exact ex_iret rfl (rq_s hS hR)
  · obtain ⟨i, hi, rfl⟩ := isM_of hm (by omega)
    refine ex_zeqF rfl (by decide) ?_
    refine ex_go 80 rfl ?_
    refine ex_cs rfl rfl rfl (d' := 1) (by omega) (c_isTenR (Nat.le_refl _)) ?_
    cases ht : isM 4 t
    · refine ex_zneF rfl (by decide) ?_
      refine ex_go 80 rfl ?_
      exact ex_iret rfl (rq_s hS hR)
    · obtain ⟨j, hj, rfl⟩ := isM_of ht (by omega)
      obtain ⟨g1, g2, g3, g4, g5, g6⟩ := g.2.1 i hi
      rw [ix_nI (by omega), ix_nI (by omega), Bool.true_and, if_pos rfl, if_pos rfl]
      have tail : ∀ h1, MO h1 n q → ST h1 f im → RS h1 → RY h h1 → ev_X scr d cd_X6_move 27 [.ref 57, .int (nI i), .int (nI j), .int (tv (f (5 * i + 3)))] [] h1 (RQ h (seF f i j) im (.int (tv (f (5 * i + 3))))) := by
        intro h1 hM1 hS1 hR1 hY1
        rw [seF_up g hi]
        refine ex_go 80 rfl ?_
        refine ex_getf rfl hM1 rfl rfl ?_
        refine ex_go 80 rfl ?_
        try dsimp only
        try simp only [nI_inc, nI_1, nI_add, nI_mul2, tb_and, tb_or, tb_andn, nI_x5, nI_x2, nI_p0, nI_p2, nI_p3, nI_p4, nI_q45]
        refine ex_ine rfl (fun hc => ?_) (fun hc => ?_)
        · rw [tv_m4 g4] at hc
          rw [if_neg hc]
          refine ex_go 80 rfl ?_
          refine ex_getf rfl hM1 rfl rfl ?_
          refine ex_go 80 rfl ?_
          try dsimp only
          try simp only [nI_inc, nI_1, nI_add, nI_mul2, tb_and, tb_or, tb_andn, nI_x5, nI_x2, nI_p0, nI_p2, nI_p3, nI_p4, nI_q45]
          refine ex_ia _ rfl hS1 rfl (by first | exact trivial | assumption | (show _ < _; omega)) (by omega) (by omega) rfl ?_
          simp (disch := omega) only [rs_lt, rv_0, rv_1, rv_2, rv_3, rv_4, rv_40, rv_41, rv_42, rv_43, rv_44]
          refine ex_is _ rfl hS1 rfl (by omega) (by omega) (fun h2 hA2 hB2 => ?_)
          have hS2 := ST.st (v := f (5 * i)) hA2 (fun _ => Or.inl trivial) (by omega) (rvx_n (by omega)).symm
          have hM2 := hB2.mo hM1 (by decide)
          refine ex_go 80 rfl ?_
          try dsimp only
          try simp only [nI_inc, nI_1, nI_add, nI_mul2, tb_and, tb_or, tb_andn, nI_x5, nI_x2, nI_p0, nI_p2, nI_p3, nI_p4, nI_q45]
          refine ex_cvx rfl rfl rfl rfl hM2 rfl (d' := 0) (by omega) (c_becomes (v := j) hM2 hS2 (by omega) (by rw [rvx_t (by omega), tv_lt hj])) ?_
          rintro v3 h3 ⟨rfl, hS3, hB3⟩
          rw [rv_3 _ (by omega), up_ne (by omega)]
          exact ex_iret rfl (⟨rfl, hS3, hR1.b8 (hB2.tr hB3), hY1.tr (hB2.tr hB3).ry8⟩)
        · rw [tv_m4 g4] at hc
          rw [if_pos hc]
          refine ex_go 80 rfl ?_
          refine ex_is _ rfl hS1 rfl (by omega) (by omega) (fun h2 hA2 hB2 => ?_)
          have hS2 := ST.st (v := 0) hA2 (fun _ => Or.inl trivial) (by omega) (by rw [rvx_n (by omega)]; rfl)
          have hM2 := hB2.mo hM1 (by decide)
          refine ex_go 80 rfl ?_
          try dsimp only
          try simp only [nI_inc, nI_1, nI_add, nI_mul2, tb_and, tb_or, tb_andn, nI_x5, nI_x2, nI_p0, nI_p2, nI_p3, nI_p4, nI_q45]
          refine ex_cvx rfl rfl rfl rfl hM2 rfl (d' := 0) (by omega) (c_becomes (v := j) hM2 hS2 (by omega) (by rw [rvx_t (by omega), tv_lt hj])) ?_
          rintro v3 h3 ⟨rfl, hS3, hB3⟩
          rw [rv_3 _ (by omega), up_ne (by omega)]
          exact ex_iret rfl (⟨rfl, hS3, hR1.b8 (hB2.tr hB3), hY1.tr (hB2.tr hB3).ry8⟩)
      refine ex_zneT rfl (by decide) ?_
      refine ex_go 80 rfl ?_
      refine ex_getf rfl hM rfl rfl ?_
      refine ex_go 80 rfl ?_
      try dsimp only
      try simp only [nI_inc, nI_1, nI_add, nI_mul2, tb_and, tb_or, tb_andn, nI_x5, nI_x2, nI_p0, nI_p2, nI_p3, nI_p4, nI_q45]
      refine ex_ia _ rfl hS rfl (by first | exact trivial | assumption | (show _ < _; omega)) (by omega) (by omega) rfl ?_
      simp (disch := omega) only [rs_lt, rv_0, rv_1, rv_2, rv_3, rv_4, rv_40, rv_41, rv_42, rv_43, rv_44]
      refine ex_go 80 rfl ?_
      refine ex_ieq rfl (fun hc => ?_) (fun hc => ?_)
      · rw [tv_eq hj] at hc
        have e : wns n f i j = 0 := if_neg (fun c => c.1 hc)
        rw [if_pos e, if_pos e]
        exact tail h hM hS hR RY.rf
      · rw [tv_eq hj] at hc
        refine ex_go 80 rfl ?_
        refine ex_cvx rfl rfl rfl rfl hM rfl (d' := 2) (by omega) (c_isFull hM hS hR.1 hMo g hj (Nat.le_refl _)) ?_
        rintro v1 h1 ⟨rfl, hA1, hB1⟩
        by_cases c : f (60 + j) ≤ sz n f j
        · have e : wns n f i j = -3 := if_pos ⟨hc, c⟩
          rw [decide_eq_true c, e, if_neg (by decide), if_neg (by decide)]
          refine ex_zeqF rfl (by decide) ?_
          refine ex_go 80 rfl ?_
          exact ex_iret rfl (rq_9 hS hR hB1 hA1)
        · have e : wns n f i j = 0 := if_neg (fun k => c k.2)
          rw [decide_eq_false c, if_pos e, if_pos e]
          refine ex_zeqT rfl (by decide) ?_
          exact tail h1 (hB1.mo hM (by decide)) (hS.b9 hB1) (hR.b9 hB1 hA1) hB1.ry9
theorem r_leave (hM : MO h n q) (hS : ST h f im) (hR : RS h) (g : GD n f) {m : Int32} (hd : 2 ≤ d) : ev_X scr d cd_X6_leave 0 [.ref 57, .int m] [] h (RQ h (s_leave n f m) im (.int (a_leave n f m))) := by
  have hn := g.1
  unfold a_leave s_leave
  refine ex_go 80 rfl ?_
  refine ex_cv rfl rfl rfl rfl hM rfl (d' := 1) (by omega) (c_isMan hM hn (Nat.le_refl _)) ?_
  cases hm : isM n m
  · have er : rit n f m = -1 := by unfold rit; rw [hm]; rfl
    rw [er, if_neg (by decide), if_neg (by decide)]
    refine ex_zneF rfl (by decide) ?_
    refine ex_go 80 rfl ?_
    exact ex_iret rfl (rq_s hS hR)
  · obtain ⟨i, hi, rfl⟩ := isM_of hm (by omega)
    obtain ⟨g1, g2, g3, g4, g5, g6⟩ := g.2.1 i hi
    have er : rit n f (nI i) = if f (5 * i + 3) < 4 then 0 else -2 := by unfold rit; rw [hm, ix_nI (by omega)]; rfl
    rw [er, ix_nI (by omega)]
    refine ex_zneT rfl (by decide) ?_
    refine ex_go 80 rfl ?_
    refine ex_cv rfl rfl rfl rfl hM rfl (d' := 0) (by omega) (c_isWanderer hM hS (by omega) g4) ?_
    by_cases c : f (5 * i + 3) = 4
    · rw [decide_eq_true c, if_neg (show ¬ f (5 * i + 3) < 4 by omega), if_neg (by decide), if_neg (by decide)]
      refine ex_zeqF rfl (by decide) ?_
      refine ex_go 80 rfl ?_
      exact ex_iret rfl (rq_s hS hR)
    · rw [decide_eq_false c, if_pos (show f (5 * i + 3) < 4 by omega), if_pos rfl, if_pos rfl]
      refine ex_zeqT rfl (by decide) ?_
      refine ex_go 80 rfl ?_
      refine ex_getf rfl hM rfl rfl ?_
      refine ex_go 80 rfl ?_
      try dsimp only
      try simp only [nI_inc, nI_1, nI_add, nI_mul2, tb_and, tb_or, tb_andn, nI_x5, nI_x2, nI_p0, nI_p2, nI_p3, nI_p4, nI_q45]
      refine ex_is _ rfl hS rfl (by omega) (by omega) (fun h1 hA1 hB1 => ?_)
      have hS1 := ST.st (v := 3) hA1 (fun _ => Or.inl trivial) (by omega) (by rw [rvx_n (by omega)]; rfl)
      have hM1 := hB1.mo hM (by decide)
      have e40 : up f (5 * i) 3 40 = f 40 := up_ne (by omega)
      refine ex_go 80 rfl ?_
      refine ex_getf rfl hM1 rfl rfl ?_
      refine ex_go 80 rfl ?_
      refine ex_ia 40 rfl hS1 rfl (by first | exact trivial | assumption | (show _ < _; omega)) (by omega) (by omega) rfl ?_
      simp (disch := omega) only [rs_lt, rv_0, rv_1, rv_2, rv_3, rv_4, rv_40, rv_41, rv_42, rv_43, rv_44]
      refine ex_go 80 rfl ?_
      try dsimp only
      try simp only [nI_inc, nI_1, nI_add, nI_mul2, tb_and, tb_or, tb_andn, nI_x5, nI_x2, nI_p0, nI_p2, nI_p3, nI_p4, nI_q45]
      rw [tb_sh1 i (by omega), tb_andn, e40]
      refine ex_is 40 rfl hS1 rfl (by omega) (by omega) (fun h2 hA2 hB2 => ?_)
      have hS2 := ST.st (v := tb_wo (f 40) (2 ^ i)) hA2 (fun _ => Or.inl trivial) (by omega) (by rw [rvx_n (by omega)])
      have hM2 := hB2.mo hM1 (by decide)
      refine ex_go 80 rfl ?_
      try dsimp only
      try simp only [nI_inc, nI_1, nI_add, nI_mul2, tb_and, tb_or, tb_andn, nI_x5, nI_x2, nI_p0, nI_p2, nI_p3, nI_p4, nI_q45]
      refine ex_cvx rfl rfl rfl rfl hM2 rfl (d' := 0) (by omega) (c_becomes (v := 4) hM2 hS2 (by omega) (by rw [rvx_t (by omega)]; rfl)) ?_
      rintro v3 h3 ⟨rfl, hS3, hB3⟩
      rw [rv_3 _ (by omega), up_ne (by omega), up_ne (by omega)]
      rw [up_comm (k := 40) (by omega), up_comm (k := 5 * i) (by omega)] at hS3
      exact ex_iret rfl (⟨rfl, hS3, hR.b8 ((hB1.tr hB2).tr hB3), ((hB1.tr hB2).tr hB3).ry8⟩)
theorem r_swap (hM : MO h n q) (hS : ST h f im) (hR : RS h) (g : GD n f) {m k : Int32} (hd : 2 ≤ d) : ev_X scr d cd_X6_swap 0 [.ref 57, .int m, .int k, .float 0, .float 0] [] h (RQ h (s_swap n f m k) im (.int (a_swap n f m k))) := by
  have hn := g.1
  unfold a_swap s_swap
  refine ex_go 80 rfl ?_
  refine ex_cv rfl rfl rfl rfl hM rfl (d' := 1) (by omega) (c_isMan hM hn (Nat.le_refl _)) ?_
  cases hm : isM n m
  · have e : prm n m k = false := by unfold prm; rw [hm]; rfl
    rw [e]
    refine ex_zeqT rfl (by decide) ?_
    refine ex_go 80 rfl ?_
    exact ex_iret rfl (rq_s hS hR)
  · refine ex_zeqF rfl (by decide) ?_
    refine ex_go 80 rfl ?_
    refine ex_cv rfl rfl rfl rfl hM rfl (d' := 1) (by omega) (c_isMan hM hn (Nat.le_refl _)) ?_
    cases hk : isM n k
    · have e : prm n m k = false := by unfold prm; rw [hm, hk]; rfl
      rw [e]
      refine ex_zeqT rfl (by decide) ?_
      refine ex_go 80 rfl ?_
      exact ex_iret rfl (rq_s hS hR)
    · refine ex_zeqF rfl (by decide) ?_
      refine ex_go 80 rfl ?_
      refine ex_ine rfl (fun hc => ?_) (fun hc => ?_)
      · have e : prm n m k = true := by unfold prm; rw [hm, hk, decide_eq_true hc]; rfl
        obtain ⟨i, j, hi, hj, hij, rfl, rfl, ei, ej⟩ := prm_of hn e
        rw [e, ei, ej, if_pos rfl, if_pos rfl]
        have gi := (g.2.1 i hi).2.2.2.1
        have gj := (g.2.1 j hj).2.2.2.1
        have no : ¬ (f (5 * i + 3) < 4 ∧ f (5 * j + 3) < 4 ∧ f (5 * i + 3) ≠ f (5 * j + 3)) → ev_X scr d cd_X6_swap 40 [.ref 57, .int (nI i), .int (nI j), .int (tv (f (5 * i + 3))), .int (tv (f (5 * j + 3)))] [] h (RQ h (if msw f i j = true then exF f i j else f) im (.int (if msw f i j = true then tv (f (5 * j + 3)) else -2))) := by
          intro c
          have e2 : msw f i j = false := decide_eq_false c
          rw [e2]
          refine ex_go 80 rfl ?_
          exact ex_iret rfl (rq_s hS hR)
        refine ex_go 80 rfl ?_
        refine ex_getf rfl hM rfl rfl ?_
        refine ex_go 80 rfl ?_
        try dsimp only
        try simp only [nI_inc, nI_1, nI_add, nI_mul2, tb_and, tb_or, tb_andn, nI_x5, nI_x2, nI_p0, nI_p2, nI_p3, nI_p4, nI_q45]
        refine ex_ia _ rfl hS rfl (by first | exact trivial | assumption | (show _ < _; omega)) (by omega) (by omega) rfl ?_
        simp (disch := omega) only [rs_lt, rv_0, rv_1, rv_2, rv_3, rv_4, rv_40, rv_41, rv_42, rv_43, rv_44]
        refine ex_go 80 rfl ?_
        refine ex_getf rfl hM rfl rfl ?_
        refine ex_go 80 rfl ?_
        try dsimp only
        try simp only [nI_inc, nI_1, nI_add, nI_mul2, tb_and, tb_or, tb_andn, nI_x5, nI_x2, nI_p0, nI_p2, nI_p3, nI_p4, nI_q45]
        refine ex_ia _ rfl hS rfl (by first | exact trivial | assumption | (show _ < _; omega)) (by omega) (by omega) rfl ?_
        simp (disch := omega) only [rs_lt, rv_0, rv_1, rv_2, rv_3, rv_4, rv_40, rv_41, rv_42, rv_43, rv_44]
        refine ex_go 80 rfl ?_
        refine ex_ieq rfl (fun h1 => ?_) (fun h1 => ?_)
        · rw [tv_m4 gi] at h1
          exact no (fun c => by omega)
        · rw [tv_m4 gi] at h1
          refine ex_go 80 rfl ?_
          refine ex_ieq rfl (fun h2 => ?_) (fun h2 => ?_)
          · rw [tv_m4 gj] at h2
            exact no (fun c => by omega)
          · rw [tv_m4 gj] at h2
            refine ex_go 80 rfl ?_
            refine ex_ine rfl (fun h3 => ?_) (fun h3 => ?_)
            · rw [tv_inj gi gj] at h3
              have e2 : msw f i j = true := decide_eq_true ⟨by omega, by omega, h3⟩
              rw [e2, if_pos rfl, if_pos rfl]
              refine ex_go 80 rfl ?_
              refine ex_getf rfl hM rfl rfl ?_
              refine ex_go 80 rfl ?_
              try dsimp only
              try simp only [nI_inc, nI_1, nI_add, nI_mul2, tb_and, tb_or, tb_andn, nI_x5, nI_x2, nI_p0, nI_p2, nI_p3, nI_p4, nI_q45]
              refine ex_is _ rfl hS rfl (by omega) (by omega) (fun h4 hA4 hB4 => ?_)
              have hS4 := ST.st (v := f (5 * j + 3)) hA4 (fun _ => Or.inl trivial) (by omega) (by rw [rvx_t (by omega)])
              have hM4 := hB4.mo hM (by decide)
              refine ex_go 80 rfl ?_
              refine ex_getf rfl hM4 rfl rfl ?_
              refine ex_go 80 rfl ?_
              try dsimp only
              try simp only [nI_inc, nI_1, nI_add, nI_mul2, tb_and, tb_or, tb_andn, nI_x5, nI_x2, nI_p0, nI_p2, nI_p3, nI_p4, nI_q45]
              refine ex_is _ rfl hS4 rfl (by omega) (by omega) (fun h5 hA5 hB5 => ?_)
              have hS5 := ST.st (v := f (5 * i + 3)) hA5 (fun _ => Or.inl trivial) (by omega) (by rw [rvx_t (by omega)])
              refine ex_go 80 rfl ?_
              exact ex_iret rfl (⟨rfl, hS5, hR.b8 (hB4.tr hB5), (hB4.tr hB5).ry8⟩)
            · rw [tv_inj gi gj] at h3
              exact no (fun c => c.2.2 h3)
      · have e : prm n m k = false := by unfold prm; rw [hm, hk, decide_eq_false (fun c => c hc)]; rfl
        rw [e]
        refine ex_go 80 rfl ?_
        exact ex_iret rfl (rq_s hS hR)
theorem r_watch (hM : MO h n q) (hS : ST h f im) (hR : RS h) (g : GD n f) {m : Int32} (b : Bool) (hd : 2 ≤ d) : ev_X scr d cd_X6_watch 0 [.ref 57, .int m, .int (nI (tb_b b))] [] h (RQ h (s_watch n f m b) im (.int (a_watch n f m))) := by
  have hn := g.1
  have hw := g.w
  unfold a_watch s_watch
  refine ex_go 80 rfl ?_
  refine ex_cv rfl rfl rfl rfl hM rfl (d' := 1) (by omega) (c_isMan hM hn (Nat.le_refl _)) ?_
  cases hm : isM n m
  · have er : rit n f m = -1 := by unfold rit; rw [hm]; rfl
    rw [er, if_neg (by decide), if_neg (by decide)]
    refine ex_zneF rfl (by decide) ?_
    refine ex_go 80 rfl ?_
    exact ex_iret rfl (rq_s hS hR)
  · obtain ⟨i, hi, rfl⟩ := isM_of hm (by omega)
    obtain ⟨g1, g2, g3, g4, g5, g6⟩ := g.2.1 i hi
    have er : rit n f (nI i) = if f (5 * i + 3) < 4 then 0 else -2 := by unfold rit; rw [hm, ix_nI (by omega)]; rfl
    rw [er, ix_nI (by omega)]
    refine ex_zneT rfl (by decide) ?_
    refine ex_go 80 rfl ?_
    refine ex_cv rfl rfl rfl rfl hM rfl (d' := 0) (by omega) (c_isWanderer hM hS (by omega) g4) ?_
    by_cases c : f (5 * i + 3) = 4
    · rw [decide_eq_true c, if_neg (show ¬ f (5 * i + 3) < 4 by omega), if_neg (by decide), if_neg (by decide)]
      refine ex_zeqF rfl (by decide) ?_
      refine ex_go 80 rfl ?_
      exact ex_iret rfl (rq_s hS hR)
    · rw [decide_eq_false c, if_pos (show f (5 * i + 3) < 4 by omega), if_pos rfl, if_pos rfl]
      refine ex_zeqT rfl (by decide) ?_
      refine ex_go 80 rfl ?_
      refine ex_cvx rfl rfl rfl rfl hM rfl (d' := 0) (by omega) (c_becomesBit (k := 40) hM hS b (by decide) (by decide) (by omega) (by omega)) ?_
      rintro v1 h1 ⟨rfl, hS1, hB1⟩
      exact ex_iret rfl (rq_8 hS1 hR hB1)
theorem r_kin (hM : MO h n q) (hS : ST h f im) (hR : RS h) (g : GD n f) {m k : Int32} (b : Bool) (hd : 2 ≤ d) : ev_X scr d cd_X6_kin 0 [.ref 57, .int m, .int k, .int (nI (tb_b b))] [] h (RQ h (s_kin n f m k b) im (.int (a_kin n f m k))) := by
  have hn := g.1
  unfold a_kin s_kin
  refine ex_go 80 rfl ?_
  refine ex_cv rfl rfl rfl rfl hM rfl (d' := 1) (by omega) (c_isMan hM hn (Nat.le_refl _)) ?_
  cases hm : isM n m
  · have e : prm n m k = false := by unfold prm; rw [hm]; rfl
    rw [e]
    refine ex_zeqT rfl (by decide) ?_
    refine ex_go 80 rfl ?_
    exact ex_iret rfl (rq_s hS hR)
  · refine ex_zeqF rfl (by decide) ?_
    refine ex_go 80 rfl ?_
    refine ex_cv rfl rfl rfl rfl hM rfl (d' := 1) (by omega) (c_isMan hM hn (Nat.le_refl _)) ?_
    cases hk : isM n k
    · have e : prm n m k = false := by unfold prm; rw [hm, hk]; rfl
      rw [e]
      refine ex_zeqT rfl (by decide) ?_
      refine ex_go 80 rfl ?_
      exact ex_iret rfl (rq_s hS hR)
    · refine ex_zeqF rfl (by decide) ?_
      refine ex_go 80 rfl ?_
      refine ex_ine rfl (fun hc => ?_) (fun hc => ?_)
      · have e : prm n m k = true := by unfold prm; rw [hm, hk, decide_eq_true hc]; rfl
        obtain ⟨i, j, hi, hj, hij, rfl, rfl, ei, ej⟩ := prm_of hn e
        rw [e, ei, ej, if_pos rfl, if_pos rfl]
        have gi := g.2.2.2.2.2.1 i (by omega)
        have gj := g.2.2.2.2.2.1 j (by omega)
        refine ex_go 80 rfl ?_
        try dsimp only
        try simp only [nI_inc, nI_1, nI_add, nI_mul2, tb_and, tb_or, tb_andn, nI_x5, nI_x2, nI_p0, nI_p2, nI_p3, nI_p4, nI_q45]
        refine ex_cvx rfl rfl rfl rfl hM rfl (d' := 0) (by omega) (c_becomesBit hM hS b (by omega) (by omega) (by omega) (by omega)) ?_
        rintro v1 h1 ⟨rfl, hS1, hB1⟩
        have hM1 := hB1.mo hM (by decide)
        have e4 : ∀ v, up f (5 * j + 4) v (5 * i + 4) = f (5 * i + 4) := fun v => up_ne (by omega)
        refine ex_go 80 rfl ?_
        try dsimp only
        try simp only [nI_inc, nI_1, nI_add, nI_mul2, tb_and, tb_or, tb_andn, nI_x5, nI_x2, nI_p0, nI_p2, nI_p3, nI_p4, nI_q45]
        refine ex_cvx rfl rfl rfl rfl hM1 rfl (d' := 0) (by omega) (c_becomesBit hM1 hS1 b (by omega) (by omega) (by rw [e4]; omega) (by omega)) ?_
        rintro v2 h2 ⟨rfl, hS2, hB2⟩
        rw [e4] at hS2
        rw [e4, up_comm (by omega)] at *
        exact ex_iret rfl (⟨rfl, hS2, hR.b8 (hB1.tr hB2), (hB1.tr hB2).ry8⟩)
      · have e : prm n m k = false := by unfold prm; rw [hm, hk, decide_eq_false (fun c => c hc)]; rfl
        rw [e]
        refine ex_go 80 rfl ?_
        exact ex_iret rfl (rq_s hS hR)
theorem r_odd (hM : MO h n q) (hS : ST h f im) (hR : RS h) (g : GD n f) {m v : Int32} (hd : 2 ≤ d) : ev_X scr d cd_X6_odd 0 [.ref 57, .int m, .int v] [] h (RQ h (s_odd n f m v) im (.int (a_odd n f m v))) := by
  have hn := g.1
  unfold a_odd s_odd
  refine ex_go 80 rfl ?_
  refine ex_cv rfl rfl rfl rfl hM rfl (d' := 1) (by omega) (c_isMan hM hn (Nat.le_refl _)) ?_
  cases hm : isM n m
  · refine ex_zeqT rfl (by decide) ?_
    refine ex_go 80 rfl ?_
    exact ex_iret rfl (rq_s hS hR)
  · obtain ⟨i, hi, rfl⟩ := isM_of hm (by omega)
    have gi := (g.2.1 i hi).1
    refine ex_zeqF rfl (by decide) ?_
    refine ex_go 80 rfl ?_
    try dsimp only
    try simp only [nI_inc, nI_1, nI_add, nI_mul2, tb_and, tb_or, tb_andn, nI_x5, nI_x2, nI_p0, nI_p2, nI_p3, nI_p4, nI_q45]
    refine ex_cs rfl rfl rfl (d' := 0) (by omega) (c_in0 10 (by decide)) ?_
    cases hv : isM 10 v
    · refine ex_zneF rfl (by decide) ?_
      refine ex_go 80 rfl ?_
      exact ex_iret rfl (rq_s hS hR)
    · obtain ⟨j, hj, rfl⟩ := isM_of hv (by omega)
      rw [ix_nI (by omega), ix_nI (by omega), Bool.true_and, if_pos rfl, if_pos rfl]
      refine ex_zneT rfl (by decide) ?_
      refine ex_go 80 rfl ?_
      refine ex_getf rfl hM rfl rfl ?_
      refine ex_go 80 rfl ?_
      try dsimp only
      try simp only [nI_inc, nI_1, nI_add, nI_mul2, tb_and, tb_or, tb_andn, nI_x5, nI_x2, nI_p0, nI_p2, nI_p3, nI_p4, nI_q45]
      refine ex_ia _ rfl hS rfl (by first | exact trivial | assumption | (show _ < _; omega)) (by omega) (by omega) rfl ?_
      simp (disch := omega) only [rs_lt, rv_0, rv_1, rv_2, rv_3, rv_4, rv_40, rv_41, rv_42, rv_43, rv_44]
      refine ex_go 80 rfl ?_
      refine ex_ine rfl (fun hc => ?_) (fun hc => ?_)
      · have h2 : ¬ f (5 * i) = 2 := fun q => hc (by rw [q]; rfl)
        rw [if_neg h2, if_neg h2]
        refine ex_go 80 rfl ?_
        try dsimp only
        try simp only [nI_inc, nI_1, nI_add, nI_mul2, tb_and, tb_or, tb_andn, nI_x5, nI_x2, nI_p0, nI_p2, nI_p3, nI_p4, nI_q45]
        refine ex_cvx rfl rfl rfl rfl hM rfl (d' := 0) (by omega) (c_becomes (v := j) hM hS (by omega) (by rw [rvx_n (by omega)])) ?_
        rintro v1 h1 ⟨rfl, hS1, hB1⟩
        rw [rv_1]
        exact ex_iret rfl (rq_8 hS1 hR hB1)
      · have h2 : f (5 * i) = 2 := (nI_eq (b := 2) (by omega) (by decide)).mp hc
        rw [if_pos h2, if_pos h2]
        refine ex_go 80 rfl ?_
        exact ex_iret rfl (rq_s hS hR)
theorem r_goods (hM : MO h n q) (hS : ST h f im) (hR : RS h) (g : GD n f) {m v : Int32} (hd : 2 ≤ d) : ev_X scr d cd_X6_goods 0 [.ref 57, .int m, .int v] [] h (RQ h (s_goods n f m v) im (.int (a_goods n f m v))) := by
  have hn := g.1
  unfold a_goods s_goods
  refine ex_go 80 rfl ?_
  refine ex_cv rfl rfl rfl rfl hM rfl (d' := 1) (by omega) (c_isMan hM hn (Nat.le_refl _)) ?_
  cases hm : isM n m
  · refine ex_zeqT rfl (by decide) ?_
    refine ex_go 80 rfl ?_
    exact ex_iret rfl (rq_s hS hR)
  · obtain ⟨i, hi, rfl⟩ := isM_of hm (by omega)
    refine ex_zeqF rfl (by decide) ?_
    refine ex_go 80 rfl ?_
    try dsimp only
    try simp only [nI_inc, nI_1, nI_add, nI_mul2, tb_and, tb_or, tb_andn, nI_x5, nI_x2, nI_p0, nI_p2, nI_p3, nI_p4, nI_q45]
    refine ex_cs rfl rfl rfl (d' := 0) (by omega) (c_in0 100 (by decide)) ?_
    cases hv : isM 100 v
    · refine ex_zeqT rfl (by decide) ?_
      refine ex_go 80 rfl ?_
      exact ex_iret rfl (rq_s hS hR)
    · obtain ⟨j, hj, rfl⟩ := isM_of hv (by omega)
      rw [ix_nI (by omega), ix_nI (by omega), Bool.true_and, if_pos rfl, if_pos rfl]
      refine ex_zeqF rfl (by decide) ?_
      refine ex_go 80 rfl ?_
      try dsimp only
      try simp only [nI_inc, nI_1, nI_add, nI_mul2, tb_and, tb_or, tb_andn, nI_x5, nI_x2, nI_p0, nI_p2, nI_p3, nI_p4, nI_q45]
      refine ex_cvx rfl rfl rfl rfl hM rfl (d' := 0) (by omega) (c_becomes (v := j) hM hS (by omega) (by rw [rvx_n (by omega)])) ?_
      rintro v1 h1 ⟨rfl, hS1, hB1⟩
      rw [rv_2]
      refine ex_go 80 rfl ?_
      exact ex_iret rfl (rq_8 hS1 hR hB1)
theorem r_law (hM : MO h n q) (hS : ST h f im) (hR : RS h) {w v : Int32} (hd : 2 ≤ d) : ev_X scr d cd_X6_law 0 [.ref 57, .int w, .int v] [] h (RQ h (s_law f w v) im (.int (a_law f w v))) := by
  unfold a_law s_law
  refine ex_go 80 rfl ?_
  refine ex_cs rfl rfl rfl (d' := 1) (by omega) (c_isPart (Nat.le_refl _)) ?_
  cases hw : isM 2 w
  · have h0 : ¬ w = 0 := fun c => by rw [c] at hw; exact absurd hw (by decide)
    have h1 : ¬ w = 1 := fun c => by rw [c] at hw; exact absurd hw (by decide)
    rw [decide_eq_false h0, decide_eq_false h1]
    refine ex_zeqT rfl (by decide) ?_
    refine ex_go 80 rfl ?_
    exact ex_iret rfl (rq_s hS hR)
  · obtain ⟨j, hj, rfl⟩ := isM_of hw (by omega)
    refine ex_zeqF rfl (by decide) ?_
    rcases (by omega : j = 0 ∨ j = 1) with rfl | rfl
    · rw [show decide (nI 0 = 0) = true from rfl, show decide (nI 0 = 1) = false from by decide]
      refine ex_go 80 rfl ?_
      try dsimp only
      try simp only [nI_inc, nI_1, nI_add, nI_mul2, tb_and, tb_or, tb_andn, nI_x5, nI_x2, nI_p0, nI_p2, nI_p3, nI_p4, nI_q45]
      refine ex_zneF rfl (by decide) ?_
      refine ex_go 80 rfl ?_
      refine ex_cs rfl rfl rfl (d' := 0) (by omega) (c_in0 100 (by decide)) ?_
      cases hv : isM 100 v
      · refine ex_zneF rfl (by decide) ?_
        refine ex_go 80 rfl ?_
        exact ex_iret rfl (rq_s hS hR)
      · obtain ⟨j, hj, rfl⟩ := isM_of hv (by omega)
        rw [ix_nI (by omega)]
        refine ex_zneT rfl (by decide) ?_
        refine ex_go 80 rfl ?_
        refine ex_zneF rfl (by decide) ?_
        refine ex_go 80 rfl ?_
        refine ex_cvx rfl rfl rfl rfl hM rfl (d' := 0) (by omega) (c_becomes (k := 41) (v := j) hM hS (by omega) (by rw [rvx_n (by omega)])) ?_
        rintro v1 h1 ⟨rfl, hS1, hB1⟩
        exact ex_iret rfl (rq_8 hS1 hR hB1)
    · rw [show decide (nI 1 = 0) = false from by decide, show decide (nI 1 = 1) = true from rfl]
      refine ex_go 80 rfl ?_
      try dsimp only
      try simp only [nI_inc, nI_1, nI_add, nI_mul2, tb_and, tb_or, tb_andn, nI_x5, nI_x2, nI_p0, nI_p2, nI_p3, nI_p4, nI_q45]
      refine ex_zneT rfl (by decide) ?_
      refine ex_go 80 rfl ?_
      refine ex_cs rfl rfl rfl (d' := 0) (by omega) (c_in0 10 (by decide)) ?_
      cases hv : isM 10 v
      · refine ex_zneF rfl (by decide) ?_
        refine ex_go 80 rfl ?_
        exact ex_iret rfl (rq_s hS hR)
      · obtain ⟨j, hj, rfl⟩ := isM_of hv (by omega)
        rw [ix_nI (by omega)]
        refine ex_zneT rfl (by decide) ?_
        refine ex_go 80 rfl ?_
        refine ex_zneT rfl (by decide) ?_
        refine ex_go 80 rfl ?_
        refine ex_cvx rfl rfl rfl rfl hM rfl (d' := 0) (by omega) (c_becomes (k := 42) (v := j) hM hS (by omega) (by rw [rvx_n (by omega)])) ?_
        rintro v1 h1 ⟨rfl, hS1, hB1⟩
        exact ex_iret rfl (rq_8 hS1 hR hB1)
end RCALLS
end
section
/-! A town stays as it should be. -/
abbrev mnG (f : Nat → Nat) (m : Nat) : Prop := f (5 * m) ≤ 3 ∧ f (5 * m + 1) ≤ 9 ∧ f (5 * m + 2) ≤ 99 ∧ f (5 * m + 3) ≤ 4 ∧ (f (5 * m) = 3 ↔ f (5 * m + 3) = 4) ∧ ((f 40).testBit m = true → f (5 * m + 3) < 4)
theorem GD.man {n i : Nat} {f f' : Nat → Nat} (g : GD n f) (hi : i < n) (ho : ∀ j, (j < 5 * i ∨ 5 * i + 3 < j) → f' j = f j) (hm : mnG f' i) : GD n f' := by
  obtain ⟨g1, g2, g3, g4, g5, g6, g7, g8, g9, g10⟩ := g
  have h40 := ho 40 (by omega)
  have h44 := ho 44 (by omega)
  refine ⟨g1, fun m hmn => ?_, by rw [h40]; exact g3, by rw [ho 41 (by omega)]; exact g4, by rw [ho 42 (by omega)]; exact g5, fun m h8 => by rw [ho _ (by omega)]; exact g6 m h8, by rw [ho 43 (by omega)]; exact g7, by rw [h44]; exact g8, fun k hk => ?_, fun t ht => by rw [ho _ (by omega)]; exact g10 t ht⟩
  · by_cases c : m = i
    · rw [c]; exact hm
    · rw [ho (5 * m) (by omega), ho (5 * m + 1) (by omega), ho (5 * m + 2) (by omega), ho (5 * m + 3) (by omega), h40]
      exact g2 m hmn
  · rw [h44] at hk
    rw [ho _ (by omega), ho _ (by omega)]
    exact g9 k hk
theorem GD.hi {n : Nat} {f f' : Nat → Nat} (g : GD n f) (ho : ∀ j, j ≤ 40 → f' j = f j) (h1 : f' 41 ≤ 99) (h2 : f' 42 ≤ 9) (h3 : f' 43 ≤ 99) (h4 : f' 44 ≤ 6) (hs : ∀ k, k < f' 44 → f' (45 + 2 * k) < n ∧ f' (46 + 2 * k) ≤ 99) (hm : ∀ t, t < 4 → 1 ≤ f' (60 + t) ∧ f' (60 + t) ≤ 5) : GD n f' := by
  obtain ⟨g1, g2, g3, g4, g5, g6, g7, g8, g9, g10⟩ := g
  refine ⟨g1, fun m hmn => ?_, by rw [ho 40 (by omega)]; exact g3, h1, h2, fun m h8 => by rw [ho _ (by omega)]; exact g6 m h8, h3, h4, hs, hm⟩
  rw [ho (5 * m) (by omega), ho (5 * m + 1) (by omega), ho (5 * m + 2) (by omega), ho (5 * m + 3) (by omega), ho 40 (by omega)]
  exact g2 m hmn
theorem GD.w40 {n x : Nat} {f : Nat → Nat} (g : GD n f) (hx : x < 2 ^ n) (hb : ∀ m, m < n → x.testBit m = true → f (5 * m + 3) < 4) : GD n (up f 40 x) := by
  obtain ⟨g1, g2, g3, g4, g5, g6, g7, g8, g9, g10⟩ := g
  have ho : ∀ j, j ≠ 40 → up f 40 x j = f j := fun j hj => up_ne hj
  refine ⟨g1, fun m hmn => ?_, by rw [up_eq]; exact hx, by rw [ho 41 (by omega)]; exact g4, by rw [ho 42 (by omega)]; exact g5, fun m h8 => by rw [ho _ (by omega)]; exact g6 m h8, by rw [ho 43 (by omega)]; exact g7, by rw [ho 44 (by omega)]; exact g8, fun k hk => ?_, fun t ht => by rw [ho _ (by omega)]; exact g10 t ht⟩
  · rw [ho (5 * m) (by omega), ho (5 * m + 1) (by omega), ho (5 * m + 2) (by omega), ho (5 * m + 3) (by omega), up_eq]
    obtain ⟨a, b, c, d, e, _⟩ := g2 m hmn
    exact ⟨a, b, c, d, e, hb m hmn⟩
  · rw [ho 44 (by omega)] at hk
    rw [ho _ (by omega), ho _ (by omega)]
    exact g9 k hk
theorem GD.ki {n i v : Nat} {f : Nat → Nat} (g : GD n f) (hi : i < 8) (hv : v < 256) : GD n (up f (5 * i + 4) v) := by
  obtain ⟨g1, g2, g3, g4, g5, g6, g7, g8, g9, g10⟩ := g
  have ho : ∀ j, j ≠ 5 * i + 4 → up f (5 * i + 4) v j = f j := fun j hj => up_ne hj
  refine ⟨g1, fun m hmn => ?_, by rw [ho 40 (by omega)]; exact g3, by rw [ho 41 (by omega)]; exact g4, by rw [ho 42 (by omega)]; exact g5, fun m h8 => ?_, by rw [ho 43 (by omega)]; exact g7, by rw [ho 44 (by omega)]; exact g8, fun k hk => ?_, fun t ht => by rw [ho _ (by omega)]; exact g10 t ht⟩
  · rw [ho (5 * m) (by omega), ho (5 * m + 1) (by omega), ho (5 * m + 2) (by omega), ho (5 * m + 3) (by omega), ho 40 (by omega)]
    exact g2 m hmn
  · by_cases c : m = i
    · rw [c, up_eq]; exact hv
    · rw [ho _ (by omega)]; exact g6 m h8
  · rw [ho 44 (by omega)] at hk
    rw [ho _ (by omega), ho _ (by omega)]
    exact g9 k hk
theorem GD.se {n i t : Nat} {f : Nat → Nat} (g : GD n f) (hi : i < n) (ht : t < 4) : GD n (seF f i t) := by
  have hn := g.1
  rw [seF_up g hi]
  obtain ⟨a1, a2, a3, a4, a5, a6⟩ := g.2.1 i hi
  refine g.man hi (fun j hj => by rw [up_ne (by omega), up_ne (by omega)]) ?_
  have e0 : up (up f (5 * i) (if f (5 * i + 3) = 4 then 0 else f (5 * i))) (5 * i + 3) t (5 * i) = if f (5 * i + 3) = 4 then 0 else f (5 * i) := by rw [up_ne (by omega), up_eq]
  unfold mnG
  rw [e0, up_eq, up_ne (by omega), up_ne (by omega), up_ne (by omega), up_ne (by omega)]
  refine ⟨by split <;> omega, a2, a3, by omega, ?_, fun _ => ht⟩
  by_cases c : f (5 * i + 3) = 4
  · rw [if_pos c]; omega
  · rw [if_neg c]
    have : ¬ f (5 * i) = 3 := fun q => c (a5.mp q)
    omega
theorem wo_bit2 (x i j : Nat) : (tb_wo x (2 ^ i)).testBit j = (x.testBit j && decide (i ≠ j)) := by
  rw [tb_wo_bit, Nat.testBit_two_pow]
  by_cases c : i = j <;> simp [c]
theorem GD.gv {n i : Nat} {f : Nat → Nat} (g : GD n f) (hi : i < n) : GD n (gvF f i) := by
  have hn := g.1
  have e : gvF f i = up (up (up f 40 (tb_wo (f 40) (2 ^ i))) (5 * i + 3) 4) (5 * i) 3 := by
    unfold gvF
    rw [up_comm (k := 5 * i) (by omega), up_comm (k := 5 * i + 3) (by omega)]
  obtain ⟨a1, a2, a3, a4, a5, a6⟩ := g.2.1 i hi
  rw [e]
  have g1 := g.w40 (x := tb_wo (f 40) (2 ^ i)) (Nat.lt_of_le_of_lt (tb_wo_le _ _) g.2.2.1) (fun m hm hb => by
    rw [wo_bit2, Bool.and_eq_true] at hb
    exact (g.2.1 m hm).2.2.2.2.2 hb.1)
  refine g1.man hi (fun j hj => by rw [up_ne (by omega), up_ne (by omega)]) ?_
  have u : ∀ j, j ≠ 5 * i → j ≠ 5 * i + 3 → j ≠ 40 → up (up (up f 40 (tb_wo (f 40) (2 ^ i))) (5 * i + 3) 4) (5 * i) 3 j = f j := fun j p q r => by rw [up_ne p, up_ne q, up_ne r]
  have e0 : up (up (up f 40 (tb_wo (f 40) (2 ^ i))) (5 * i + 3) 4) (5 * i) 3 (5 * i + 3) = 4 := by rw [up_ne (by omega), up_eq]
  have e1 : up (up (up f 40 (tb_wo (f 40) (2 ^ i))) (5 * i + 3) 4) (5 * i) 3 40 = tb_wo (f 40) (2 ^ i) := by rw [up_ne (by omega), up_ne (by omega), up_eq]
  unfold mnG
  rw [e0, e1, u (5 * i + 1) (by omega) (by omega) (by omega), u (5 * i + 2) (by omega) (by omega) (by omega), up_eq]
  refine ⟨by omega, a2, a3, by omega, by omega, fun hb => ?_⟩
  rw [wo_bit2] at hb
  simp at hb
theorem GD.te {n i t : Nat} {f : Nat → Nat} (g : GD n f) (hi : i < n) (ht : t < 4) (h4 : f (5 * i + 3) < 4) : GD n (up f (5 * i + 3) t) := by
  have hn := g.1
  obtain ⟨a1, a2, a3, a4, a5, a6⟩ := g.2.1 i hi
  refine g.man hi (fun j hj => up_ne (by omega)) ?_
  unfold mnG
  rw [up_eq, up_ne (by omega), up_ne (by omega), up_ne (by omega), up_ne (by omega)]
  exact ⟨a1, a2, a3, by omega, by omega, fun _ => ht⟩
theorem GD.ex {n i j : Nat} {f : Nat → Nat} (g : GD n f) (hi : i < n) (hj : j < n) (hs : msw f i j = true) (hij : i ≠ j) : GD n (exF f i j) := by
  unfold msw at hs
  rw [decide_eq_true_eq] at hs
  unfold exF
  exact (g.te hi hs.2.1 hs.1).te hj hs.1 (by rw [up_ne (by omega)]; exact hs.2.1)
theorem GD.odd {n i v : Nat} {f : Nat → Nat} (g : GD n f) (hi : i < n) (hv : v ≤ 9) : GD n (up f (5 * i + 1) v) := by
  have hn := g.1
  obtain ⟨a1, a2, a3, a4, a5, a6⟩ := g.2.1 i hi
  refine g.man hi (fun j hj => up_ne (by omega)) ?_
  unfold mnG
  rw [up_eq, up_ne (by omega), up_ne (by omega), up_ne (by omega), up_ne (by omega)]
  exact ⟨a1, hv, a3, a4, a5, a6⟩
theorem GD.gods {n i v : Nat} {f : Nat → Nat} (g : GD n f) (hi : i < n) (hv : v ≤ 99) : GD n (up f (5 * i + 2) v) := by
  have hn := g.1
  obtain ⟨a1, a2, a3, a4, a5, a6⟩ := g.2.1 i hi
  refine g.man hi (fun j hj => up_ne (by omega)) ?_
  unfold mnG
  rw [up_eq, up_ne (by omega), up_ne (by omega), up_ne (by omega), up_ne (by omega)]
  exact ⟨a1, a2, hv, a4, a5, a6⟩
theorem GD.f41 {n v : Nat} {f : Nat → Nat} (g : GD n f) (hv : v ≤ 99) : GD n (up f 41 v) := by
  obtain ⟨g1, g2, g3, g4, g5, g6, g7, g8, g9, g10⟩ := id g
  exact g.hi (fun j hj => up_ne (by omega)) (by rw [up_eq]; exact hv) g5 g7 g8 (fun k hk => by rw [up_ne (by omega), up_ne (by omega)]; exact g9 k hk) (fun t ht => by rw [up_ne (by omega)]; exact g10 t ht)
theorem GD.f42 {n v : Nat} {f : Nat → Nat} (g : GD n f) (hv : v ≤ 9) : GD n (up f 42 v) := by
  obtain ⟨g1, g2, g3, g4, g5, g6, g7, g8, g9, g10⟩ := id g
  exact g.hi (fun j hj => up_ne (by omega)) g4 (by rw [up_eq]; exact hv) g7 g8 (fun k hk => by rw [up_ne (by omega), up_ne (by omega)]; exact g9 k hk) (fun t ht => by rw [up_ne (by omega)]; exact g10 t ht)
theorem GD.f43 {n v : Nat} {f : Nat → Nat} (g : GD n f) (hv : v ≤ 99) : GD n (up f 43 v) := by
  obtain ⟨g1, g2, g3, g4, g5, g6, g7, g8, g9, g10⟩ := id g
  exact g.hi (fun j hj => up_ne (by omega)) g4 g5 (by rw [up_eq]; exact hv) g8 (fun k hk => by rw [up_ne (by omega), up_ne (by omega)]; exact g9 k hk) (fun t ht => by rw [up_ne (by omega)]; exact g10 t ht)
theorem GD.f44 {n v : Nat} {f : Nat → Nat} (g : GD n f) (hv : v ≤ f 44) : GD n (up f 44 v) := by
  obtain ⟨g1, g2, g3, g4, g5, g6, g7, g8, g9, g10⟩ := id g
  exact g.hi (fun j hj => up_ne (by omega)) g4 g5 g7 (by rw [up_eq]; omega) (fun k hk => by
    rw [up_eq] at hk
    rw [up_ne (by omega), up_ne (by omega)]
    exact g9 k (by omega)) (fun t ht => by rw [up_ne (by omega)]; exact g10 t ht)
theorem GD.wgg {n : Nat} {f u : Nat → Nat} (g : GD n f) (hu : ∀ m, m < n → u m ≤ 99) : GD n (wg f u) := by
  obtain ⟨g1, g2, g3, g4, g5, g6, g7, g8, g9, g10⟩ := id g
  have ho : ∀ j, ¬ (j % 5 = 2 ∧ j < 40) → wg f u j = f j := fun j hj => wg_ne hj
  refine ⟨g1, fun m hmn => ?_, by rw [ho 40 (by omega)]; exact g3, by rw [ho 41 (by omega)]; exact g4, by rw [ho 42 (by omega)]; exact g5, fun m h8 => by rw [ho _ (by omega)]; exact g6 m h8, by rw [ho 43 (by omega)]; exact g7, by rw [ho 44 (by omega)]; exact g8, fun k hk => ?_, fun t ht => by rw [ho _ (by omega)]; exact g10 t ht⟩
  · rw [ho (5 * m) (by omega), ho (5 * m + 1) (by omega), wg_gd (by omega), ho (5 * m + 3) (by omega), ho 40 (by omega)]
    obtain ⟨a, b, c, d, e, k⟩ := g2 m hmn
    exact ⟨a, b, hu m hmn, d, e, k⟩
  · rw [ho 44 (by omega)] at hk
    rw [ho _ (by omega), ho _ (by omega)]
    exact g9 k hk
theorem gd_move {n : Nat} {f : Nat → Nat} (g : GD n f) (m t : Int32) : GD n (s_move n f m t) := by
  unfold s_move
  by_cases c : (isM n m && isM 4 t) = true
  · rw [if_pos c]
    rw [Bool.and_eq_true] at c
    have hn := g.1
    obtain ⟨i, hi, rfl⟩ := isM_of c.1 (by omega)
    obtain ⟨j, hj, rfl⟩ := isM_of c.2 (by omega)
    rw [ix_nI (by omega), ix_nI (by omega)]
    split
    · exact g.se hi hj
    · exact g
  · rw [if_neg c]; exact g
theorem gd_leave {n : Nat} {f : Nat → Nat} (g : GD n f) (m : Int32) : GD n (s_leave n f m) := by
  unfold s_leave
  by_cases c : rit n f m = 0
  · rw [if_pos c]
    obtain ⟨i, hi, rfl, ht, e⟩ := rit_0 g.1 c
    rw [e]
    exact g.gv hi
  · rw [if_neg c]; exact g
theorem gd_swap {n : Nat} {f : Nat → Nat} (g : GD n f) (m k : Int32) : GD n (s_swap n f m k) := by
  unfold s_swap
  by_cases c : prm n m k = true
  · rw [if_pos c]
    obtain ⟨i, j, hi, hj, hij, rfl, rfl, ei, ej⟩ := prm_of g.1 c
    rw [ei, ej]
    by_cases c2 : msw f i j = true
    · rw [if_pos c2]; exact g.ex hi hj c2 hij
    · rw [if_neg c2]; exact g
  · rw [if_neg c]; exact g
theorem wb_lt {b : Bool} {x i n : Nat} (hx : x < 2 ^ n) (hi : i < n) : wb b x i < 2 ^ n := by
  unfold wb
  split
  · exact Nat.or_lt_two_pow hx (Nat.pow_lt_pow_right (by decide) hi)
  · exact Nat.lt_of_le_of_lt (tb_wo_le _ _) hx
theorem wb_bit (b : Bool) (x i j : Nat) : (wb b x i).testBit j = if i = j then b else x.testBit j := by
  unfold wb
  cases b
  · rw [if_neg (by decide), wo_bit2]
    by_cases c : i = j <;> simp [c]
  · rw [if_pos rfl, Nat.testBit_or, Nat.testBit_two_pow]
    by_cases c : i = j <;> simp [c]
theorem gd_watch {n : Nat} {f : Nat → Nat} (g : GD n f) (m : Int32) (b : Bool) : GD n (s_watch n f m b) := by
  unfold s_watch
  by_cases c : rit n f m = 0
  · rw [if_pos c]
    obtain ⟨i, hi, rfl, ht, e⟩ := rit_0 g.1 c
    rw [e]
    refine g.w40 (wb_lt g.2.2.1 hi) (fun k hk hb => ?_)
    rw [wb_bit] at hb
    by_cases c2 : i = k
    · rw [← c2]; exact ht
    · rw [if_neg c2] at hb
      exact (g.2.1 k hk).2.2.2.2.2 hb
  · rw [if_neg c]; exact g
theorem gd_kin {n : Nat} {f : Nat → Nat} (g : GD n f) (m k : Int32) (b : Bool) : GD n (s_kin n f m k b) := by
  unfold s_kin
  by_cases c : prm n m k = true
  · rw [if_pos c]
    have hn := g.1
    obtain ⟨i, j, hi, hj, hij, rfl, rfl, ei, ej⟩ := prm_of g.1 c
    rw [ei, ej]
    unfold kiF
    exact (g.ki (by omega) (wb_lt (n := 8) (g.2.2.2.2.2.1 i (by omega)) (by omega))).ki (by omega) (wb_lt (n := 8) (g.2.2.2.2.2.1 j (by omega)) (by omega))
  · rw [if_neg c]; exact g
theorem gd_odd {n : Nat} {f : Nat → Nat} (g : GD n f) (m v : Int32) : GD n (s_odd n f m v) := by
  unfold s_odd
  by_cases c : (isM n m && isM 10 v) = true
  · rw [if_pos c]
    rw [Bool.and_eq_true] at c
    have hn := g.1
    obtain ⟨i, hi, rfl⟩ := isM_of c.1 (by omega)
    obtain ⟨j, hj, rfl⟩ := isM_of c.2 (by omega)
    rw [ix_nI (by omega), ix_nI (by omega)]
    split
    · exact g
    · exact g.odd hi (by omega)
  · rw [if_neg c]; exact g
theorem gd_goods {n : Nat} {f : Nat → Nat} (g : GD n f) (m v : Int32) : GD n (s_goods n f m v) := by
  unfold s_goods
  by_cases c : (isM n m && isM 100 v) = true
  · rw [if_pos c]
    rw [Bool.and_eq_true] at c
    have hn := g.1
    obtain ⟨i, hi, rfl⟩ := isM_of c.1 (by omega)
    obtain ⟨j, hj, rfl⟩ := isM_of c.2 (by omega)
    rw [ix_nI (by omega), ix_nI (by omega)]
    exact g.gods hi (by omega)
  · rw [if_neg c]; exact g
theorem gd_law {n : Nat} {f : Nat → Nat} (g : GD n f) (w v : Int32) : GD n (s_law f w v) := by
  unfold s_law
  by_cases c : (decide (w = 0) && isM 100 v) = true
  · rw [if_pos c]
    rw [Bool.and_eq_true] at c
    obtain ⟨j, hj, rfl⟩ := isM_of c.2 (by omega)
    rw [ix_nI (by omega)]
    exact g.f41 (by omega)
  · rw [if_neg c]
    by_cases c : (decide (w = 1) && isM 10 v) = true
    · rw [if_pos c]
      rw [Bool.and_eq_true] at c
      obtain ⟨j, hj, rfl⟩ := isM_of c.2 (by omega)
      rw [ix_nI (by omega)]
      exact g.f42 (by omega)
    · rw [if_neg c]; exact g
/-! bounds -/
theorem hm_lt {n : Nat} {f : Nat → Nat} (g : GD n f) (t : Nat) : hm n f t ≤ 8000 := by
  have hn := g.1
  have h1 : sm (hmg n f t) n ≤ 72 := Nat.le_trans (sm_le (c := 9) (fun i _ => by
    unfold hmg
    split
    · exact od_le n f i
    · exact Nat.zero_le _)) (by omega)
  have h2 : wct n f t ≤ 8 := by
    have := sm_le (g := fun m => tb_b (decide (f (5 * m + 3) = t) && (f 40).testBit m)) (c := 1) (n := n) (fun i _ => tb_le _)
    unfold wct
    omega
  have h3 := Nat.mul_le_mul h1 g.2.2.2.1
  have h4 : 10 * f 42 * wct n f t ≤ 90 * 8 := Nat.mul_le_mul (by have := g.2.2.2.2.1; omega) h2
  unfold hm
  omega
theorem ha_lt {n : Nat} {f : Nat → Nat} (g : GD n f) : ha n f < 100000 := by
  have hn := g.1
  have h1 : sm (hm n f) 4 ≤ 4 * 8000 := sm_le (fun i _ => hm_lt g i)
  have h2 : sm (hwg f) n ≤ n * 900 := sm_le (fun i hi => by
    unfold hwg
    split
    · exact Nat.le_trans (Nat.mul_le_mul (g.2.1 i hi).2.1 g.2.2.2.1) (by decide)
    · exact Nat.zero_le _)
  unfold ha
  omega
end
section
/-! Years, payments, harm, chances. -/
def PC (n : Nat) (f f' : Nat → Nat) : Prop := (∀ j, j < n → f' (5 * j + 3) = f (5 * j + 3) ∧ f' (5 * j + 4) = f (5 * j + 4)) ∧ f' 40 = f 40 ∧ f' 41 = f 41 ∧ f' 42 = f 42
section PCC
variable {n : Nat} {f f' : Nat → Nat} (e : PC n f f')
theorem pyr_c (e : PC n f f') {m : Nat} (hm : m < n) : pyr n f' m = pyr n f m := by
  unfold pyr
  rw [(e.1 m hm).1, (e.1 m hm).2, bs_cong (fun i hi => by rw [(e.1 i hi).1])]
theorem pfm_c (e : PC n f f') {m : Nat} (hm : m < n) (g : Nat → Nat) : pfm n f' g m = pfm n f g m := by
  unfold pfm
  rw [pyr_c e hm, e.2.2.1]
theorem fi_c (e : PC n f f') (w : Nat) (g : Nat → Nat) : ∀ i, i ≤ n → fi n f' w g i = fi n f w g i
  | 0, _ => rfl
  | i + 1, h => by rw [fi, fi, fi_c e w g i (by omega), (e.1 i (by omega)).1, pfm_c e (by omega)]
theorem cot_c (e : PC n f f') (g : Nat → Nat) (t : Nat) : cot n f' g t = cot n f g t := by
  unfold cot wct
  rw [e.2.1, e.2.2.2, bs_cong (fun i hi => by rw [(e.1 i hi).1]), sm_cong (fun i hi => by rw [(e.1 i hi).1])]
theorem co_c (e : PC n f f') (g : Nat → Nat) : ∀ t, co n f' g t = co n f g t
  | 0 => rfl
  | t + 1 => by rw [co, co, co_c e g t, cot_c e]
theorem yr_c (e : PC n f f') (g : Nat → Nat) (w : Nat) : yr n f' g w = yr n f g w := by
  unfold yr
  rw [fi_c e w g n (Nat.le_refl n), co_c e]
end PCC
theorem pc_43 {n : Nat} (hn : n ≤ 8) (f : Nat → Nat) (v : Nat) : PC n f (up f 43 v) := ⟨fun j hj => ⟨up_ne (by omega), up_ne (by omega)⟩, up_ne (by decide), up_ne (by decide), up_ne (by decide)⟩
theorem gd_43 (f : Nat → Nat) (v : Nat) : gd (up f 43 v) = gd f := funext (fun m => by unfold gd; rw [up_ne (by omega)])
theorem wg_43 (f u : Nat → Nat) (v : Nat) : up (wg f u) 43 v = wg (up f 43 v) u := funext (fun j => by
  unfold wg up
  by_cases c : j = 43
  · rw [if_pos c, if_neg (by omega), if_pos c]
  · rw [if_neg c, if_neg c])
theorem gd_lt {n : Nat} {f : Nat → Nat} (g : GD n f) : ∀ j, j < n → gd f j < 2 ^ 31 := fun j hj => by
  have := (g.2.1 j hj).2.2.1
  unfold gd
  omega
def a_year (n : Nat) (f : Nat → Nat) (w : Int32) : Int32 := if mdw n f w = true then (if f 43 = 99 then -3 else nI (yr n f (gd f) (ix w)).2) else -1
def s_year (n : Nat) (f : Nat → Nat) (w : Int32) : Nat → Nat := if mdw n f w = true then (if f 43 = 99 then f else wg (up f 43 (f 43 + 1)) (yr n f (gd f) (ix w)).1) else f
theorem gd_year {n : Nat} {f : Nat → Nat} (g : GD n f) (w : Int32) : GD n (s_year n f w) := by
  unfold s_year
  split
  · split
    · exact g
    · have := g.2.2.2.2.2.2.1
      exact (g.f43 (by omega)).wgg (fun m hm => Nat.le_trans (yr_le _ _ _ _ _) (g.2.1 m hm).2.2.1)
  · exact g
def a_pays (n : Nat) (f : Nat → Nat) (m w : Int32) : Int32 := if (isM n m && mdw n f w) = true then nI (gd f (ix m) - (fi n f (ix w) (gd f) n).1 (ix m)) else -1
def a_calm (n : Nat) (f : Nat → Nat) (t w : Int32) : Int64 := if (isM 4 t && isM 2 w) = true then lN (low (pd (cf n f (tb n f (ix t)) 0) n) (10 ^ pc8 (tb n f (ix t))) (ix w)) else -1
theorem pd_le {q : Nat → Nat} {c : Nat} (hc : 1 ≤ c) : ∀ {n : Nat}, (∀ i, i < n → q i ≤ c) → pd q n ≤ c ^ n
  | 0, _ => Nat.le_refl _
  | n + 1, h => by
    rw [pd, Nat.pow_succ]
    exact Nat.mul_le_mul (pd_le hc (fun i hi => h i (Nat.lt_succ_of_lt hi))) (h n (Nat.lt_succ_self n))
theorem pd_cong {q q' : Nat → Nat} : ∀ {n : Nat}, (∀ i, i < n → q i = q' i) → pd q n = pd q' n
  | 0, _ => rfl
  | n + 1, h => by rw [pd, pd, pd_cong (fun i hi => h i (Nat.lt_succ_of_lt hi)), h n (Nat.lt_succ_self n)]
theorem pd_pow (p : Nat → Bool) : ∀ n, pd (fun i => if p i = true then 10 else 1) n = 10 ^ sm (fun i => tb_b (p i)) n
  | 0 => rfl
  | n + 1 => by
    rw [pd, sm, pd_pow p n, Nat.pow_add]
    congr 1
    cases p n <;> rfl
theorem cf_le (n : Nat) (f : Nat → Nat) (x s m : Nat) : cf n f x s m ≤ 10 := by
  have := od_le n f m
  unfold cf
  split
  · split <;> omega
  · omega
theorem pow10_lt {n : Nat} (hn : n ≤ 8) : 10 ^ n ≤ 100000000 := Nat.pow_le_pow_right (n := 10) (by decide) hn
section YEARS
variable {scr : List Int32} {d : Nat} {h : ev_H} {n : Nat} {f : Nat → Nat} {x : Nat → Int32} {q : Nat → Int32} {im : Nat → Int32}
theorem k_harm (hC : CO h x) (hT : TA h 1 n f) (hL : TL h) (g : GD n f) (hd : 6 ≤ d) : ev_X scr d cd_X5_harm 0 [.ref 0] [] h (CQ h n f (.int (nI (ha n f)))) := by
  refine ex_go 80 rfl ?_
  refine ex_getf rfl hC rfl rfl ?_
  refine ex_cv rfl rfl rfl rfl hT.1 rfl (d' := 5) (by omega) (c_harmOfAll hT g (Nat.le_refl _)) ?_
  exact ex_iret rfl (cq_s hT hL)
theorem c_harmR (hM : MO h n q) (hS : ST h f im) (hR : RS h) (g : GD n f) (hd : 4 ≤ d) : ev_X scr d cd_X6_harm 0 [.ref 57] [] h (fun v h' => v = some (.int (nI (ha n f))) ∧ AT h' f ∧ SB 59 h h') := by
  refine ex_go 80 rfl ?_
  refine ex_cvx rfl rfl rfl rfl hM rfl (d' := 0) (by omega) (c_starts hM hS hR.1) ?_
  rintro v1 h1 ⟨rfl, hA1, hB1⟩
  have hM1 := hB1.mo hM (by decide)
  refine ex_go 80 rfl ?_
  refine ex_cv rfl rfl rfl rfl hM1 rfl (d' := 3) (by omega) (c_harmAll hM1 hA1 g (Nat.le_refl _)) ?_
  exact ex_iret rfl (⟨rfl, hA1, hB1⟩)
theorem r_harm (hM : MO h n q) (hS : ST h f im) (hR : RS h) (g : GD n f) (hd : 4 ≤ d) : ev_X scr d cd_X6_harm 0 [.ref 57] [] h (RQ h f im (.int (nI (ha n f)))) := by
  refine ex_mono (c_harmR hM hS hR g hd) ?_
  rintro v h' ⟨rfl, hA, hB⟩
  exact rq_9 hS hR hB hA
theorem k_year (hC : CO h x) (hT : TA h 1 n f) (hL : TL h) (g : GD n f) {w : Int32} (hd : 5 ≤ d) : ev_X scr d cd_X5_year 0 [.ref 0, .int w] [] h (CQ h n (s_year n f w) (.int (a_year n f w))) := by
  have hn := g.1
  have h8 : 2 ^ n ≤ 2 ^ 8 := Nat.pow_le_pow_right (by decide) hn
  have h43 := g.2.2.2.2.2.2.1
  unfold a_year s_year
  refine ex_go 80 rfl ?_
  refine ex_getf rfl hC rfl rfl ?_
  refine ex_go 80 rfl ?_
  refine ex_cv rfl rfl rfl rfl hT.1 rfl (d' := 1) (by omega) (c_mayDoWrong hT g (Nat.le_refl _)) ?_
  cases hb : mdw n f w
  · refine ex_zneF rfl (by decide) ?_
    refine ex_go 80 rfl ?_
    exact ex_iret rfl (cq_s hT hL)
  · obtain ⟨j, hj, rfl, hs⟩ := mdw_of hn hb
    rw [ix_nI (by omega), if_pos rfl, if_pos rfl]
    refine ex_zneT rfl (by decide) ?_
    refine ex_go 80 rfl ?_
    refine ex_getf rfl hC rfl rfl ?_
    refine ex_getf rfl hT.1 rfl rfl ?_
    refine ex_go 80 rfl ?_
    refine ex_ilt rfl (fun hc => ?_) (fun hc => ?_)
    · have c : ¬ f 43 = 99 := by
        have := (nI_ltI (b := 99) (by omega) (by decide)).mp hc
        omega
      rw [if_neg c, if_neg c]
      refine ex_go 80 rfl ?_
      refine ex_getf rfl hC rfl rfl ?_
      refine ex_go 80 rfl ?_
      refine ex_getf rfl hT.1 rfl rfl ?_
      refine ex_go 80 rfl ?_
      try dsimp only
      try simp only [nI_inc, nI_1, nI_add, nI_mul2, tb_and, tb_or, tb_andn]
      refine ex_pf rfl hT.1 rfl rfl (fun h1 hO1 hB1 => ?_)
      have hT1 := hT.f_43 (v := f 43 + 1) hO1 hB1 rfl
      have hF1 := hB1.fr (a := 1) (b := 1 + 8) (by decide) (by decide)
      have hC1 := (hF1.2 0 (by decide)).trans hC
      have g1 := g.f43 (v := f 43 + 1) (by omega)
      rw [← wg_gdf (up f 43 (f 43 + 1))] at hT1
      refine ex_go 80 rfl ?_
      refine ex_getf rfl hC1 rfl rfl ?_
      refine ex_go 80 rfl ?_
      refine ex_cvx rfl rfl rfl rfl hT1.1 rfl (d' := 4) (by omega) (c_payAll hT1 g1 (gd_lt g1) (by omega) (Nat.le_refl _)) ?_
      rintro v2 h2 ⟨rfl, hT2, hF2⟩
      rw [yr_c (pc_43 hn f (f 43 + 1)), gd_43] at *
      exact ex_iret rfl (cq_t hL hT2 (hF1.tr hF2))
    · have c : f 43 = 99 := by
        have := Nat.le_of_not_lt (fun q => hc ((nI_ltI (b := 99) (by omega) (by decide)).mpr q))
        omega
      rw [if_pos c, if_pos c]
      refine ex_go 80 rfl ?_
      exact ex_iret rfl (cq_s hT hL)
theorem r_year (hM : MO h n q) (hS : ST h f im) (hR : RS h) (g : GD n f) {w : Int32} (hd : 4 ≤ d) : ev_X scr d cd_X6_year 0 [.ref 57, .int w, .float 0] [] h (RQ h (s_year n f w) im (.int (a_year n f w))) := by
  have hn := g.1
  have h8 : 2 ^ n ≤ 2 ^ 8 := Nat.pow_le_pow_right (by decide) hn
  have h43 := g.2.2.2.2.2.2.1
  unfold a_year s_year
  refine ex_go 80 rfl ?_
  refine ex_cv rfl rfl rfl rfl hM rfl (d' := 2) (by omega) (c_isWrong hM hS g (Nat.le_refl _)) ?_
  cases hb : mdw n f w
  · refine ex_zneF rfl (by decide) ?_
    refine ex_go 80 rfl ?_
    exact ex_iret rfl (rq_s hS hR)
  · obtain ⟨j, hj, rfl, hs⟩ := mdw_of hn hb
    rw [ix_nI (by omega), if_pos rfl, if_pos rfl]
    refine ex_zneT rfl (by decide) ?_
    refine ex_go 80 rfl ?_
    refine ex_getf rfl hM rfl rfl ?_
    refine ex_go 80 rfl ?_
    refine ex_ia 43 rfl hS rfl (by first | exact trivial | assumption | (show _ < _; omega)) (by omega) (by omega) rfl ?_
    simp (disch := omega) only [rs_lt, rv_0, rv_1, rv_2, rv_3, rv_4, rv_40, rv_41, rv_42, rv_43, rv_44]
    refine ex_go 80 rfl ?_
    refine ex_ine rfl (fun hc => ?_) (fun hc => ?_)
    · have c : ¬ f 43 = 99 := fun q => hc (by rw [q]; rfl)
      rw [if_neg c, if_neg c]
      refine ex_go 80 rfl ?_
      refine ex_cvx rfl rfl rfl rfl hM rfl (d' := 0) (by omega) (c_starts hM hS hR.1) ?_
      rintro v1 h1 ⟨rfl, hA1, hB1⟩
      have hM1 := hB1.mo hM (by decide)
      have hI1 := hR.2.1.sb hB1 (by decide)
      rw [← wg_gdf f] at hA1
      refine ex_go 80 rfl ?_
      refine ex_cvx rfl rfl rfl rfl hM1 rfl (d' := 3) (by omega) (c_yearGoes hM1 hA1 hI1 g.p (gd_lt g) (by omega) (Nat.le_refl _)) ?_
      rintro v2 h2 ⟨rfl, hA2, hF2, hZ2⟩
      have hM2 := hZ2.mo hM1
      have hS2 := (hS.b9 hB1).z hZ2
      have hR2 := (hR.b9 hB1 hA1).z hZ2 hA2 hF2
      rw [wg_43] at hA2
      refine ex_go 80 rfl ?_
      refine ex_cvx rfl rfl rfl rfl hM2 rfl (d' := 0) (by omega) (c_settles hM2 hS2 hA2) ?_
      rintro v3 h3 ⟨rfl, hS3, hB3⟩
      refine ex_go 80 rfl ?_
      exact ex_iret rfl (⟨rfl, hS3, hR2.b8 hB3, (hB1.ry9.tr hZ2.ry).tr hB3.ry8⟩)
    · have c : f 43 = 99 := (nI_eq (b := 99) (by omega) (by decide)).mp hc
      rw [if_pos c, if_pos c]
      refine ex_go 80 rfl ?_
      exact ex_iret rfl (rq_s hS hR)
theorem c_finesOnTrial (hC : CO h x) (hT : TA h 1 n f) {f2 : Nat → Nat} (hR : TA h 10 n (wg f f2)) (g : GD n f) {m w : Nat} (hm : m < n) (hw : w < 256) (hd : 4 ≤ d) : ev_X scr d cd_X5_finesOnTrial 0 [.ref 0, .int (nI m), .int (nI w)] [] h (fun v h' => v = some (.int (nI (gd f m - (fi n f w (gd f) n).1 m))) ∧ TA h' 10 n (wg f (fi n f w (gd f) n).1) ∧ FR 10 (10 + 8) h h') := by
  have hn := g.1
  have e : (fun m => f (5 * m + 2)) = gd f := rfl
  refine ex_go 80 rfl ?_
  refine ex_getf rfl hC rfl rfl ?_
  refine ex_go 80 rfl ?_
  refine ex_getf rfl hC rfl rfl ?_
  refine ex_cvx rfl rfl rfl rfl hR.1 rfl (d' := 0) (by omega) (c_copyStock hR hT (by decide)) ?_
  rintro v1 h1 ⟨rfl, hR1, hF1⟩
  have hC1 := (hF1.2 0 (by decide)).trans hC
  have hT1 := hT.kept hF1 (by decide)
  rw [wg_wg, e] at hR1
  refine ex_go 80 rfl ?_
  refine ex_getf rfl hC1 rfl rfl ?_
  refine ex_go 80 rfl ?_
  refine ex_cvx rfl rfl rfl rfl hR1.1 rfl (d' := 3) (by omega) (c_payFines hR1 g (gd_lt g) hw (Nat.le_refl _)) ?_
  rintro v2 h2 ⟨rfl, hR2, hF2⟩
  have hC2 := (hF2.2 0 (by decide)).trans hC1
  have hT2 := hT1.kept hF2 (by decide)
  refine ex_go 80 rfl ?_
  refine ex_getf rfl hC2 rfl rfl ?_
  refine ex_getf rfl hT2.1 rfl rfl ?_
  refine ex_go 80 rfl ?_
  refine ex_ia _ rfl hT2.2.2.2.1 rfl (by first | exact trivial | assumption | (show _ < _; omega)) (by omega) (by omega) rfl ?_
  refine ex_go 80 rfl ?_
  refine ex_getf rfl hC2 rfl rfl ?_
  refine ex_getf rfl hR2.1 rfl rfl ?_
  refine ex_go 80 rfl ?_
  refine ex_ia _ rfl hR2.2.2.2.1 rfl (by first | exact trivial | assumption | (show _ < _; omega)) (by omega) (by omega) rfl ?_
  refine ex_go 80 rfl ?_
  try dsimp only
  try simp only [nI_inc, nI_1, nI_add, nI_mul2, tb_and, tb_or, tb_andn]
  rw [wg_gd (by omega), show f (5 * m + 2) = gd f m from rfl, pk_sub (fi_le n f w (gd f) n m)]
  exact ex_iret rfl (⟨rfl, hR2, hF1.tr hF2⟩)
theorem k_pays (hC : CO h x) (hT : TA h 1 n f) (hL : TL h) (g : GD n f) {m w : Int32} (hd : 5 ≤ d) : ev_X scr d cd_X5_pays 0 [.ref 0, .int m, .int w] [] h (CQ h n f (.int (a_pays n f m w))) := by
  have hn := g.1
  have h8 : 2 ^ n ≤ 2 ^ 8 := Nat.pow_le_pow_right (by decide) hn
  unfold a_pays
  refine ex_go 80 rfl ?_
  refine ex_getf rfl hC rfl rfl ?_
  refine ex_go 80 rfl ?_
  refine ex_cv rfl rfl rfl rfl hT.1 rfl (d' := 0) (by omega) (c_hasMan hT hn) ?_
  cases hm : isM n m
  · refine ex_zeqT rfl (by decide) ?_
    refine ex_go 80 rfl ?_
    exact ex_iret rfl (cq_s hT hL)
  · obtain ⟨i, hi, rfl⟩ := isM_of hm (by omega)
    refine ex_zeqF rfl (by decide) ?_
    refine ex_go 80 rfl ?_
    refine ex_getf rfl hC rfl rfl ?_
    refine ex_go 80 rfl ?_
    refine ex_cv rfl rfl rfl rfl hT.1 rfl (d' := 1) (by omega) (c_mayDoWrong hT g (Nat.le_refl _)) ?_
    cases hb : mdw n f w
    · refine ex_zneF rfl (by decide) ?_
      refine ex_go 80 rfl ?_
      exact ex_iret rfl (cq_s hT hL)
    · obtain ⟨j, hj, rfl, hs⟩ := mdw_of hn hb
      rw [ix_nI (by omega), ix_nI (by omega), Bool.true_and, if_pos rfl]
      obtain ⟨n2, f2, hR⟩ := hL
      refine ex_zneT rfl (by decide) ?_
      refine ex_go 80 rfl ?_
      refine ex_getf rfl hC rfl rfl ?_
      refine ex_go 80 rfl ?_
      refine ex_getf rfl hC rfl rfl ?_
      refine ex_cvx rfl rfl rfl rfl hR.1 rfl (d' := 1) (by omega) (c_copyFrom hR hT (by decide) rfl (Nat.le_refl _)) ?_
      rintro v1 h1 ⟨rfl, hR1, hF1⟩
      have hC1 := (hF1.2 0 (by decide)).trans hC
      have hT1 := hT.kept hF1 (by decide)
      rw [← wg_gdf f] at hR1
      refine ex_go 80 rfl ?_
      refine ex_cvx rfl rfl rfl rfl hC1 rfl (d' := 4) (by omega) (c_finesOnTrial hC1 hT1 hR1 g hi (by omega) (Nat.le_refl _)) ?_
      rintro v2 h2 ⟨rfl, hR2, hF2⟩
      exact ex_iret rfl (cq_r hT hR2 (hF1.tr hF2))
theorem r_pays (hM : MO h n q) (hS : ST h f im) (hR : RS h) (g : GD n f) {m w : Int32} (hd : 4 ≤ d) : ev_X scr d cd_X6_pays 0 [.ref 57, .int m, .int w] [] h (RQ h f im (.int (a_pays n f m w))) := by
  have hn := g.1
  have h8 : 2 ^ n ≤ 2 ^ 8 := Nat.pow_le_pow_right (by decide) hn
  unfold a_pays
  refine ex_go 80 rfl ?_
  refine ex_cv rfl rfl rfl rfl hM rfl (d' := 1) (by omega) (c_isMan hM hn (Nat.le_refl _)) ?_
  cases hm : isM n m
  · refine ex_zeqT rfl (by decide) ?_
    refine ex_go 80 rfl ?_
    exact ex_iret rfl (rq_s hS hR)
  · obtain ⟨i, hi, rfl⟩ := isM_of hm (by omega)
    refine ex_zeqF rfl (by decide) ?_
    refine ex_go 80 rfl ?_
    refine ex_cv rfl rfl rfl rfl hM rfl (d' := 2) (by omega) (c_isWrong hM hS g (Nat.le_refl _)) ?_
    cases hb : mdw n f w
    · refine ex_zneF rfl (by decide) ?_
      refine ex_go 80 rfl ?_
      exact ex_iret rfl (rq_s hS hR)
    · obtain ⟨j, hj, rfl, hs⟩ := mdw_of hn hb
      rw [ix_nI (by omega), ix_nI (by omega), Bool.true_and, if_pos rfl]
      refine ex_zneT rfl (by decide) ?_
      refine ex_go 80 rfl ?_
      refine ex_cvx rfl rfl rfl rfl hM rfl (d' := 0) (by omega) (c_starts hM hS hR.1) ?_
      rintro v1 h1 ⟨rfl, hA1, hB1⟩
      have hM1 := hB1.mo hM (by decide)
      have hI1 := hR.2.1.sb hB1 (by decide)
      rw [← wg_gdf f] at hA1
      refine ex_go 80 rfl ?_
      refine ex_cvx rfl rfl rfl rfl hM1 rfl (d' := 3) (by omega) (c_yearGoes hM1 hA1 hI1 g.p (gd_lt g) (by omega) (Nat.le_refl _)) ?_
      rintro v2 h2 ⟨rfl, hA2, hF2, hZ2⟩
      have hM2 := hZ2.mo hM1
      have hS2 := (hS.b9 hB1).z hZ2
      have hR2 := (hR.b9 hB1 hA1).z hZ2 hA2 hF2
      refine ex_go 80 rfl ?_
      refine ex_getf rfl hM2 rfl rfl ?_
      refine ex_go 80 rfl ?_
      refine ex_ia _ rfl hF2 rfl (by first | exact trivial | assumption | (show _ < _; omega)) (by omega) (by omega) rfl ?_
      exact ex_iret rfl (⟨rfl, hS2, hR2, hB1.ry9.tr hZ2.ry⟩)
theorem k_calm (hC : CO h x) (hT : TA h 1 n f) (hL : TL h) (g : GD n f) {t w : Int32} (hd : 5 ≤ d) : ev_X scr d cd_X5_calm 0 [.ref 0, .int t, .int w, .float 0] [] h (CQ h n f (.long (a_calm n f t w))) := by
  have hn := g.1
  unfold a_calm
  refine ex_go 80 rfl ?_
  refine ex_cs rfl rfl rfl (d' := 0) (by omega) (c_isTen) ?_
  cases ht : isM 4 t
  · refine ex_zeqT rfl (by decide) ?_
    refine ex_go 80 rfl ?_
    exact ex_lret rfl (cq_s hT hL)
  · obtain ⟨i, hi, rfl⟩ := isM_of ht (by omega)
    refine ex_zeqF rfl (by decide) ?_
    refine ex_go 80 rfl ?_
    refine ex_cs rfl rfl rfl (d' := 0) (by omega) (c_isWithin (k := 1) (by decide)) ?_
    show ev_X scr d cd_X5_calm _ _ [.int (nI (tb_b (isM 2 w)))] _ _
    cases hw : isM 2 w
    · refine ex_zneF rfl (by decide) ?_
      refine ex_go 80 rfl ?_
      exact ex_lret rfl (cq_s hT hL)
    · obtain ⟨j, hj, rfl⟩ := isM_of hw (by omega)
      rw [ix_nI (by omega), ix_nI (by omega), Bool.true_and, if_pos rfl]
      have hb := bs_256 (fun m => decide (f (5 * m + 3) = i)) hn
      refine ex_zneT rfl (by decide) ?_
      refine ex_go 80 rfl ?_
      refine ex_getf rfl hC rfl rfl ?_
      refine ex_go 80 rfl ?_
      refine ex_cv rfl rfl rfl rfl hT.1 rfl (d' := 0) (by omega) (c_menOfTen hT hn hi) ?_
      refine ex_go 80 rfl ?_
      refine ex_getf rfl hC rfl rfl ?_
      refine ex_go 80 rfl ?_
      refine ex_cv rfl rfl rfl rfl hT.1 rfl (d' := 4) (by omega) (c_chanceOf (s := 0) hT g (by omega) (by decide) (Nat.le_refl _)) ?_
      refine ex_go 80 rfl ?_
      refine ex_cs rfl rfl rfl (d' := 1) (by omega) (c_tenthsOf hb (Nat.le_refl _)) ?_
      have hp := Nat.le_trans (pd_le (by decide) (fun k _ => cf_le n f (tb n f i) 0 k)) (pow10_lt hn)
      have hq := pow10_lt (pc8_le (tb n f i))
      have hq0 : 0 < 10 ^ pc8 (tb n f i) := Nat.pow_pos (by decide)
      refine ex_go 80 rfl ?_
      refine ex_cs rfl rfl rfl (d' := 1) (by omega) (c_inLowestTerms (p := pd (cf n f (tb n f i) 0) n) (q := 10 ^ pc8 (tb n f i)) (by omega) (by omega) hq0 hj (Nat.le_refl _)) ?_
      exact ex_lret rfl (cq_s hT hL)
theorem r_calm (hM : MO h n q) (hS : ST h f im) (hR : RS h) (g : GD n f) {t w : Int32} (hd : 3 ≤ d) : ev_X scr d cd_X6_calm 0 [.ref 57, .int t, .int w, .float 0, .float 0, .float 0, .float 0, .float 0, .float 0] [] h (RQ h f im (.long (a_calm n f t w))) := by
  have hn := g.1
  unfold a_calm
  refine ex_go 80 rfl ?_
  refine ex_cs rfl rfl rfl (d' := 1) (by omega) (c_isTenR (Nat.le_refl _)) ?_
  cases ht : isM 4 t
  · refine ex_zeqT rfl (by decide) ?_
    refine ex_go 80 rfl ?_
    exact ex_lret rfl (rq_s hS hR)
  · obtain ⟨i, hi, rfl⟩ := isM_of ht (by omega)
    refine ex_zeqF rfl (by decide) ?_
    refine ex_go 80 rfl ?_
    refine ex_cs rfl rfl rfl (d' := 1) (by omega) (c_isPart (Nat.le_refl _)) ?_
    cases hw : isM 2 w
    · refine ex_zneF rfl (by decide) ?_
      refine ex_go 80 rfl ?_
      exact ex_lret rfl (rq_s hS hR)
    · obtain ⟨j, hj, rfl⟩ := isM_of hw (by omega)
      rw [ix_nI (by omega), ix_nI (by omega), Bool.true_and, if_pos rfl]
      refine ex_zneT rfl (by decide) ?_
      refine ex_go 80 rfl ?_
      refine ex_cvx rfl rfl rfl rfl hM rfl (d' := 0) (by omega) (c_starts hM hS hR.1) ?_
      rintro v1 h1 ⟨rfl, hA1, hB1⟩
      have hM1 := hB1.mo hM (by decide)
      have eb : ∀ k, k < n → (tb n f i).testBit k = decide (f (5 * k + 3) = i) := fun k hk => by unfold tb; rw [bs_bit, decide_eq_true hk, Bool.true_and]
      have e10 : 10 ^ pc8 (tb n f i) = pd (fun k => if decide (f (5 * k + 3) = i) = true then 10 else 1) n := by rw [pd_pow (fun k => decide (f (5 * k + 3) = i)), ← pc8_bs _ hn]; rfl
      have hp := Nat.le_trans (pd_le (by decide) (fun k _ => cf_le n f (tb n f i) 0 k)) (pow10_lt hn)
      have hq := pow10_lt (pc8_le (tb n f i))
      have hq0 : 0 < 10 ^ pc8 (tb n f i) := Nat.pow_pos (by decide)
      rw [e10] at *
      refine ex_go 80 rfl ?_
      refine ev_loop n (fun k => ev_X scr d cd_X6_calm 16 [.ref 57, .int (nI i), .int (nI j), .long (lN (pd (cf n f (tb n f i) 0) k)), .double 0, .long (lN (pd (fun k => if decide (f (5 * k + 3) = i) = true then 10 else 1) k)), .double 0, .int (nI k), .float 0] [] h1 _) (fun k hk K => ?_) ?_
      · have hol := od_le n f k
        rw [pd, pd, cf, eb k hk] at K
        refine ex_nop rfl ?_
        refine ex_go 80 rfl ?_
        refine ex_getf rfl hM1 rfl rfl ?_
        refine ex_igeF rfl (nI_ge hk (by omega)) ?_
        refine ex_go 80 rfl ?_
        refine ex_cv rfl rfl rfl rfl hM1 rfl (d' := 0) (by omega) (c_of3 hM1 hA1 (by omega)) ?_
        refine ex_go 80 rfl ?_
        refine ex_ineM 1 2 30 (v := nI (tb_b (decide (f (5 * k + 3) = i)))) rfl rfl rfl (if10 (tv_eq hi)) ?_
        refine ex_go 80 rfl ?_
        by_cases c : f (5 * k + 3) = i
        · rw [decide_eq_true c, if_pos rfl, if_neg (by rw [Nat.zero_testBit]; decide), if_pos rfl] at K
          rw [decide_eq_true c]
          refine ex_zeqF rfl (by decide) ?_
          refine ex_go 80 rfl ?_
          refine ex_cv rfl rfl rfl rfl hM1 rfl (d' := 1) (by omega) (c_oddsOf hM1 hA1 g hk (Nat.le_refl _)) ?_
          refine ex_go 80 rfl ?_
          dsimp only
          rw [show (10 : Int32) = nI 10 from rfl, pk_sub (by omega), nI_l (by omega), lN_mul]
          refine ex_zeqF rfl (by decide) ?_
          refine ex_go 80 rfl ?_
          dsimp only
          rw [show (10 : Int64) = lN 10 from rfl, lN_mul, nI_inc]
          exact ex_weak (K) (by repeat (first | exact W_n | refine W_e ?_ | refine W_i ?_ | refine W_r ?_))
        · rw [decide_eq_false c, if_neg (by decide), if_neg (by decide)] at K
          rw [decide_eq_false c]
          refine ex_zeqT rfl (by decide) ?_
          refine ex_go 80 rfl ?_
          dsimp only
          rw [show (1 : Int64) = lN 1 from rfl, lN_mul]
          refine ex_zeqT rfl (by decide) ?_
          refine ex_go 80 rfl ?_
          dsimp only
          rw [show (1 : Int64) = lN 1 from rfl, lN_mul, nI_inc]
          exact ex_weak (K) (by repeat (first | exact W_n | refine W_e ?_ | refine W_i ?_ | refine W_r ?_))
      · refine ex_nop rfl ?_
        refine ex_go 80 rfl ?_
        refine ex_getf rfl hM1 rfl rfl ?_
        refine ex_igeT rfl (nI_le (Nat.le_refl _) (by first | omega | decide)) ?_
        refine ex_go 80 rfl ?_
        refine ex_cs rfl rfl rfl (d' := 1) (by omega) (c_told (p := pd (cf n f (tb n f i) 0) n) (by omega) (by omega) hq0 hj (Nat.le_refl _)) ?_
        exact ex_lret rfl (rq_9 hS hR hB1 hA1)
end YEARS
end
section
theorem law_run (scr : List Int32) (hs : scr.length ≤ 320) : ∃ h', List.length h' ≤ 1000 ∧ ev_V scr 60 cd_L_law 0 [.retAddr 0, .float 0, .float 0, .float 0] [] [] (some (.int 1), h') := by
  sorry
/-- from the entry, for every script of at most 320 ints, the law comes to its end with true -/
theorem whole_start {p : Program} {e : Env} {s : State} {m : MethodId} {below : List Frame} {meth : Method} {c : Code} (l : Launch) {b L : Nat} {xs : Nat → Int32} (hL : L ≤ 320) (C0 : lw_At p s m meth c b L xs) : W p l e room_1 s m #[Value.ref b] below meth c s.heap [] 0 0 (lw_Z below #[Value.ref b] s) (entryFrame m ([Value.ref b] : List Value).toArray 4) :=
  ev_start l C0 (Nat.lt_of_le_of_lt hL (by decide)) (law_run _ (by rw [List.length_map, List.length_range]; exact hL))
-- ===== YOUR PART ENDS =====
set_option maxHeartbeats 4000000 in
theorem lw_walk (l : Launch) (b : Addr) (xs : List Int32) : MetFree l x (headSpec (Jvm.Cond.code x code maxLocals ret :: tables_1) room_1) (lw_P b xs) (fun _ _ _ _ _ => True) lw_Q := by
  refine MetFree.of_bodyS (code := code) (maxLocals := maxLocals) (ret := ret) (by decide) ?_ ?_
  · intro args s m h hn
    obtain ⟨meth, c, h1, h2, h3, h4, h5, h6, -, -⟩ := Cond.code_spec hn (atoms_spec (ws := Jvm.Cond.code x code maxLocals ret :: tables_1) h _ List.mem_cons_self)
    exact ⟨meth, c, h1, h2, h3, h4, h5, h6⟩
  · intro p e s m args below meth c s₁ B hml0 hP _
    obtain ⟨rfl, hx, hbd, hgv⟩ := hP
    obtain ⟨scr, harrAt, hlist, hof, hsmall⟩ := hx
    obtain ⟨hcb, hkn, -, -⟩ := State.arrayAt?_spec harrAt
    have hown : s.vm.findClass R_law = some m.cls := findClass_of_methodNamed B.named
    have hts0 : ∀ c ∈ (Jvm.Cond.code x code maxLocals ret :: tables_1), c.before #[Value.ref b] s = true := atoms_spec (ws := Jvm.Cond.code x code maxLocals ret :: tables_1) B.pre
    have hts : ∀ w ∈ lw_tbl, w.before #[Value.ref b] s = true := k2_hts_sels lw_privs (fun w hw => hts0 w (List.mem_cons_of_mem _ hw)) lw_privs_ok
    have hml : c.maxLocals = 4 := B.maxLocals_eq (hts0 _ List.mem_cons_self)
    have X₀ : Stand p l e room_1 s m #[Value.ref b] below meth c s₁ [] 0 0 := Stand.of_body B
    have hh0 : s₁.heap = s.heap := by rw [B.state]; rfl
    have hsz : scr.slots.size = xs.length := by rw [← Array.length_toList, hlist, List.length_map]
    have hval : ∀ j : Nat, j < xs.length → scr.slots[j]? = some (.int (xs.getD j 0)) := fun j hj => by
      rw [← Array.getElem?_toList, hlist]
      simp [hj]
    have hbl : b < s.heap.size := (Array.getElem?_eq_some_iff.mp hcb).1
    have hX : va_X b xs.length (fun j => xs.getD j 0) s s.heap := ⟨scr, hcb, hof, hkn, hsz, hval⟩
    have K : W p l e room_1 s m #[Value.ref b] below meth c s₁.heap [] 0 0 (lw_Z below #[Value.ref b] s) (entryFrame m ([Value.ref b] : List Value).toArray 4) := by
      rw [hh0]
      exact whole_start l hbd ⟨B.exec, B.bytes, B.returns, hml, hown, hts, hX, hbl, B.notSynchronized, hgv⟩
    obtain ⟨t, a1, o, b1, b2, b3⟩ := K s₁ rfl X₀
    exact ⟨t, o, a1, b1, b2, b3⟩
theorem lw_pre_spec {args : Array Value} {s : State} (h : (Jvm.Cond.and given_1 narrow_1).before args s = true) (hr : rest_1_c.before args s = true) : ∃ (b : Addr) (xs : List Int32), lw_P b xs args s := by
  have hs := flat_of_before _ h
  have hq := flat_of_before _ hr
  have hc : (Cond.count 1).before args s = true := hs _ (by decide +kernel)
  have harr : (Cond.arrayOf (.arg 0) .int).before args s = true := hs _ (by decide +kernel)
  have hle : (Cond.le (.length (.arg 0)) (.int 320)).before args s = true := hs _ (by decide +kernel)
  have hlen : (Cond.isInt (.length (.arg 0))).before args s = true := hq _ (by decide +kernel)
  have hall : (Cond.all (.arg 0) (.isInt (.elem (.arg 0) (.index 0)))).before args s = true := hq _ (by decide +kernel)
  obtain ⟨b, xs, hb, hx⟩ := State.ints_of_pre rfl harr hlen hall
  have hsm : xs.length < 2 ^ 31 := hx.choose_spec.2.2.2
  have hev : (Term.length (.arg 0)).eval args s none [] s = some (.int xs.length.toInt32) := hx.length_eval hb
  have hv := Cond.le_ints hev (show (Term.int 320).eval args s none [] s = some (.int 320) from rfl)
  have hd : xs.length.toInt32 ≤ 320 := by
    simpa [Cond.before, Cond.holds, hv] using hle
  have hN : xs.length ≤ 320 := (Int32.ofNat_le_ofNat hsm (by decide)).mp (show Int32.ofNat xs.length ≤ Int32.ofNat 320 from hd)
  exact ⟨b, xs, Cond.one_arg hc (show args[0]? = some (.ref b) from hb), hx, hN, h⟩
theorem lw_comes (l : Launch) : Comes l x (Jvm.Cond.code x code maxLocals ret :: tables_1) room_1 (fun tb e args s => Calls_1 tb e args s ∧ rest_1 tb e args s ∧ Pre_1 tb e args s)
    (fun _ _ args s o t => lw_Q args s o t) := by
  intro p e ha hc hk s m args below hf hfit hheap happ hpre
  obtain ⟨b, xs, hP⟩ := lw_pre_spec hpre.2.2 hpre.2.1
  obtain ⟨k, o, h1, h2, h3, hQ⟩ := lw_walk l b xs p e ha hc hk s m args below hf ((Spec.applies_iff_loose hf).mp happ).1 hP trivial
  exact ⟨k, o, h1, h2, h3, hQ⟩
theorem lw_frame {s t : State} {o : Outcome} {args : Array Value} (h : Framed s o t [] 600000 7302250) :
    Framed s o t (fieldLocs frame_1_writes args s ++ arrayLocs frame_1_arrays args s ++ staticLocs frame_1_statics s) 600000 7302250 := h
theorem lw_limb (L : Cond) (hL : ∀ (args : Array Value) (s t : State), L.after args s (.returned (some (.int 1))) t = true) :
    ArmFor flags0 classFile x code maxLocals ret World_1 tables_1 room_1 Calls_1 rest_1 Pre_1
      (fun tb e a s o t => postC L tb e a s o t ∧ Framed s o t (fieldLocs frame_1_writes a s ++ arrayLocs frame_1_arrays a s ++ staticLocs frame_1_statics s) 600000 7302250) := by
  intro l _ _ _ p e ha hc hk s m args below hf hfit hheap happ hpre
  obtain ⟨k, o, h1, h2, h3, rfl, hF⟩ := lw_comes l p e ha hc hk s m args below hf hfit hheap happ hpre
  exact ⟨k, _, h1, h2, h3, hL args s _, lw_frame hF⟩
theorem i_vc : Claimed_1_1 ∧ Claimed_1_2 := ⟨lw_limb limb_1_1 (fun args s t => by simp [limb_1_1, Cond.after, Cond.holds, Cond.value]), lw_limb limb_1_2 (fun args s t => Cond.after_iff.mpr (by
  first | (rw [show limb_1_2 = Cond.eq .result (.int 1) from rfl, Cond.eq_ints (x := 1) (y := 1) rfl rfl]; simp; done) | (simp [limb_1_2, Cond.value, Term.eval]; done)))⟩
end
