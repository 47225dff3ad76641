-- ===== PART A: goes FIRST, ahead of the names: the tables' words, and 'selects' of the private methods out of them =====
/-- a private method of a class that the tables say can be made, by its rows of tables_1 -/
def lw_okq (q : MethodName × Nat) : Prop := (q.1.cls ≠ "java/lang/invoke/MethodHandle" ∧ q.1.cls ≠ "java/lang/invoke/VarHandle") ∧ Cond.instantiable q.1.cls q.2 ∈ tables_1 ∧ Cond.privateMethod q.1 ∈ tables_1 ∧ Cond.instanceMethod q.1 ∈ tables_1
theorem lw_p0 : lw_okq (⟨"TokenNets$Net", "carry", "(I)V"⟩, 7) := ⟨⟨by decide +kernel, by decide +kernel⟩, List.mem_of_getElem? (i := 24) (by decide +kernel), List.mem_of_getElem? (i := 326) (by decide +kernel), List.mem_of_getElem? (i := 327) (by decide +kernel)⟩
theorem lw_p1 : lw_okq (⟨"TokenNets$Sums", "hasCoveredPart", "(I)Z"⟩, 8) := ⟨⟨by decide +kernel, by decide +kernel⟩, List.mem_of_getElem? (i := 102) (by decide +kernel), List.mem_of_getElem? (i := 439) (by decide +kernel), List.mem_of_getElem? (i := 440) (by decide +kernel)⟩
theorem lw_p2 : lw_okq (⟨"TokenNets$Sums", "canBalance", "(II)Z"⟩, 8) := ⟨⟨by decide +kernel, by decide +kernel⟩, List.mem_of_getElem? (i := 102) (by decide +kernel), List.mem_of_getElem? (i := 446) (by decide +kernel), List.mem_of_getElem? (i := 447) (by decide +kernel)⟩
theorem lw_p3 : lw_okq (⟨"TokenNets$Sums", "keep", "()V"⟩, 8) := ⟨⟨by decide +kernel, by decide +kernel⟩, List.mem_of_getElem? (i := 102) (by decide +kernel), List.mem_of_getElem? (i := 450) (by decide +kernel), List.mem_of_getElem? (i := 451) (by decide +kernel)⟩
theorem lw_p4 : lw_okq (⟨"TokenNets$Sums", "allDividedBy", "(I)Z"⟩, 8) := ⟨⟨by decide +kernel, by decide +kernel⟩, List.mem_of_getElem? (i := 102) (by decide +kernel), List.mem_of_getElem? (i := 454) (by decide +kernel), List.mem_of_getElem? (i := 455) (by decide +kernel)⟩
theorem lw_p5 : lw_okq (⟨"TokenNets$Sums", "balance", "(II)V"⟩, 8) := ⟨⟨by decide +kernel, by decide +kernel⟩, List.mem_of_getElem? (i := 102) (by decide +kernel), List.mem_of_getElem? (i := 470) (by decide +kernel), List.mem_of_getElem? (i := 471) (by decide +kernel)⟩
theorem lw_p6 : lw_okq (⟨"TokenNets$Reach", "meet", "(I)V"⟩, 4) := ⟨⟨by decide +kernel, by decide +kernel⟩, List.mem_of_getElem? (i := 136) (by decide +kernel), List.mem_of_getElem? (i := 519) (by decide +kernel), List.mem_of_getElem? (i := 520) (by decide +kernel)⟩
theorem lw_p7 : lw_okq (⟨"TokenNets$Marks", "isLike", "(I[II)Z"⟩, 7) := ⟨⟨by decide +kernel, by decide +kernel⟩, List.mem_of_getElem? (i := 142) (by decide +kernel), List.mem_of_getElem? (i := 531) (by decide +kernel), List.mem_of_getElem? (i := 532) (by decide +kernel)⟩
theorem lw_p8 : lw_okq (⟨"TokenNets$Reach", "follow", "(I)V"⟩, 4) := ⟨⟨by decide +kernel, by decide +kernel⟩, List.mem_of_getElem? (i := 136) (by decide +kernel), List.mem_of_getElem? (i := 539) (by decide +kernel), List.mem_of_getElem? (i := 540) (by decide +kernel)⟩
theorem lw_p9 : lw_okq (⟨"TokenNets$Tree", "add", "(II)V"⟩, 5) := ⟨⟨by decide +kernel, by decide +kernel⟩, List.mem_of_getElem? (i := 200) (by decide +kernel), List.mem_of_getElem? (i := 567) (by decide +kernel), List.mem_of_getElem? (i := 568) (by decide +kernel)⟩
theorem lw_p10 : lw_okq (⟨"TokenNets$Tree", "follow", "(I)V"⟩, 5) := ⟨⟨by decide +kernel, by decide +kernel⟩, List.mem_of_getElem? (i := 200) (by decide +kernel), List.mem_of_getElem? (i := 573) (by decide +kernel), List.mem_of_getElem? (i := 574) (by decide +kernel)⟩
theorem lw_p11 : lw_okq (⟨"TokenNets$Tree", "outgrow", "(I[I)V"⟩, 5) := ⟨⟨by decide +kernel, by decide +kernel⟩, List.mem_of_getElem? (i := 200) (by decide +kernel), List.mem_of_getElem? (i := 583) (by decide +kernel), List.mem_of_getElem? (i := 584) (by decide +kernel)⟩
theorem lw_p12 : lw_okq (⟨"TokenNets$Pad", "isDigit", "(I)Z"⟩, 2) := ⟨⟨by decide +kernel, by decide +kernel⟩, List.mem_of_getElem? (i := 86) (by decide +kernel), List.mem_of_getElem? (i := 629) (by decide +kernel), List.mem_of_getElem? (i := 630) (by decide +kernel)⟩
theorem lw_p13 : lw_okq (⟨"TokenNets", "carryOrder", "(I)I"⟩, 8) := ⟨⟨by decide +kernel, by decide +kernel⟩, List.mem_of_getElem? (i := 16) (by decide +kernel), List.mem_of_getElem? (i := 652) (by decide +kernel), List.mem_of_getElem? (i := 653) (by decide +kernel)⟩
theorem lw_p14 : lw_okq (⟨"TokenNets", "carryMove", "(II)I"⟩, 8) := ⟨⟨by decide +kernel, by decide +kernel⟩, List.mem_of_getElem? (i := 16) (by decide +kernel), List.mem_of_getElem? (i := 669) (by decide +kernel), List.mem_of_getElem? (i := 670) (by decide +kernel)⟩
theorem lw_p15 : lw_okq (⟨"TokenNetsModel", "whyNoPlace", "(I)I"⟩, 21) := ⟨⟨by decide +kernel, by decide +kernel⟩, List.mem_of_getElem? (i := 699) (by decide +kernel), List.mem_of_getElem? (i := 773) (by decide +kernel), List.mem_of_getElem? (i := 774) (by decide +kernel)⟩
def lw_privs_1 : List (MethodName × Nat) := [(⟨"TokenNets$Net", "carry", "(I)V"⟩, 7), (⟨"TokenNets$Sums", "hasCoveredPart", "(I)Z"⟩, 8), (⟨"TokenNets$Sums", "canBalance", "(II)Z"⟩, 8), (⟨"TokenNets$Sums", "keep", "()V"⟩, 8), (⟨"TokenNets$Sums", "allDividedBy", "(I)Z"⟩, 8), (⟨"TokenNets$Sums", "balance", "(II)V"⟩, 8), (⟨"TokenNets$Reach", "meet", "(I)V"⟩, 4), (⟨"TokenNets$Marks", "isLike", "(I[II)Z"⟩, 7), (⟨"TokenNets$Reach", "follow", "(I)V"⟩, 4), (⟨"TokenNets$Tree", "add", "(II)V"⟩, 5), (⟨"TokenNets$Tree", "follow", "(I)V"⟩, 5), (⟨"TokenNets$Tree", "outgrow", "(I[I)V"⟩, 5), (⟨"TokenNets$Pad", "isDigit", "(I)Z"⟩, 2), (⟨"TokenNets", "carryOrder", "(I)I"⟩, 8), (⟨"TokenNets", "carryMove", "(II)I"⟩, 8), (⟨"TokenNetsModel", "whyNoPlace", "(I)I"⟩, 21)]
theorem lw_r1 : ∀ q ∈ lw_privs_1, lw_okq q := List.forall_mem_cons.mpr ⟨lw_p0, List.forall_mem_cons.mpr ⟨lw_p1, List.forall_mem_cons.mpr ⟨lw_p2, List.forall_mem_cons.mpr ⟨lw_p3, List.forall_mem_cons.mpr ⟨lw_p4, List.forall_mem_cons.mpr ⟨lw_p5, List.forall_mem_cons.mpr ⟨lw_p6, List.forall_mem_cons.mpr ⟨lw_p7, List.forall_mem_cons.mpr ⟨lw_p8, List.forall_mem_cons.mpr ⟨lw_p9, List.forall_mem_cons.mpr ⟨lw_p10, List.forall_mem_cons.mpr ⟨lw_p11, List.forall_mem_cons.mpr ⟨lw_p12, List.forall_mem_cons.mpr ⟨lw_p13, List.forall_mem_cons.mpr ⟨lw_p14, List.forall_mem_cons.mpr ⟨lw_p15, fun _ h => absurd h List.not_mem_nil⟩⟩⟩⟩⟩⟩⟩⟩⟩⟩⟩⟩⟩⟩⟩⟩
theorem lw_p16 : lw_okq (⟨"TokenNetsModel", "record", "()V"⟩, 21) := ⟨⟨by decide +kernel, by decide +kernel⟩, List.mem_of_getElem? (i := 699) (by decide +kernel), List.mem_of_getElem? (i := 780) (by decide +kernel), List.mem_of_getElem? (i := 781) (by decide +kernel)⟩
theorem lw_p17 : lw_okq (⟨"TokenNetsModel", "placed", "(I)I"⟩, 21) := ⟨⟨by decide +kernel, by decide +kernel⟩, List.mem_of_getElem? (i := 699) (by decide +kernel), List.mem_of_getElem? (i := 787) (by decide +kernel), List.mem_of_getElem? (i := 788) (by decide +kernel)⟩
theorem lw_p18 : lw_okq (⟨"TokenNetsModel", "isMove", "(I)Z"⟩, 21) := ⟨⟨by decide +kernel, by decide +kernel⟩, List.mem_of_getElem? (i := 699) (by decide +kernel), List.mem_of_getElem? (i := 799) (by decide +kernel), List.mem_of_getElem? (i := 800) (by decide +kernel)⟩
theorem lw_p19 : lw_okq (⟨"TokenNetsModel", "isPlace", "(I)Z"⟩, 21) := ⟨⟨by decide +kernel, by decide +kernel⟩, List.mem_of_getElem? (i := 699) (by decide +kernel), List.mem_of_getElem? (i := 803) (by decide +kernel), List.mem_of_getElem? (i := 804) (by decide +kernel)⟩
theorem lw_p20 : lw_okq (⟨"TokenNetsModel", "takes", "(II)I"⟩, 21) := ⟨⟨by decide +kernel, by decide +kernel⟩, List.mem_of_getElem? (i := 699) (by decide +kernel), List.mem_of_getElem? (i := 807) (by decide +kernel), List.mem_of_getElem? (i := 808) (by decide +kernel)⟩
theorem lw_p21 : lw_okq (⟨"TokenNetsModel", "gives", "(II)I"⟩, 21) := ⟨⟨by decide +kernel, by decide +kernel⟩, List.mem_of_getElem? (i := 699) (by decide +kernel), List.mem_of_getElem? (i := 811) (by decide +kernel), List.mem_of_getElem? (i := 812) (by decide +kernel)⟩
theorem lw_p22 : lw_okq (⟨"TokenNetsModel", "setArc", "(IIII)V"⟩, 21) := ⟨⟨by decide +kernel, by decide +kernel⟩, List.mem_of_getElem? (i := 699) (by decide +kernel), List.mem_of_getElem? (i := 815) (by decide +kernel), List.mem_of_getElem? (i := 816) (by decide +kernel)⟩
theorem lw_p23 : lw_okq (⟨"TokenNetsModel", "whyNoTokens", "(II)I"⟩, 21) := ⟨⟨by decide +kernel, by decide +kernel⟩, List.mem_of_getElem? (i := 699) (by decide +kernel), List.mem_of_getElem? (i := 823) (by decide +kernel), List.mem_of_getElem? (i := 824) (by decide +kernel)⟩
theorem lw_p24 : lw_okq (⟨"TokenNetsModel", "setTokens", "(II)I"⟩, 21) := ⟨⟨by decide +kernel, by decide +kernel⟩, List.mem_of_getElem? (i := 699) (by decide +kernel), List.mem_of_getElem? (i := 827) (by decide +kernel), List.mem_of_getElem? (i := 828) (by decide +kernel)⟩
theorem lw_p25 : lw_okq (⟨"TokenNetsModel", "whyNotMade", "(I)I"⟩, 21) := ⟨⟨by decide +kernel, by decide +kernel⟩, List.mem_of_getElem? (i := 699) (by decide +kernel), List.mem_of_getElem? (i := 835) (by decide +kernel), List.mem_of_getElem? (i := 836) (by decide +kernel)⟩
theorem lw_p26 : lw_okq (⟨"TokenNetsModel", "canMake", "(I[IIZ)Z"⟩, 21) := ⟨⟨by decide +kernel, by decide +kernel⟩, List.mem_of_getElem? (i := 699) (by decide +kernel), List.mem_of_getElem? (i := 839) (by decide +kernel), List.mem_of_getElem? (i := 840) (by decide +kernel)⟩
theorem lw_p27 : lw_okq (⟨"TokenNetsModel", "makes", "(I)V"⟩, 21) := ⟨⟨by decide +kernel, by decide +kernel⟩, List.mem_of_getElem? (i := 699) (by decide +kernel), List.mem_of_getElem? (i := 844) (by decide +kernel), List.mem_of_getElem? (i := 845) (by decide +kernel)⟩
theorem lw_p28 : lw_okq (⟨"TokenNetsModel", "movesNow", "()I"⟩, 21) := ⟨⟨by decide +kernel, by decide +kernel⟩, List.mem_of_getElem? (i := 699) (by decide +kernel), List.mem_of_getElem? (i := 848) (by decide +kernel), List.mem_of_getElem? (i := 849) (by decide +kernel)⟩
theorem lw_p29 : lw_okq (⟨"TokenNetsModel", "movesBy", "([IIZ)I"⟩, 21) := ⟨⟨by decide +kernel, by decide +kernel⟩, List.mem_of_getElem? (i := 699) (by decide +kernel), List.mem_of_getElem? (i := 852) (by decide +kernel), List.mem_of_getElem? (i := 853) (by decide +kernel)⟩
theorem lw_p30 : lw_okq (⟨"TokenNetsModel", "movesWith", "(IZ)I"⟩, 21) := ⟨⟨by decide +kernel, by decide +kernel⟩, List.mem_of_getElem? (i := 699) (by decide +kernel), List.mem_of_getElem? (i := 874) (by decide +kernel), List.mem_of_getElem? (i := 875) (by decide +kernel)⟩
theorem lw_p31 : lw_okq (⟨"TokenNetsModel", "placesOf", "(IZ)I"⟩, 21) := ⟨⟨by decide +kernel, by decide +kernel⟩, List.mem_of_getElem? (i := 699) (by decide +kernel), List.mem_of_getElem? (i := 882) (by decide +kernel), List.mem_of_getElem? (i := 883) (by decide +kernel)⟩
def lw_privs_2 : List (MethodName × Nat) := [(⟨"TokenNetsModel", "record", "()V"⟩, 21), (⟨"TokenNetsModel", "placed", "(I)I"⟩, 21), (⟨"TokenNetsModel", "isMove", "(I)Z"⟩, 21), (⟨"TokenNetsModel", "isPlace", "(I)Z"⟩, 21), (⟨"TokenNetsModel", "takes", "(II)I"⟩, 21), (⟨"TokenNetsModel", "gives", "(II)I"⟩, 21), (⟨"TokenNetsModel", "setArc", "(IIII)V"⟩, 21), (⟨"TokenNetsModel", "whyNoTokens", "(II)I"⟩, 21), (⟨"TokenNetsModel", "setTokens", "(II)I"⟩, 21), (⟨"TokenNetsModel", "whyNotMade", "(I)I"⟩, 21), (⟨"TokenNetsModel", "canMake", "(I[IIZ)Z"⟩, 21), (⟨"TokenNetsModel", "makes", "(I)V"⟩, 21), (⟨"TokenNetsModel", "movesNow", "()I"⟩, 21), (⟨"TokenNetsModel", "movesBy", "([IIZ)I"⟩, 21), (⟨"TokenNetsModel", "movesWith", "(IZ)I"⟩, 21), (⟨"TokenNetsModel", "placesOf", "(IZ)I"⟩, 21)]
theorem lw_r2 : ∀ q ∈ lw_privs_2, lw_okq q := List.forall_mem_cons.mpr ⟨lw_p16, List.forall_mem_cons.mpr ⟨lw_p17, List.forall_mem_cons.mpr ⟨lw_p18, List.forall_mem_cons.mpr ⟨lw_p19, List.forall_mem_cons.mpr ⟨lw_p20, List.forall_mem_cons.mpr ⟨lw_p21, List.forall_mem_cons.mpr ⟨lw_p22, List.forall_mem_cons.mpr ⟨lw_p23, List.forall_mem_cons.mpr ⟨lw_p24, List.forall_mem_cons.mpr ⟨lw_p25, List.forall_mem_cons.mpr ⟨lw_p26, List.forall_mem_cons.mpr ⟨lw_p27, List.forall_mem_cons.mpr ⟨lw_p28, List.forall_mem_cons.mpr ⟨lw_p29, List.forall_mem_cons.mpr ⟨lw_p30, List.forall_mem_cons.mpr ⟨lw_p31, fun _ h => absurd h List.not_mem_nil⟩⟩⟩⟩⟩⟩⟩⟩⟩⟩⟩⟩⟩⟩⟩⟩
theorem lw_p32 : lw_okq (⟨"TokenNetsModel", "gain", "(I)I"⟩, 21) := ⟨⟨by decide +kernel, by decide +kernel⟩, List.mem_of_getElem? (i := 699) (by decide +kernel), List.mem_of_getElem? (i := 886) (by decide +kernel), List.mem_of_getElem? (i := 887) (by decide +kernel)⟩
theorem lw_p33 : lw_okq (⟨"TokenNetsModel", "allTokens", "()I"⟩, 21) := ⟨⟨by decide +kernel, by decide +kernel⟩, List.mem_of_getElem? (i := 699) (by decide +kernel), List.mem_of_getElem? (i := 898) (by decide +kernel), List.mem_of_getElem? (i := 899) (by decide +kernel)⟩
theorem lw_p34 : lw_okq (⟨"TokenNetsModel", "allMade", "()I"⟩, 21) := ⟨⟨by decide +kernel, by decide +kernel⟩, List.mem_of_getElem? (i := 699) (by decide +kernel), List.mem_of_getElem? (i := 902) (by decide +kernel), List.mem_of_getElem? (i := 903) (by decide +kernel)⟩
theorem lw_p35 : lw_okq (⟨"TokenNetsModel", "goTo", "(I)I"⟩, 21) := ⟨⟨by decide +kernel, by decide +kernel⟩, List.mem_of_getElem? (i := 699) (by decide +kernel), List.mem_of_getElem? (i := 940) (by decide +kernel), List.mem_of_getElem? (i := 941) (by decide +kernel)⟩
theorem lw_p36 : lw_okq (⟨"TokenNetsModel", "findSets", "()V"⟩, 21) := ⟨⟨by decide +kernel, by decide +kernel⟩, List.mem_of_getElem? (i := 699) (by decide +kernel), List.mem_of_getElem? (i := 944) (by decide +kernel), List.mem_of_getElem? (i := 945) (by decide +kernel)⟩
theorem lw_p37 : lw_okq (⟨"TokenNetsModel", "codes", "()I"⟩, 21) := ⟨⟨by decide +kernel, by decide +kernel⟩, List.mem_of_getElem? (i := 699) (by decide +kernel), List.mem_of_getElem? (i := 948) (by decide +kernel), List.mem_of_getElem? (i := 949) (by decide +kernel)⟩
theorem lw_p38 : lw_okq (⟨"TokenNetsModel", "takeWeights", "(I)V"⟩, 21) := ⟨⟨by decide +kernel, by decide +kernel⟩, List.mem_of_getElem? (i := 699) (by decide +kernel), List.mem_of_getElem? (i := 952) (by decide +kernel), List.mem_of_getElem? (i := 953) (by decide +kernel)⟩
theorem lw_p39 : lw_okq (⟨"TokenNetsModel", "areKept", "()Z"⟩, 21) := ⟨⟨by decide +kernel, by decide +kernel⟩, List.mem_of_getElem? (i := 699) (by decide +kernel), List.mem_of_getElem? (i := 956) (by decide +kernel), List.mem_of_getElem? (i := 957) (by decide +kernel)⟩
theorem lw_p40 : lw_okq (⟨"TokenNetsModel", "weighed", "()I"⟩, 21) := ⟨⟨by decide +kernel, by decide +kernel⟩, List.mem_of_getElem? (i := 699) (by decide +kernel), List.mem_of_getElem? (i := 960) (by decide +kernel), List.mem_of_getElem? (i := 961) (by decide +kernel)⟩
theorem lw_p41 : lw_okq (⟨"TokenNetsModel", "areSmallest", "()Z"⟩, 21) := ⟨⟨by decide +kernel, by decide +kernel⟩, List.mem_of_getElem? (i := 699) (by decide +kernel), List.mem_of_getElem? (i := 964) (by decide +kernel), List.mem_of_getElem? (i := 965) (by decide +kernel)⟩
theorem lw_p42 : lw_okq (⟨"TokenNetsModel", "areDivided", "(I)Z"⟩, 21) := ⟨⟨by decide +kernel, by decide +kernel⟩, List.mem_of_getElem? (i := 699) (by decide +kernel), List.mem_of_getElem? (i := 968) (by decide +kernel), List.mem_of_getElem? (i := 969) (by decide +kernel)⟩
theorem lw_p43 : lw_okq (⟨"TokenNetsModel", "greatest", "(IZ)I"⟩, 21) := ⟨⟨by decide +kernel, by decide +kernel⟩, List.mem_of_getElem? (i := 699) (by decide +kernel), List.mem_of_getElem? (i := 977) (by decide +kernel), List.mem_of_getElem? (i := 978) (by decide +kernel)⟩
theorem lw_p44 : lw_okq (⟨"TokenNetsModel", "leaves", "(IIZ)Z"⟩, 21) := ⟨⟨by decide +kernel, by decide +kernel⟩, List.mem_of_getElem? (i := 699) (by decide +kernel), List.mem_of_getElem? (i := 981) (by decide +kernel), List.mem_of_getElem? (i := 982) (by decide +kernel)⟩
theorem lw_p45 : lw_okq (⟨"TokenNetsModel", "tokensIn", "(I)I"⟩, 21) := ⟨⟨by decide +kernel, by decide +kernel⟩, List.mem_of_getElem? (i := 699) (by decide +kernel), List.mem_of_getElem? (i := 985) (by decide +kernel), List.mem_of_getElem? (i := 986) (by decide +kernel)⟩
theorem lw_p46 : lw_okq (⟨"TokenNetsModel", "findReached", "()Z"⟩, 21) := ⟨⟨by decide +kernel, by decide +kernel⟩, List.mem_of_getElem? (i := 699) (by decide +kernel), List.mem_of_getElem? (i := 993) (by decide +kernel), List.mem_of_getElem? (i := 994) (by decide +kernel)⟩
theorem lw_p47 : lw_okq (⟨"TokenNetsModel", "begins", "()V"⟩, 21) := ⟨⟨by decide +kernel, by decide +kernel⟩, List.mem_of_getElem? (i := 699) (by decide +kernel), List.mem_of_getElem? (i := 997) (by decide +kernel), List.mem_of_getElem? (i := 998) (by decide +kernel)⟩
def lw_privs_3 : List (MethodName × Nat) := [(⟨"TokenNetsModel", "gain", "(I)I"⟩, 21), (⟨"TokenNetsModel", "allTokens", "()I"⟩, 21), (⟨"TokenNetsModel", "allMade", "()I"⟩, 21), (⟨"TokenNetsModel", "goTo", "(I)I"⟩, 21), (⟨"TokenNetsModel", "findSets", "()V"⟩, 21), (⟨"TokenNetsModel", "codes", "()I"⟩, 21), (⟨"TokenNetsModel", "takeWeights", "(I)V"⟩, 21), (⟨"TokenNetsModel", "areKept", "()Z"⟩, 21), (⟨"TokenNetsModel", "weighed", "()I"⟩, 21), (⟨"TokenNetsModel", "areSmallest", "()Z"⟩, 21), (⟨"TokenNetsModel", "areDivided", "(I)Z"⟩, 21), (⟨"TokenNetsModel", "greatest", "(IZ)I"⟩, 21), (⟨"TokenNetsModel", "leaves", "(IIZ)Z"⟩, 21), (⟨"TokenNetsModel", "tokensIn", "(I)I"⟩, 21), (⟨"TokenNetsModel", "findReached", "()Z"⟩, 21), (⟨"TokenNetsModel", "begins", "()V"⟩, 21)]
theorem lw_r3 : ∀ q ∈ lw_privs_3, lw_okq q := List.forall_mem_cons.mpr ⟨lw_p32, List.forall_mem_cons.mpr ⟨lw_p33, List.forall_mem_cons.mpr ⟨lw_p34, List.forall_mem_cons.mpr ⟨lw_p35, List.forall_mem_cons.mpr ⟨lw_p36, List.forall_mem_cons.mpr ⟨lw_p37, List.forall_mem_cons.mpr ⟨lw_p38, List.forall_mem_cons.mpr ⟨lw_p39, List.forall_mem_cons.mpr ⟨lw_p40, List.forall_mem_cons.mpr ⟨lw_p41, List.forall_mem_cons.mpr ⟨lw_p42, List.forall_mem_cons.mpr ⟨lw_p43, List.forall_mem_cons.mpr ⟨lw_p44, List.forall_mem_cons.mpr ⟨lw_p45, List.forall_mem_cons.mpr ⟨lw_p46, List.forall_mem_cons.mpr ⟨lw_p47, fun _ h => absurd h List.not_mem_nil⟩⟩⟩⟩⟩⟩⟩⟩⟩⟩⟩⟩⟩⟩⟩⟩
theorem lw_p48 : lw_okq (⟨"TokenNetsModel", "keepTried", "(II)V"⟩, 21) := ⟨⟨by decide +kernel, by decide +kernel⟩, List.mem_of_getElem? (i := 699) (by decide +kernel), List.mem_of_getElem? (i := 1001) (by decide +kernel), List.mem_of_getElem? (i := 1002) (by decide +kernel)⟩
theorem lw_p49 : lw_okq (⟨"TokenNetsModel", "tries", "(II)V"⟩, 21) := ⟨⟨by decide +kernel, by decide +kernel⟩, List.mem_of_getElem? (i := 699) (by decide +kernel), List.mem_of_getElem? (i := 1005) (by decide +kernel), List.mem_of_getElem? (i := 1006) (by decide +kernel)⟩
theorem lw_p50 : lw_okq (⟨"TokenNetsModel", "markAt", "(II)I"⟩, 21) := ⟨⟨by decide +kernel, by decide +kernel⟩, List.mem_of_getElem? (i := 699) (by decide +kernel), List.mem_of_getElem? (i := 1009) (by decide +kernel), List.mem_of_getElem? (i := 1010) (by decide +kernel)⟩
theorem lw_p51 : lw_okq (⟨"TokenNetsModel", "wasFound", "()Z"⟩, 21) := ⟨⟨by decide +kernel, by decide +kernel⟩, List.mem_of_getElem? (i := 699) (by decide +kernel), List.mem_of_getElem? (i := 1014) (by decide +kernel), List.mem_of_getElem? (i := 1015) (by decide +kernel)⟩
theorem lw_p52 : lw_okq (⟨"TokenNetsModel", "isTriedAt", "(I)Z"⟩, 21) := ⟨⟨by decide +kernel, by decide +kernel⟩, List.mem_of_getElem? (i := 699) (by decide +kernel), List.mem_of_getElem? (i := 1018) (by decide +kernel), List.mem_of_getElem? (i := 1019) (by decide +kernel)⟩
theorem lw_p53 : lw_okq (⟨"TokenNetsModel", "findTree", "()Z"⟩, 21) := ⟨⟨by decide +kernel, by decide +kernel⟩, List.mem_of_getElem? (i := 699) (by decide +kernel), List.mem_of_getElem? (i := 1030) (by decide +kernel), List.mem_of_getElem? (i := 1031) (by decide +kernel)⟩
theorem lw_p54 : lw_okq (⟨"TokenNetsModel", "isRepeated", "(I)Z"⟩, 21) := ⟨⟨by decide +kernel, by decide +kernel⟩, List.mem_of_getElem? (i := 699) (by decide +kernel), List.mem_of_getElem? (i := 1034) (by decide +kernel), List.mem_of_getElem? (i := 1035) (by decide +kernel)⟩
theorem lw_p55 : lw_okq (⟨"TokenNetsModel", "nodeOnWay", "(II)I"⟩, 21) := ⟨⟨by decide +kernel, by decide +kernel⟩, List.mem_of_getElem? (i := 699) (by decide +kernel), List.mem_of_getElem? (i := 1038) (by decide +kernel), List.mem_of_getElem? (i := 1039) (by decide +kernel)⟩
theorem lw_p56 : lw_okq (⟨"TokenNetsModel", "growsBy", "(I)V"⟩, 21) := ⟨⟨by decide +kernel, by decide +kernel⟩, List.mem_of_getElem? (i := 699) (by decide +kernel), List.mem_of_getElem? (i := 1042) (by decide +kernel), List.mem_of_getElem? (i := 1043) (by decide +kernel)⟩
theorem lw_p57 : lw_okq (⟨"TokenNetsModel", "findFault", "()I"⟩, 21) := ⟨⟨by decide +kernel, by decide +kernel⟩, List.mem_of_getElem? (i := 699) (by decide +kernel), List.mem_of_getElem? (i := 1063) (by decide +kernel), List.mem_of_getElem? (i := 1064) (by decide +kernel)⟩
theorem lw_p58 : lw_okq (⟨"TokenNetsModel", "readsOrder", "()Z"⟩, 21) := ⟨⟨by decide +kernel, by decide +kernel⟩, List.mem_of_getElem? (i := 699) (by decide +kernel), List.mem_of_getElem? (i := 1067) (by decide +kernel), List.mem_of_getElem? (i := 1068) (by decide +kernel)⟩
theorem lw_p59 : lw_okq (⟨"TokenNetsModel", "character", "(I)I"⟩, 21) := ⟨⟨by decide +kernel, by decide +kernel⟩, List.mem_of_getElem? (i := 699) (by decide +kernel), List.mem_of_getElem? (i := 1071) (by decide +kernel), List.mem_of_getElem? (i := 1072) (by decide +kernel)⟩
theorem lw_p60 : lw_okq (⟨"TokenNetsModel", "takeNumber", "()I"⟩, 21) := ⟨⟨by decide +kernel, by decide +kernel⟩, List.mem_of_getElem? (i := 699) (by decide +kernel), List.mem_of_getElem? (i := 1075) (by decide +kernel), List.mem_of_getElem? (i := 1076) (by decide +kernel)⟩
theorem lw_p61 : lw_okq (⟨"TokenNetsModel", "takeDigit", "()I"⟩, 21) := ⟨⟨by decide +kernel, by decide +kernel⟩, List.mem_of_getElem? (i := 699) (by decide +kernel), List.mem_of_getElem? (i := 1079) (by decide +kernel), List.mem_of_getElem? (i := 1080) (by decide +kernel)⟩
theorem lw_p62 : lw_okq (⟨"TokenNetsModel", "readsMove", "()Z"⟩, 21) := ⟨⟨by decide +kernel, by decide +kernel⟩, List.mem_of_getElem? (i := 699) (by decide +kernel), List.mem_of_getElem? (i := 1083) (by decide +kernel), List.mem_of_getElem? (i := 1084) (by decide +kernel)⟩
theorem lw_p63 : lw_okq (⟨"TokenNetsModel", "isNext", "(I)Z"⟩, 21) := ⟨⟨by decide +kernel, by decide +kernel⟩, List.mem_of_getElem? (i := 699) (by decide +kernel), List.mem_of_getElem? (i := 1087) (by decide +kernel), List.mem_of_getElem? (i := 1088) (by decide +kernel)⟩
def lw_privs_4 : List (MethodName × Nat) := [(⟨"TokenNetsModel", "keepTried", "(II)V"⟩, 21), (⟨"TokenNetsModel", "tries", "(II)V"⟩, 21), (⟨"TokenNetsModel", "markAt", "(II)I"⟩, 21), (⟨"TokenNetsModel", "wasFound", "()Z"⟩, 21), (⟨"TokenNetsModel", "isTriedAt", "(I)Z"⟩, 21), (⟨"TokenNetsModel", "findTree", "()Z"⟩, 21), (⟨"TokenNetsModel", "isRepeated", "(I)Z"⟩, 21), (⟨"TokenNetsModel", "nodeOnWay", "(II)I"⟩, 21), (⟨"TokenNetsModel", "growsBy", "(I)V"⟩, 21), (⟨"TokenNetsModel", "findFault", "()I"⟩, 21), (⟨"TokenNetsModel", "readsOrder", "()Z"⟩, 21), (⟨"TokenNetsModel", "character", "(I)I"⟩, 21), (⟨"TokenNetsModel", "takeNumber", "()I"⟩, 21), (⟨"TokenNetsModel", "takeDigit", "()I"⟩, 21), (⟨"TokenNetsModel", "readsMove", "()Z"⟩, 21), (⟨"TokenNetsModel", "isNext", "(I)Z"⟩, 21)]
theorem lw_r4 : ∀ q ∈ lw_privs_4, lw_okq q := List.forall_mem_cons.mpr ⟨lw_p48, List.forall_mem_cons.mpr ⟨lw_p49, List.forall_mem_cons.mpr ⟨lw_p50, List.forall_mem_cons.mpr ⟨lw_p51, List.forall_mem_cons.mpr ⟨lw_p52, List.forall_mem_cons.mpr ⟨lw_p53, List.forall_mem_cons.mpr ⟨lw_p54, List.forall_mem_cons.mpr ⟨lw_p55, List.forall_mem_cons.mpr ⟨lw_p56, List.forall_mem_cons.mpr ⟨lw_p57, List.forall_mem_cons.mpr ⟨lw_p58, List.forall_mem_cons.mpr ⟨lw_p59, List.forall_mem_cons.mpr ⟨lw_p60, List.forall_mem_cons.mpr ⟨lw_p61, List.forall_mem_cons.mpr ⟨lw_p62, List.forall_mem_cons.mpr ⟨lw_p63, fun _ h => absurd h List.not_mem_nil⟩⟩⟩⟩⟩⟩⟩⟩⟩⟩⟩⟩⟩⟩⟩⟩
theorem lw_p64 : lw_okq (⟨"TokenNetsModel", "takesPlaces", "([I)Z"⟩, 21) := ⟨⟨by decide +kernel, by decide +kernel⟩, List.mem_of_getElem? (i := 699) (by decide +kernel), List.mem_of_getElem? (i := 1091) (by decide +kernel), List.mem_of_getElem? (i := 1092) (by decide +kernel)⟩
theorem lw_p65 : lw_okq (⟨"TokenNetsModel", "whyNotDone", "()I"⟩, 21) := ⟨⟨by decide +kernel, by decide +kernel⟩, List.mem_of_getElem? (i := 699) (by decide +kernel), List.mem_of_getElem? (i := 1099) (by decide +kernel), List.mem_of_getElem? (i := 1100) (by decide +kernel)⟩
theorem lw_p66 : lw_okq (⟨"TokenNetsModel", "does", "()V"⟩, 21) := ⟨⟨by decide +kernel, by decide +kernel⟩, List.mem_of_getElem? (i := 699) (by decide +kernel), List.mem_of_getElem? (i := 1103) (by decide +kernel), List.mem_of_getElem? (i := 1104) (by decide +kernel)⟩
def lw_privs_5 : List (MethodName × Nat) := [(⟨"TokenNetsModel", "takesPlaces", "([I)Z"⟩, 21), (⟨"TokenNetsModel", "whyNotDone", "()I"⟩, 21), (⟨"TokenNetsModel", "does", "()V"⟩, 21)]
theorem lw_r5 : ∀ q ∈ lw_privs_5, lw_okq q := List.forall_mem_cons.mpr ⟨lw_p64, List.forall_mem_cons.mpr ⟨lw_p65, List.forall_mem_cons.mpr ⟨lw_p66, fun _ h => absurd h List.not_mem_nil⟩⟩⟩
def lw_privs : List (MethodName × Nat) := lw_privs_1 ++ (lw_privs_2 ++ (lw_privs_3 ++ (lw_privs_4 ++ (lw_privs_5))))
def lw_tbl : List Cond := k2_sels lw_privs ++ tables_1
theorem lw_privs_ok : ∀ q ∈ lw_privs, lw_okq q := by
  show ∀ q ∈ lw_privs_1 ++ (lw_privs_2 ++ (lw_privs_3 ++ (lw_privs_4 ++ (lw_privs_5)))), lw_okq q
  exact List.forall_mem_append.mpr ⟨lw_r1, List.forall_mem_append.mpr ⟨lw_r2, List.forall_mem_append.mpr ⟨lw_r3, List.forall_mem_append.mpr ⟨lw_r4, lw_r5⟩⟩⟩⟩
/-- the streams that the claim lets the run draw from -/
abbrev lw_cs : List Choice := [Jvm.Choice.named "NaN.bits"]
theorem lw_bits : nanBits ∈ lw_cs := by first | decide | exact List.mem_cons_self | simp [lw_cs, nanBits]
theorem goodIn_r {big : List Cond} (ws : List Cond) (ps : List Nat) (hp : ws = ps.filterMap (fun i => big[i]?)) (h : ws.all goodWord = true) : GoodIn big ws := by
  intro w hw
  have h1 := List.all_eq_true.mp h w hw
  rw [hp] at hw
  obtain ⟨i, -, hi⟩ := List.mem_filterMap.mp hw
  have hm : w ∈ big := by first | exact List.mem_of_getElem? hi | exact List.getElem?_mem hi
  exact ⟨hm, good_of_word h1⟩
theorem goodIn_app {big a b : List Cond} (ha : GoodIn big a) (hb : GoodIn big b) : GoodIn big (a ++ b) := fun w h => (List.mem_append.mp h).elim (ha w) (hb w)
theorem goodIn_ca {big a b : List Cond} {c : Cond} (ha : GoodIn big (c :: a)) (hb : GoodIn big b) : GoodIn big (c :: (a ++ b)) := fun w h => (List.mem_cons.mp h).elim (fun e => ha w (List.mem_cons.mpr (Or.inl e))) (fun h => (List.mem_append.mp h).elim (fun h => ha w (List.mem_cons.mpr (Or.inr h))) (hb w))
theorem goodIn_sub {big ws : List Cond} (hm : ∀ w ∈ ws, w ∈ big) (h : ws.all goodWord = true) : GoodIn big ws := fun w hw => ⟨hm w hw, good_of_word (List.all_eq_true.mp h w hw)⟩
def RX0 : String := "TokenNets$Bits"
def TX0 : u_T := fun k => match k with
  | _ => ("", "", "", false)
def tyX0 : Nat → FieldType := fun k => match k with
  | _ => .int
abbrev wsX00 : List Cond := u_ws RX0 TX0 0
theorem nmX0 : ∀ a, a < 0 → ∀ b, b < 0 → a ≠ b → (TX0 a).2.1 ≠ (TX0 b).2.1 := by decide +kernel
theorem tyX0_ok : ∀ k, k < 0 → parseFieldDescriptor (TX0 k).2.2.1 = some (tyX0 k) := by decide +kernel
abbrev cX0_ofFloat : ByteArray := prog_2_method_2_code
def yX0_ofFloat : MethodName := ⟨RX0, "ofFloat", "(F)I"⟩
abbrev cX0_ofDouble : ByteArray := prog_2_method_3_code
def yX0_ofDouble : MethodName := ⟨RX0, "ofDouble", "(D)J"⟩
def RX1 : String := "TokenNets$History"
def TX1 : u_T := fun k => match k with
  | 0 => ("TokenNets$History", "rows", "[LTokenNets$Net;", true)
  | 1 => ("TokenNets$History", "next", "I", false)
  | _ => ("TokenNets$History", "many", "I", false)
def tyX1 : Nat → FieldType := fun k => match k with
  | 0 => .array (.object "TokenNets$Net")
  | 1 => .int
  | _ => .int
abbrev wsX10 : List Cond := u_ws RX1 TX1 3
theorem nmX1 : ∀ a, a < 3 → ∀ b, b < 3 → a ≠ b → (TX1 a).2.1 ≠ (TX1 b).2.1 := by decide +kernel
theorem tyX1_ok : ∀ k, k < 3 → parseFieldDescriptor (TX1 k).2.2.1 = some (tyX1 k) := by decide +kernel
abbrev cX1_init : ByteArray := prog_3_method_1_code
def yX1_init : MethodName := ⟨RX1, "<init>", "()V"⟩
abbrev cX1_note : ByteArray := prog_3_method_2_code
def yX1_note : MethodName := ⟨RX1, "note", "(LTokenNets$Net;)V"⟩
abbrev cX1_settle : ByteArray := prog_3_method_3_code
def yX1_settle : MethodName := ⟨RX1, "settle", "(I)I"⟩
abbrev cX1_takeBack : ByteArray := prog_3_method_4_code
def yX1_takeBack : MethodName := ⟨RX1, "takeBack", "(LTokenNets$Net;)I"⟩
def RX2 : String := "TokenNets$Marks"
def TX2 : u_T := fun k => match k with
  | 0 => ("TokenNets$Marks", "net", "LTokenNets$Net;", true)
  | 1 => ("TokenNets$Marks", "known", "Z", false)
  | 2 => ("TokenNets$Marks", "rows", "[I", true)
  | 3 => ("TokenNets$Marks", "next", "[I", true)
  | 4 => ("TokenNets$Marks", "many", "I", false)
  | 5 => ("TokenNets$Marks", "tooMany", "Z", false)
  | _ => ("TokenNets$Marks", "possible", "I", false)
def tyX2 : Nat → FieldType := fun k => match k with
  | 0 => .object "TokenNets$Net"
  | 1 => .boolean
  | 2 => .array .int
  | 3 => .array .int
  | 4 => .int
  | 5 => .boolean
  | _ => .int
abbrev wsX20 : List Cond := u_ws RX2 TX2 7
theorem nmX2 : ∀ a, a < 7 → ∀ b, b < 7 → a ≠ b → (TX2 a).2.1 ≠ (TX2 b).2.1 := by decide +kernel
theorem tyX2_ok : ∀ k, k < 7 → parseFieldDescriptor (TX2 k).2.2.1 = some (tyX2 k) := by decide +kernel
abbrev cX2_init : ByteArray := prog_4_method_1_code
def yX2_init : MethodName := ⟨RX2, "<init>", "()V"⟩
abbrev cX2_begins : ByteArray := prog_4_method_2_code
def yX2_begins : MethodName := ⟨RX2, "begins", "(LTokenNets$Net;)Z"⟩
abbrev cX2_leads : ByteArray := prog_4_method_3_code
def yX2_leads : MethodName := ⟨RX2, "leads", "(III)Z"⟩
abbrev cX2_takeIn : ByteArray := prog_4_method_4_code
def yX2_takeIn : MethodName := ⟨RX2, "takeIn", "()Z"⟩
abbrev cX2_isNext : ByteArray := prog_4_method_5_code
def yX2_isNext : MethodName := ⟨RX2, "isNext", "(I)Z"⟩
abbrev cX2_areSame : ByteArray := prog_4_method_6_code
def yX2_areSame : MethodName := ⟨RX2, "areSame", "(II)Z"⟩
abbrev cX2_isLike : ByteArray := prog_4_method_7_code
def yX2_isLike : MethodName := ⟨RX2, "isLike", "(I[II)Z"⟩
def RX3 : String := "TokenNets$Net"
def TX3 : u_T := fun k => match k with
  | 0 => ("TokenNets$Net", "places", "I", false)
  | 1 => ("TokenNets$Net", "moves", "I", false)
  | 2 => ("TokenNets$Net", "tokens", "[I", true)
  | 3 => ("TokenNets$Net", "most", "[I", true)
  | 4 => ("TokenNets$Net", "made", "[I", true)
  | 5 => ("TokenNets$Net", "takes", "[I", true)
  | _ => ("TokenNets$Net", "gives", "[I", true)
def tyX3 : Nat → FieldType := fun k => match k with
  | 0 => .int
  | 1 => .int
  | 2 => .array .int
  | 3 => .array .int
  | 4 => .array .int
  | 5 => .array .int
  | _ => .array .int
abbrev wsX30 : List Cond := u_ws RX3 TX3 7
theorem nmX3 : ∀ a, a < 7 → ∀ b, b < 7 → a ≠ b → (TX3 a).2.1 ≠ (TX3 b).2.1 := by decide +kernel
theorem tyX3_ok : ∀ k, k < 7 → parseFieldDescriptor (TX3 k).2.2.1 = some (tyX3 k) := by decide +kernel
abbrev cX3_init : ByteArray := prog_5_method_1_code
def yX3_init : MethodName := ⟨RX3, "<init>", "()V"⟩
abbrev cX3_copy : ByteArray := prog_5_method_2_code
def yX3_copy : MethodName := ⟨RX3, "copy", "(LTokenNets$Net;)V"⟩
abbrev cX3_sameArcs : ByteArray := prog_5_method_3_code
def yX3_sameArcs : MethodName := ⟨RX3, "sameArcs", "(LTokenNets$Net;)Z"⟩
abbrev cX3_sameMarking : ByteArray := prog_5_method_4_code
def yX3_sameMarking : MethodName := ⟨RX3, "sameMarking", "(LTokenNets$Net;)Z"⟩
abbrev cX3_hasPlace : ByteArray := prog_5_method_5_code
def yX3_hasPlace : MethodName := ⟨RX3, "hasPlace", "(I)Z"⟩
abbrev cX3_hasMove : ByteArray := prog_5_method_6_code
def yX3_hasMove : MethodName := ⟨RX3, "hasMove", "(I)Z"⟩
abbrev cX3_addPlace : ByteArray := prog_5_method_7_code
def yX3_addPlace : MethodName := ⟨RX3, "addPlace", "(I)I"⟩
abbrev cX3_addMove : ByteArray := prog_5_method_8_code
def yX3_addMove : MethodName := ⟨RX3, "addMove", "()I"⟩
abbrev cX3_setArc : ByteArray := prog_5_method_9_code
def yX3_setArc : MethodName := ⟨RX3, "setArc", "(IIII)I"⟩
abbrev cX3_setTokens : ByteArray := prog_5_method_10_code
def yX3_setTokens : MethodName := ⟨RX3, "setTokens", "(II)I"⟩
abbrev cX3_makeOne : ByteArray := prog_5_method_11_code
def yX3_makeOne : MethodName := ⟨RX3, "makeOne", "(I)I"⟩
abbrev cX3_makeBySeed : ByteArray := prog_5_method_12_code
def yX3_makeBySeed : MethodName := ⟨RX3, "makeBySeed", "(II)I"⟩
abbrev cX3_memberAt : ByteArray := prog_5_method_13_code
def yX3_memberAt : MethodName := ⟨RX3, "memberAt", "(II)I"⟩
abbrev cX3_carry : ByteArray := prog_5_method_14_code
def yX3_carry : MethodName := ⟨RX3, "carry", "(I)V"⟩
abbrev cX3_canMake : ByteArray := prog_5_method_15_code
def yX3_canMake : MethodName := ⟨RX3, "canMake", "(I)Z"⟩
abbrev cX3_allows : ByteArray := prog_5_method_16_code
def yX3_allows : MethodName := ⟨RX3, "allows", "([IIII)Z"⟩
abbrev cX3_step : ByteArray := prog_5_method_17_code
def yX3_step : MethodName := ⟨RX3, "step", "([III[I)V"⟩
abbrev cX3_possibleMoves : ByteArray := prog_5_method_18_code
def yX3_possibleMoves : MethodName := ⟨RX3, "possibleMoves", "()I"⟩
abbrev cX3_allTokens : ByteArray := prog_5_method_19_code
def yX3_allTokens : MethodName := ⟨RX3, "allTokens", "()I"⟩
abbrev cX3_tokensIn : ByteArray := prog_5_method_20_code
def yX3_tokensIn : MethodName := ⟨RX3, "tokensIn", "(I)I"⟩
abbrev cX3_allMade : ByteArray := prog_5_method_21_code
def yX3_allMade : MethodName := ⟨RX3, "allMade", "()I"⟩
abbrev cX3_movesAt : ByteArray := prog_5_method_22_code
def yX3_movesAt : MethodName := ⟨RX3, "movesAt", "([II)I"⟩
abbrev cX3_placesOf : ByteArray := prog_5_method_23_code
def yX3_placesOf : MethodName := ⟨RX3, "placesOf", "([II)I"⟩
abbrev cX3_surplus : ByteArray := prog_5_method_24_code
def yX3_surplus : MethodName := ⟨RX3, "surplus", "(I)I"⟩
abbrev cX3_greatestClosed : ByteArray := prog_5_method_25_code
def yX3_greatestClosed : MethodName := ⟨RX3, "greatestClosed", "(I[I[I)I"⟩
def RX4 : String := "TokenNets$Pad"
def TX4 : u_T := fun k => match k with
  | 0 => ("TokenNets$Pad", "signs", "[C", true)
  | _ => ("TokenNets$Pad", "length", "I", false)
def tyX4 : Nat → FieldType := fun k => match k with
  | 0 => .array .char
  | _ => .int
abbrev wsX40 : List Cond := u_ws RX4 TX4 2
theorem nmX4 : ∀ a, a < 2 → ∀ b, b < 2 → a ≠ b → (TX4 a).2.1 ≠ (TX4 b).2.1 := by decide +kernel
theorem tyX4_ok : ∀ k, k < 2 → parseFieldDescriptor (TX4 k).2.2.1 = some (tyX4 k) := by decide +kernel
abbrev cX4_init : ByteArray := prog_6_method_1_code
def yX4_init : MethodName := ⟨RX4, "<init>", "()V"⟩
abbrev cX4_append : ByteArray := prog_6_method_2_code
def yX4_append : MethodName := ⟨RX4, "append", "(J)I"⟩
abbrev cX4_sign : ByteArray := prog_6_method_3_code
def yX4_sign : MethodName := ⟨RX4, "sign", "(I)C"⟩
abbrev cX4_isDigit : ByteArray := prog_6_method_4_code
def yX4_isDigit : MethodName := ⟨RX4, "isDigit", "(I)Z"⟩
abbrev cX4_digit : ByteArray := prog_6_method_5_code
def yX4_digit : MethodName := ⟨RX4, "digit", "(I)I"⟩
abbrev cX4_number : ByteArray := prog_6_method_6_code
def yX4_number : MethodName := ⟨RX4, "number", "(I)I"⟩
abbrev cX4_orderEnd : ByteArray := prog_6_method_7_code
def yX4_orderEnd : MethodName := ⟨RX4, "orderEnd", "(I)I"⟩
abbrev cX4_namesPlace : ByteArray := prog_6_method_8_code
def yX4_namesPlace : MethodName := ⟨RX4, "namesPlace", "(I)Z"⟩
abbrev cX4_times : ByteArray := prog_6_method_9_code
def yX4_times : MethodName := ⟨RX4, "times", "(I)I"⟩
abbrev cX4_firstFault : ByteArray := prog_6_method_10_code
def yX4_firstFault : MethodName := ⟨RX4, "firstFault", "()I"⟩
abbrev cX4_mayEnd : ByteArray := prog_6_method_11_code
def yX4_mayEnd : MethodName := ⟨RX4, "mayEnd", "(I)Z"⟩
abbrev cX4_after : ByteArray := prog_6_method_12_code
def yX4_after : MethodName := ⟨RX4, "after", "(ICZ)I"⟩
abbrev cX4_afterStart : ByteArray := prog_6_method_13_code
def yX4_afterStart : MethodName := ⟨RX4, "afterStart", "(C)I"⟩
abbrev cX4_afterTaken : ByteArray := prog_6_method_14_code
def yX4_afterTaken : MethodName := ⟨RX4, "afterTaken", "(C)I"⟩
abbrev cX4_afterGiven : ByteArray := prog_6_method_15_code
def yX4_afterGiven : MethodName := ⟨RX4, "afterGiven", "(C)I"⟩
def RX5 : String := "TokenNets$Reach"
def TX5 : u_T := fun k => match k with
  | 0 => ("TokenNets$Reach", "marks", "LTokenNets$Marks;", true)
  | 1 => ("TokenNets$Reach", "moves", "[I", true)
  | 2 => ("TokenNets$Reach", "table", "[I", true)
  | _ => ("TokenNets$Reach", "dead", "I", false)
def tyX5 : Nat → FieldType := fun k => match k with
  | 0 => .object "TokenNets$Marks"
  | 1 => .array .int
  | 2 => .array .int
  | _ => .int
abbrev wsX50 : List Cond := u_ws RX5 TX5 4
theorem nmX5 : ∀ a, a < 4 → ∀ b, b < 4 → a ≠ b → (TX5 a).2.1 ≠ (TX5 b).2.1 := by decide +kernel
theorem tyX5_ok : ∀ k, k < 4 → parseFieldDescriptor (TX5 k).2.2.1 = some (tyX5 k) := by decide +kernel
abbrev cX5_init : ByteArray := prog_7_method_1_code
def yX5_init : MethodName := ⟨RX5, "<init>", "()V"⟩
abbrev cX5_find : ByteArray := prog_7_method_2_code
def yX5_find : MethodName := ⟨RX5, "find", "(LTokenNets$Net;)V"⟩
abbrev cX5_follow : ByteArray := prog_7_method_3_code
def yX5_follow : MethodName := ⟨RX5, "follow", "(I)V"⟩
abbrev cX5_meet : ByteArray := prog_7_method_4_code
def yX5_meet : MethodName := ⟨RX5, "meet", "(I)V"⟩
abbrev cX5_hash : ByteArray := prog_7_method_5_code
def yX5_hash : MethodName := ⟨RX5, "hash", "([I)I"⟩
abbrev cX5_fewestMoves : ByteArray := prog_7_method_6_code
def yX5_fewestMoves : MethodName := ⟨RX5, "fewestMoves", "(II)I"⟩
def RX6 : String := "TokenNets$Sums"
def TX6 : u_T := fun k => match k with
  | 0 => ("TokenNets$Sums", "seen", "LTokenNets$Net;", true)
  | 1 => ("TokenNets$Sums", "known", "Z", false)
  | 2 => ("TokenNets$Sums", "gains", "[I", true)
  | 3 => ("TokenNets$Sums", "balances", "[I", true)
  | 4 => ("TokenNets$Sums", "weights", "[I", true)
  | 5 => ("TokenNets$Sums", "covered", "[Z", true)
  | 6 => ("TokenNets$Sums", "found", "[I", false)
  | _ => ("TokenNets$Sums", "many", "I", false)
def tyX6 : Nat → FieldType := fun k => match k with
  | 0 => .object "TokenNets$Net"
  | 1 => .boolean
  | 2 => .array .int
  | 3 => .array .int
  | 4 => .array .int
  | 5 => .array .boolean
  | 6 => .array .int
  | _ => .int
abbrev wsX60 : List Cond := u_ws RX6 TX6 8
theorem nmX6 : ∀ a, a < 8 → ∀ b, b < 8 → a ≠ b → (TX6 a).2.1 ≠ (TX6 b).2.1 := by decide +kernel
theorem tyX6_ok : ∀ k, k < 8 → parseFieldDescriptor (TX6 k).2.2.1 = some (tyX6 k) := by decide +kernel
abbrev cX6_init : ByteArray := prog_8_method_1_code
def yX6_init : MethodName := ⟨RX6, "<init>", "()V"⟩
abbrev cX6_weight : ByteArray := prog_8_method_2_code
def yX6_weight : MethodName := ⟨RX6, "weight", "(II)I"⟩
abbrev cX6_worth : ByteArray := prog_8_method_3_code
def yX6_worth : MethodName := ⟨RX6, "worth", "(I[I)I"⟩
abbrev cX6_find : ByteArray := prog_8_method_4_code
def yX6_find : MethodName := ⟨RX6, "find", "(LTokenNets$Net;)V"⟩
abbrev cX6_hasCoveredPart : ByteArray := prog_8_method_5_code
def yX6_hasCoveredPart : MethodName := ⟨RX6, "hasCoveredPart", "(I)Z"⟩
abbrev cX6_weigh : ByteArray := prog_8_method_6_code
def yX6_weigh : MethodName := ⟨RX6, "weigh", "(LTokenNets$Sums;II)V"⟩
abbrev cX6_balance : ByteArray := prog_8_method_7_code
def yX6_balance : MethodName := ⟨RX6, "balance", "(II)V"⟩
abbrev cX6_canBalance : ByteArray := prog_8_method_8_code
def yX6_canBalance : MethodName := ⟨RX6, "canBalance", "(II)Z"⟩
abbrev cX6_keep : ByteArray := prog_8_method_9_code
def yX6_keep : MethodName := ⟨RX6, "keep", "()V"⟩
abbrev cX6_allDividedBy : ByteArray := prog_8_method_10_code
def yX6_allDividedBy : MethodName := ⟨RX6, "allDividedBy", "(I)Z"⟩
def RX7 : String := "TokenNets$Tree"
def TX7 : u_T := fun k => match k with
  | 0 => ("TokenNets$Tree", "marks", "LTokenNets$Marks;", true)
  | 1 => ("TokenNets$Tree", "above", "[I", true)
  | 2 => ("TokenNets$Tree", "depths", "[I", true)
  | 3 => ("TokenNets$Tree", "path", "[I", true)
  | _ => ("TokenNets$Tree", "deepest", "I", false)
def tyX7 : Nat → FieldType := fun k => match k with
  | 0 => .object "TokenNets$Marks"
  | 1 => .array .int
  | 2 => .array .int
  | 3 => .array .int
  | _ => .int
abbrev wsX70 : List Cond := u_ws RX7 TX7 5
theorem nmX7 : ∀ a, a < 5 → ∀ b, b < 5 → a ≠ b → (TX7 a).2.1 ≠ (TX7 b).2.1 := by decide +kernel
theorem tyX7_ok : ∀ k, k < 5 → parseFieldDescriptor (TX7 k).2.2.1 = some (tyX7 k) := by decide +kernel
abbrev cX7_init : ByteArray := prog_9_method_1_code
def yX7_init : MethodName := ⟨RX7, "<init>", "()V"⟩
abbrev cX7_find : ByteArray := prog_9_method_2_code
def yX7_find : MethodName := ⟨RX7, "find", "(LTokenNets$Net;)V"⟩
abbrev cX7_add : ByteArray := prog_9_method_3_code
def yX7_add : MethodName := ⟨RX7, "add", "(II)V"⟩
abbrev cX7_follow : ByteArray := prog_9_method_4_code
def yX7_follow : MethodName := ⟨RX7, "follow", "(I)V"⟩
abbrev cX7_outgrow : ByteArray := prog_9_method_5_code
def yX7_outgrow : MethodName := ⟨RX7, "outgrow", "(I[I)V"⟩
abbrev cX7_mostTokens : ByteArray := prog_9_method_6_code
def yX7_mostTokens : MethodName := ⟨RX7, "mostTokens", "(I)I"⟩
abbrev cX7_endlessPlaces : ByteArray := prog_9_method_7_code
def yX7_endlessPlaces : MethodName := ⟨RX7, "endlessPlaces", "()I"⟩
def RX8 : String := "TokenNets"
def TX8 : u_T := fun k => match k with
  | 0 => ("TokenNets", "net", "LTokenNets$Net;", true)
  | 1 => ("TokenNets", "history", "LTokenNets$History;", true)
  | 2 => ("TokenNets", "slots", "[LTokenNets$Net;", true)
  | 3 => ("TokenNets", "saved", "[Z", true)
  | 4 => ("TokenNets", "pad", "LTokenNets$Pad;", true)
  | 5 => ("TokenNets", "sums", "LTokenNets$Sums;", true)
  | 6 => ("TokenNets", "reach", "LTokenNets$Reach;", true)
  | _ => ("TokenNets", "tree", "LTokenNets$Tree;", true)
def tyX8 : Nat → FieldType := fun k => match k with
  | 0 => .object "TokenNets$Net"
  | 1 => .object "TokenNets$History"
  | 2 => .array (.object "TokenNets$Net")
  | 3 => .array .boolean
  | 4 => .object "TokenNets$Pad"
  | 5 => .object "TokenNets$Sums"
  | 6 => .object "TokenNets$Reach"
  | _ => .object "TokenNets$Tree"
abbrev wsX80 : List Cond := u_ws RX8 TX8 8
theorem nmX8 : ∀ a, a < 8 → ∀ b, b < 8 → a ≠ b → (TX8 a).2.1 ≠ (TX8 b).2.1 := by decide +kernel
theorem tyX8_ok : ∀ k, k < 8 → parseFieldDescriptor (TX8 k).2.2.1 = some (tyX8 k) := by decide +kernel
abbrev cX8_init : ByteArray := prog_1_method_1_code
def yX8_init : MethodName := ⟨RX8, "<init>", "()V"⟩
abbrev cX8_place : ByteArray := prog_1_method_2_code
def yX8_place : MethodName := ⟨RX8, "place", "(I)I"⟩
abbrev cX8_move : ByteArray := prog_1_method_3_code
def yX8_move : MethodName := ⟨RX8, "move", "()I"⟩
abbrev cX8_arc : ByteArray := prog_1_method_4_code
def yX8_arc : MethodName := ⟨RX8, "arc", "(IIII)I"⟩
abbrev cX8_tokens : ByteArray := prog_1_method_5_code
def yX8_tokens : MethodName := ⟨RX8, "tokens", "(II)I"⟩
abbrev cX8_make : ByteArray := prog_1_method_6_code
def yX8_make : MethodName := ⟨RX8, "make", "(I)I"⟩
abbrev cX8_run : ByteArray := prog_1_method_7_code
def yX8_run : MethodName := ⟨RX8, "run", "(II)I"⟩
abbrev cX8_ofPlace : ByteArray := prog_1_method_8_code
def yX8_ofPlace : MethodName := ⟨RX8, "ofPlace", "(II)I"⟩
abbrev cX8_ofMove : ByteArray := prog_1_method_9_code
def yX8_ofMove : MethodName := ⟨RX8, "ofMove", "(II)I"⟩
abbrev cX8_ofArc : ByteArray := prog_1_method_10_code
def yX8_ofArc : MethodName := ⟨RX8, "ofArc", "(III)I"⟩
abbrev cX8_count : ByteArray := prog_1_method_11_code
def yX8_count : MethodName := ⟨RX8, "count", "(I)I"⟩
abbrev cX8_share : ByteArray := prog_1_method_12_code
def yX8_share : MethodName := ⟨RX8, "share", "(I)I"⟩
abbrev cX8_mean : ByteArray := prog_1_method_13_code
def yX8_mean : MethodName := ⟨RX8, "mean", "(I)J"⟩
abbrev cX8_kept : ByteArray := prog_1_method_14_code
def yX8_kept : MethodName := ⟨RX8, "kept", "(II)I"⟩
abbrev cX8_keptMany : ByteArray := prog_1_method_15_code
def yX8_keptMany : MethodName := ⟨RX8, "keptMany", "()I"⟩
abbrev cX8_trap : ByteArray := prog_1_method_16_code
def yX8_trap : MethodName := ⟨RX8, "trap", "(II)I"⟩
abbrev cX8_reached : ByteArray := prog_1_method_17_code
def yX8_reached : MethodName := ⟨RX8, "reached", "(I)I"⟩
abbrev cX8_fewest : ByteArray := prog_1_method_18_code
def yX8_fewest : MethodName := ⟨RX8, "fewest", "(II)I"⟩
abbrev cX8_growth : ByteArray := prog_1_method_19_code
def yX8_growth : MethodName := ⟨RX8, "growth", "(I)I"⟩
abbrev cX8_bound : ByteArray := prog_1_method_20_code
def yX8_bound : MethodName := ⟨RX8, "bound", "(I)I"⟩
abbrev cX8_put : ByteArray := prog_1_method_21_code
def yX8_put : MethodName := ⟨RX8, "put", "(J)I"⟩
abbrev cX8_wipe : ByteArray := prog_1_method_22_code
def yX8_wipe : MethodName := ⟨RX8, "wipe", "()I"⟩
abbrev cX8_fault : ByteArray := prog_1_method_23_code
def yX8_fault : MethodName := ⟨RX8, "fault", "()I"⟩
abbrev cX8_carryOut : ByteArray := prog_1_method_24_code
def yX8_carryOut : MethodName := ⟨RX8, "carryOut", "()I"⟩
abbrev cX8_carryOrder : ByteArray := prog_1_method_25_code
def yX8_carryOrder : MethodName := ⟨RX8, "carryOrder", "(I)I"⟩
abbrev cX8_carryMove : ByteArray := prog_1_method_26_code
def yX8_carryMove : MethodName := ⟨RX8, "carryMove", "(II)I"⟩
abbrev cX8_undo : ByteArray := prog_1_method_27_code
def yX8_undo : MethodName := ⟨RX8, "undo", "()I"⟩
abbrev cX8_save : ByteArray := prog_1_method_28_code
def yX8_save : MethodName := ⟨RX8, "save", "(I)I"⟩
abbrev cX8_restore : ByteArray := prog_1_method_29_code
def yX8_restore : MethodName := ⟨RX8, "restore", "(I)I"⟩
def RX9 : String := "TokenNetsModel"
def TX9 : u_T := fun k => match k with
  | 0 => ("TokenNetsModel", "state", "[I", true)
  | 1 => ("TokenNetsModel", "history", "[I", true)
  | 2 => ("TokenNetsModel", "recorded", "I", false)
  | 3 => ("TokenNetsModel", "slots", "[I", true)
  | 4 => ("TokenNetsModel", "isSaved", "[I", true)
  | 5 => ("TokenNetsModel", "pad", "[I", true)
  | 6 => ("TokenNetsModel", "padLength", "I", false)
  | 7 => ("TokenNetsModel", "marks", "[I", true)
  | 8 => ("TokenNetsModel", "levels", "[I", true)
  | 9 => ("TokenNetsModel", "above", "[I", true)
  | 10 => ("TokenNetsModel", "found", "I", false)
  | 11 => ("TokenNetsModel", "tried", "[I", true)
  | 12 => ("TokenNetsModel", "weights", "[I", true)
  | 13 => ("TokenNetsModel", "isKept", "[Z", true)
  | 14 => ("TokenNetsModel", "at", "I", false)
  | 15 => ("TokenNetsModel", "letter", "I", false)
  | 16 => ("TokenNetsModel", "first", "I", false)
  | 17 => ("TokenNetsModel", "second", "I", false)
  | 18 => ("TokenNetsModel", "taken", "[I", true)
  | 19 => ("TokenNetsModel", "given", "[I", true)
  | _ => ("TokenNetsModel", "named", "I", false)
def tyX9 : Nat → FieldType := fun k => match k with
  | 0 => .array .int
  | 1 => .array .int
  | 2 => .int
  | 3 => .array .int
  | 4 => .array .int
  | 5 => .array .int
  | 6 => .int
  | 7 => .array .int
  | 8 => .array .int
  | 9 => .array .int
  | 10 => .int
  | 11 => .array .int
  | 12 => .array .int
  | 13 => .array .boolean
  | 14 => .int
  | 15 => .int
  | 16 => .int
  | 17 => .int
  | 18 => .array .int
  | 19 => .array .int
  | _ => .int
abbrev wsX90 : List Cond := u_ws RX9 TX9 21
theorem nmX9 : ∀ a, a < 21 → ∀ b, b < 21 → a ≠ b → (TX9 a).2.1 ≠ (TX9 b).2.1 := by decide +kernel
theorem tyX9_ok : ∀ k, k < 21 → parseFieldDescriptor (TX9 k).2.2.1 = some (tyX9 k) := by decide +kernel
abbrev cX9_init : ByteArray := prog_11_method_1_code
def yX9_init : MethodName := ⟨RX9, "<init>", "()V"⟩
abbrev cX9_moves : ByteArray := prog_11_method_3_code
def yX9_moves : MethodName := ⟨RX9, "moves", "([II[II)V"⟩
abbrev cX9_within : ByteArray := prog_11_method_4_code
def yX9_within : MethodName := ⟨RX9, "within", "(III)Z"⟩
abbrev cX9_record : ByteArray := prog_11_method_5_code
def yX9_record : MethodName := ⟨RX9, "record", "()V"⟩
abbrev cX9_isPlace : ByteArray := prog_11_method_6_code
def yX9_isPlace : MethodName := ⟨RX9, "isPlace", "(I)Z"⟩
abbrev cX9_isMove : ByteArray := prog_11_method_7_code
def yX9_isMove : MethodName := ⟨RX9, "isMove", "(I)Z"⟩
abbrev cX9_takes : ByteArray := prog_11_method_8_code
def yX9_takes : MethodName := ⟨RX9, "takes", "(II)I"⟩
abbrev cX9_gives : ByteArray := prog_11_method_9_code
def yX9_gives : MethodName := ⟨RX9, "gives", "(II)I"⟩
abbrev cX9_canMake : ByteArray := prog_11_method_10_code
def yX9_canMake : MethodName := ⟨RX9, "canMake", "(I[IIZ)Z"⟩
abbrev cX9_movesBy : ByteArray := prog_11_method_11_code
def yX9_movesBy : MethodName := ⟨RX9, "movesBy", "([IIZ)I"⟩
abbrev cX9_movesNow : ByteArray := prog_11_method_12_code
def yX9_movesNow : MethodName := ⟨RX9, "movesNow", "()I"⟩
abbrev cX9_bits : ByteArray := prog_11_method_13_code
def yX9_bits : MethodName := ⟨RX9, "bits", "(I)I"⟩
abbrev cX9_makes : ByteArray := prog_11_method_14_code
def yX9_makes : MethodName := ⟨RX9, "makes", "(I)V"⟩
abbrev cX9_allTokens : ByteArray := prog_11_method_15_code
def yX9_allTokens : MethodName := ⟨RX9, "allTokens", "()I"⟩
abbrev cX9_whyNoPlace : ByteArray := prog_11_method_16_code
def yX9_whyNoPlace : MethodName := ⟨RX9, "whyNoPlace", "(I)I"⟩
abbrev cX9_placed : ByteArray := prog_11_method_17_code
def yX9_placed : MethodName := ⟨RX9, "placed", "(I)I"⟩
abbrev cX9_place : ByteArray := prog_11_method_18_code
def yX9_place : MethodName := ⟨RX9, "place", "(I)I"⟩
abbrev cX9_move : ByteArray := prog_11_method_19_code
def yX9_move : MethodName := ⟨RX9, "move", "()I"⟩
abbrev cX9_setArc : ByteArray := prog_11_method_20_code
def yX9_setArc : MethodName := ⟨RX9, "setArc", "(IIII)V"⟩
abbrev cX9_arc : ByteArray := prog_11_method_21_code
def yX9_arc : MethodName := ⟨RX9, "arc", "(IIII)I"⟩
abbrev cX9_whyNoTokens : ByteArray := prog_11_method_22_code
def yX9_whyNoTokens : MethodName := ⟨RX9, "whyNoTokens", "(II)I"⟩
abbrev cX9_setTokens : ByteArray := prog_11_method_23_code
def yX9_setTokens : MethodName := ⟨RX9, "setTokens", "(II)I"⟩
abbrev cX9_tokens : ByteArray := prog_11_method_24_code
def yX9_tokens : MethodName := ⟨RX9, "tokens", "(II)I"⟩
abbrev cX9_whyNotMade : ByteArray := prog_11_method_25_code
def yX9_whyNotMade : MethodName := ⟨RX9, "whyNotMade", "(I)I"⟩
abbrev cX9_make : ByteArray := prog_11_method_26_code
def yX9_make : MethodName := ⟨RX9, "make", "(I)I"⟩
abbrev cX9_moveAt : ByteArray := prog_11_method_27_code
def yX9_moveAt : MethodName := ⟨RX9, "moveAt", "(II)I"⟩
abbrev cX9_run : ByteArray := prog_11_method_28_code
def yX9_run : MethodName := ⟨RX9, "run", "(II)I"⟩
abbrev cX9_movesWith : ByteArray := prog_11_method_29_code
def yX9_movesWith : MethodName := ⟨RX9, "movesWith", "(IZ)I"⟩
abbrev cX9_placesOf : ByteArray := prog_11_method_30_code
def yX9_placesOf : MethodName := ⟨RX9, "placesOf", "(IZ)I"⟩
abbrev cX9_ofPlace : ByteArray := prog_11_method_31_code
def yX9_ofPlace : MethodName := ⟨RX9, "ofPlace", "(II)I"⟩
abbrev cX9_gain : ByteArray := prog_11_method_32_code
def yX9_gain : MethodName := ⟨RX9, "gain", "(I)I"⟩
abbrev cX9_ofMove : ByteArray := prog_11_method_33_code
def yX9_ofMove : MethodName := ⟨RX9, "ofMove", "(II)I"⟩
abbrev cX9_ofArc : ByteArray := prog_11_method_34_code
def yX9_ofArc : MethodName := ⟨RX9, "ofArc", "(III)I"⟩
abbrev cX9_allMade : ByteArray := prog_11_method_35_code
def yX9_allMade : MethodName := ⟨RX9, "allMade", "()I"⟩
abbrev cX9_count : ByteArray := prog_11_method_36_code
def yX9_count : MethodName := ⟨RX9, "count", "(I)I"⟩
abbrev cX9_joined : ByteArray := prog_11_method_37_code
def yX9_joined : MethodName := ⟨RX9, "joined", "(JJ)J"⟩
abbrev cX9_digitsOf : ByteArray := prog_11_method_38_code
def yX9_digitsOf : MethodName := ⟨RX9, "digitsOf", "(JJI)J"⟩
abbrev cX9_exponentOf : ByteArray := prog_11_method_39_code
def yX9_exponentOf : MethodName := ⟨RX9, "exponentOf", "(JJ)I"⟩
abbrev cX9_share : ByteArray := prog_11_method_40_code
def yX9_share : MethodName := ⟨RX9, "share", "(I)I"⟩
abbrev cX9_leftOver : ByteArray := prog_11_method_41_code
def yX9_leftOver : MethodName := ⟨RX9, "leftOver", "(JI)J"⟩
abbrev cX9_mean : ByteArray := prog_11_method_42_code
def yX9_mean : MethodName := ⟨RX9, "mean", "(I)J"⟩
abbrev cX9_takeWeights : ByteArray := prog_11_method_43_code
def yX9_takeWeights : MethodName := ⟨RX9, "takeWeights", "(I)V"⟩
abbrev cX9_areKept : ByteArray := prog_11_method_44_code
def yX9_areKept : MethodName := ⟨RX9, "areKept", "()Z"⟩
abbrev cX9_weighed : ByteArray := prog_11_method_45_code
def yX9_weighed : MethodName := ⟨RX9, "weighed", "()I"⟩
abbrev cX9_areDivided : ByteArray := prog_11_method_46_code
def yX9_areDivided : MethodName := ⟨RX9, "areDivided", "(I)Z"⟩
abbrev cX9_codes : ByteArray := prog_11_method_47_code
def yX9_codes : MethodName := ⟨RX9, "codes", "()I"⟩
abbrev cX9_findSets : ByteArray := prog_11_method_48_code
def yX9_findSets : MethodName := ⟨RX9, "findSets", "()V"⟩
abbrev cX9_areSmallest : ByteArray := prog_11_method_49_code
def yX9_areSmallest : MethodName := ⟨RX9, "areSmallest", "()Z"⟩
abbrev cX9_goTo : ByteArray := prog_11_method_50_code
def yX9_goTo : MethodName := ⟨RX9, "goTo", "(I)I"⟩
abbrev cX9_kept : ByteArray := prog_11_method_51_code
def yX9_kept : MethodName := ⟨RX9, "kept", "(II)I"⟩
abbrev cX9_keptMany : ByteArray := prog_11_method_52_code
def yX9_keptMany : MethodName := ⟨RX9, "keptMany", "()I"⟩
abbrev cX9_leaves : ByteArray := prog_11_method_53_code
def yX9_leaves : MethodName := ⟨RX9, "leaves", "(IIZ)Z"⟩
abbrev cX9_greatest : ByteArray := prog_11_method_54_code
def yX9_greatest : MethodName := ⟨RX9, "greatest", "(IZ)I"⟩
abbrev cX9_tokensIn : ByteArray := prog_11_method_55_code
def yX9_tokensIn : MethodName := ⟨RX9, "tokensIn", "(I)I"⟩
abbrev cX9_trap : ByteArray := prog_11_method_56_code
def yX9_trap : MethodName := ⟨RX9, "trap", "(II)I"⟩
abbrev cX9_markAt : ByteArray := prog_11_method_57_code
def yX9_markAt : MethodName := ⟨RX9, "markAt", "(II)I"⟩
abbrev cX9_tries : ByteArray := prog_11_method_58_code
def yX9_tries : MethodName := ⟨RX9, "tries", "(II)V"⟩
abbrev cX9_isTriedAt : ByteArray := prog_11_method_59_code
def yX9_isTriedAt : MethodName := ⟨RX9, "isTriedAt", "(I)Z"⟩
abbrev cX9_wasFound : ByteArray := prog_11_method_60_code
def yX9_wasFound : MethodName := ⟨RX9, "wasFound", "()Z"⟩
abbrev cX9_keepTried : ByteArray := prog_11_method_61_code
def yX9_keepTried : MethodName := ⟨RX9, "keepTried", "(II)V"⟩
abbrev cX9_begins : ByteArray := prog_11_method_62_code
def yX9_begins : MethodName := ⟨RX9, "begins", "()V"⟩
abbrev cX9_findReached : ByteArray := prog_11_method_63_code
def yX9_findReached : MethodName := ⟨RX9, "findReached", "()Z"⟩
abbrev cX9_reached : ByteArray := prog_11_method_64_code
def yX9_reached : MethodName := ⟨RX9, "reached", "(I)I"⟩
abbrev cX9_fewest : ByteArray := prog_11_method_65_code
def yX9_fewest : MethodName := ⟨RX9, "fewest", "(II)I"⟩
abbrev cX9_isRepeated : ByteArray := prog_11_method_66_code
def yX9_isRepeated : MethodName := ⟨RX9, "isRepeated", "(I)Z"⟩
abbrev cX9_growsBy : ByteArray := prog_11_method_67_code
def yX9_growsBy : MethodName := ⟨RX9, "growsBy", "(I)V"⟩
abbrev cX9_nodeOnWay : ByteArray := prog_11_method_68_code
def yX9_nodeOnWay : MethodName := ⟨RX9, "nodeOnWay", "(II)I"⟩
abbrev cX9_findTree : ByteArray := prog_11_method_69_code
def yX9_findTree : MethodName := ⟨RX9, "findTree", "()Z"⟩
abbrev cX9_growth : ByteArray := prog_11_method_70_code
def yX9_growth : MethodName := ⟨RX9, "growth", "(I)I"⟩
abbrev cX9_bound : ByteArray := prog_11_method_71_code
def yX9_bound : MethodName := ⟨RX9, "bound", "(I)I"⟩
abbrev cX9_put : ByteArray := prog_11_method_72_code
def yX9_put : MethodName := ⟨RX9, "put", "(J)I"⟩
abbrev cX9_wipe : ByteArray := prog_11_method_73_code
def yX9_wipe : MethodName := ⟨RX9, "wipe", "()I"⟩
abbrev cX9_character : ByteArray := prog_11_method_74_code
def yX9_character : MethodName := ⟨RX9, "character", "(I)I"⟩
abbrev cX9_isNext : ByteArray := prog_11_method_75_code
def yX9_isNext : MethodName := ⟨RX9, "isNext", "(I)Z"⟩
abbrev cX9_takeDigit : ByteArray := prog_11_method_76_code
def yX9_takeDigit : MethodName := ⟨RX9, "takeDigit", "()I"⟩
abbrev cX9_takeNumber : ByteArray := prog_11_method_77_code
def yX9_takeNumber : MethodName := ⟨RX9, "takeNumber", "()I"⟩
abbrev cX9_takesPlaces : ByteArray := prog_11_method_78_code
def yX9_takesPlaces : MethodName := ⟨RX9, "takesPlaces", "([I)Z"⟩
abbrev cX9_readsMove : ByteArray := prog_11_method_79_code
def yX9_readsMove : MethodName := ⟨RX9, "readsMove", "()Z"⟩
abbrev cX9_readsOrder : ByteArray := prog_11_method_80_code
def yX9_readsOrder : MethodName := ⟨RX9, "readsOrder", "()Z"⟩
abbrev cX9_findFault : ByteArray := prog_11_method_81_code
def yX9_findFault : MethodName := ⟨RX9, "findFault", "()I"⟩
abbrev cX9_fault : ByteArray := prog_11_method_82_code
def yX9_fault : MethodName := ⟨RX9, "fault", "()I"⟩
abbrev cX9_whyNotDone : ByteArray := prog_11_method_83_code
def yX9_whyNotDone : MethodName := ⟨RX9, "whyNotDone", "()I"⟩
abbrev cX9_does : ByteArray := prog_11_method_84_code
def yX9_does : MethodName := ⟨RX9, "does", "()V"⟩
abbrev cX9_carryOut : ByteArray := prog_11_method_85_code
def yX9_carryOut : MethodName := ⟨RX9, "carryOut", "()I"⟩
abbrev cX9_undo : ByteArray := prog_11_method_86_code
def yX9_undo : MethodName := ⟨RX9, "undo", "()I"⟩
abbrev cX9_save : ByteArray := prog_11_method_87_code
def yX9_save : MethodName := ⟨RX9, "save", "(I)I"⟩
abbrev cX9_restore : ByteArray := prog_11_method_88_code
def yX9_restore : MethodName := ⟨RX9, "restore", "(I)I"⟩
def RJx8e188 : String := "java/lang/Cloneable"
def TJx8e188 : u_T := fun k => match k with
  | _ => ("", "", "", false)
def tyJx8e188 : Nat → FieldType := fun k => match k with
  | _ => .int
abbrev wsJx8e1880 : List Cond := u_ws RJx8e188 TJx8e188 0
theorem nmJx8e188 : ∀ a, a < 0 → ∀ b, b < 0 → a ≠ b → (TJx8e188 a).2.1 ≠ (TJx8e188 b).2.1 := by decide +kernel
theorem tyJx8e188_ok : ∀ k, k < 0 → parseFieldDescriptor (TJx8e188 k).2.2.1 = some (tyJx8e188 k) := by decide +kernel
def RJ6 : String := "java/lang/Integer"
def TJ6 : u_T := fun k => match k with
  | _ => ("", "", "", false)
def tyJ6 : Nat → FieldType := fun k => match k with
  | _ => .int
abbrev wsJ60 : List Cond := u_ws RJ6 TJ6 0
theorem nmJ6 : ∀ a, a < 0 → ∀ b, b < 0 → a ≠ b → (TJ6 a).2.1 ≠ (TJ6 b).2.1 := by decide +kernel
theorem tyJ6_ok : ∀ k, k < 0 → parseFieldDescriptor (TJ6 k).2.2.1 = some (tyJ6 k) := by decide +kernel
abbrev cJ6_bitCount_0f7a4 : ByteArray := prog_13_method_49_code
def yJ6_bitCount_0f7a4 : MethodName := ⟨RJ6, "bitCount", "(I)I"⟩
def RJ9 : String := "java/lang/Math"
def TJ9 : u_T := fun k => match k with
  | _ => ("", "", "", false)
def tyJ9 : Nat → FieldType := fun k => match k with
  | _ => .int
abbrev wsJ90 : List Cond := u_ws RJ9 TJ9 0
theorem nmJ9 : ∀ a, a < 0 → ∀ b, b < 0 → a ≠ b → (TJ9 a).2.1 ≠ (TJ9 b).2.1 := by decide +kernel
theorem tyJ9_ok : ∀ k, k < 0 → parseFieldDescriptor (TJ9 k).2.2.1 = some (tyJ9 k) := by decide +kernel
abbrev cJ9_max_7cf53 : ByteArray := prog_14_method_65_code
def yJ9_max_7cf53 : MethodName := ⟨RJ9, "max", "(II)I"⟩
abbrev cJ9_min_7cf53 : ByteArray := prog_14_method_69_code
def yJ9_min_7cf53 : MethodName := ⟨RJ9, "min", "(II)I"⟩
def RJ10 : String := "java/lang/System"
def TJ10 : u_T := fun k => match k with
  | _ => ("", "", "", false)
def tyJ10 : Nat → FieldType := fun k => match k with
  | _ => .int
abbrev wsJ100 : List Cond := u_ws RJ10 TJ10 0
theorem nmJ10 : ∀ a, a < 0 → ∀ b, b < 0 → a ≠ b → (TJ10 a).2.1 ≠ (TJ10 b).2.1 := by decide +kernel
theorem tyJ10_ok : ∀ k, k < 0 → parseFieldDescriptor (TJ10 k).2.2.1 = some (tyJ10 k) := by decide +kernel
def RJ7 : String := "java/util/Arrays"
def TJ7 : u_T := fun k => match k with
  | _ => ("", "", "", false)
def tyJ7 : Nat → FieldType := fun k => match k with
  | _ => .int
abbrev wsJ70 : List Cond := u_ws RJ7 TJ7 0
theorem nmJ7 : ∀ a, a < 0 → ∀ b, b < 0 → a ≠ b → (TJ7 a).2.1 ≠ (TJ7 b).2.1 := by decide +kernel
theorem tyJ7_ok : ∀ k, k < 0 → parseFieldDescriptor (TJ7 k).2.2.1 = some (tyJ7 k) := by decide +kernel
abbrev cJ7_fill_53178 : ByteArray := prog_16_method_103_code
def yJ7_fill_53178 : MethodName := ⟨RJ7, "fill", "([II)V"⟩
abbrev cJ7_copyOf_59c91 : ByteArray := prog_16_method_123_code
def yJ7_copyOf_59c91 : MethodName := ⟨RJ7, "copyOf", "([II)[I"⟩
def RL : String := "TokenNetsLaw"
abbrev cL_law : ByteArray := code
def yL_law : MethodName := ⟨RL, "law", "([I)Z"⟩
/-- the good words of the tables -/
def yCT : List Cond := lw_tbl.filter goodWord
theorem yCT_good : GoodIn lw_tbl yCT := fun w h => ⟨(List.mem_filter.mp h).1, good_of_word (List.mem_filter.mp h).2⟩
theorem yCT_self : GoodIn yCT yCT := fun w h => ⟨h, good_of_word (List.mem_filter.mp h).2⟩
theorem yCT_mem {w : Cond} (h : w ∈ lw_tbl) (g : goodWord w = true) : w ∈ yCT := List.mem_filter.mpr ⟨h, g⟩
def yM (w : Cond) : Bool := decide (w ∈ lw_tbl) && goodWord w
theorem yM_ok {w : Cond} (h : yM w = true) : w ∈ yCT := by
  unfold yM at h
  simp only [Bool.and_eq_true, decide_eq_true_eq] at h
  exact yCT_mem h.1 h.2
abbrev vwCl : List vw_C := [(RX1, TX1, 3), (RX2, TX2, 7), (RX3, TX3, 7), (RX4, TX4, 2), (RX5, TX5, 4), (RX6, TX6, 8), (RX7, TX7, 5), (RX8, TX8, 8), (RX9, TX9, 21)]
