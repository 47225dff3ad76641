section
-- ===== PART A: goes FIRST, ahead of the names: the tables' words, and 'selects' of the private methods out of them =====
/-- a private method of a class that the tables say can be made, by its rows of tables_1 -/
def lw_okq (q : MethodName × Nat) : Prop := (q.1.cls ≠ "java/lang/invoke/MethodHandle" ∧ q.1.cls ≠ "java/lang/invoke/VarHandle") ∧ Cond.instantiable q.1.cls q.2 ∈ tables_1 ∧ Cond.privateMethod q.1 ∈ tables_1 ∧ Cond.instanceMethod q.1 ∈ tables_1
theorem lw_p0 : lw_okq (⟨"TokenNets$Net", "carry", "(I)V"⟩, 7) := ⟨⟨by decide +kernel, by decide +kernel⟩, List.mem_of_getElem? (i := 24) (by decide +kernel), List.mem_of_getElem? (i := 326) (by decide +kernel), List.mem_of_getElem? (i := 327) (by decide +kernel)⟩
theorem lw_p1 : lw_okq (⟨"TokenNets$Sums", "hasCoveredPart", "(I)Z"⟩, 8) := ⟨⟨by decide +kernel, by decide +kernel⟩, List.mem_of_getElem? (i := 102) (by decide +kernel), List.mem_of_getElem? (i := 439) (by decide +kernel), List.mem_of_getElem? (i := 440) (by decide +kernel)⟩
theorem lw_p2 : lw_okq (⟨"TokenNets$Sums", "canBalance", "(II)Z"⟩, 8) := ⟨⟨by decide +kernel, by decide +kernel⟩, List.mem_of_getElem? (i := 102) (by decide +kernel), List.mem_of_getElem? (i := 446) (by decide +kernel), List.mem_of_getElem? (i := 447) (by decide +kernel)⟩
theorem lw_p3 : lw_okq (⟨"TokenNets$Sums", "keep", "()V"⟩, 8) := ⟨⟨by decide +kernel, by decide +kernel⟩, List.mem_of_getElem? (i := 102) (by decide +kernel), List.mem_of_getElem? (i := 450) (by decide +kernel), List.mem_of_getElem? (i := 451) (by decide +kernel)⟩
theorem lw_p4 : lw_okq (⟨"TokenNets$Sums", "allDividedBy", "(I)Z"⟩, 8) := ⟨⟨by decide +kernel, by decide +kernel⟩, List.mem_of_getElem? (i := 102) (by decide +kernel), List.mem_of_getElem? (i := 454) (by decide +kernel), List.mem_of_getElem? (i := 455) (by decide +kernel)⟩
theorem lw_p5 : lw_okq (⟨"TokenNets$Sums", "balance", "(II)V"⟩, 8) := ⟨⟨by decide +kernel, by decide +kernel⟩, List.mem_of_getElem? (i := 102) (by decide +kernel), List.mem_of_getElem? (i := 470) (by decide +kernel), List.mem_of_getElem? (i := 471) (by decide +kernel)⟩
theorem lw_p6 : lw_okq (⟨"TokenNets$Reach", "meet", "(I)V"⟩, 4) := ⟨⟨by decide +kernel, by decide +kernel⟩, List.mem_of_getElem? (i := 136) (by decide +kernel), List.mem_of_getElem? (i := 519) (by decide +kernel), List.mem_of_getElem? (i := 520) (by decide +kernel)⟩
theorem lw_p7 : lw_okq (⟨"TokenNets$Marks", "isLike", "(I[II)Z"⟩, 7) := ⟨⟨by decide +kernel, by decide +kernel⟩, List.mem_of_getElem? (i := 142) (by decide +kernel), List.mem_of_getElem? (i := 531) (by decide +kernel), List.mem_of_getElem? (i := 532) (by decide +kernel)⟩
theorem lw_p8 : lw_okq (⟨"TokenNets$Reach", "follow", "(I)V"⟩, 4) := ⟨⟨by decide +kernel, by decide +kernel⟩, List.mem_of_getElem? (i := 136) (by decide +kernel), List.mem_of_getElem? (i := 539) (by decide +kernel), List.mem_of_getElem? (i := 540) (by decide +kernel)⟩
theorem lw_p9 : lw_okq (⟨"TokenNets$Tree", "add", "(II)V"⟩, 5) := ⟨⟨by decide +kernel, by decide +kernel⟩, List.mem_of_getElem? (i := 200) (by decide +kernel), List.mem_of_getElem? (i := 567) (by decide +kernel), List.mem_of_getElem? (i := 568) (by decide +kernel)⟩
theorem lw_p10 : lw_okq (⟨"TokenNets$Tree", "follow", "(I)V"⟩, 5) := ⟨⟨by decide +kernel, by decide +kernel⟩, List.mem_of_getElem? (i := 200) (by decide +kernel), List.mem_of_getElem? (i := 573) (by decide +kernel), List.mem_of_getElem? (i := 574) (by decide +kernel)⟩
theorem lw_p11 : lw_okq (⟨"TokenNets$Tree", "outgrow", "(I[I)V"⟩, 5) := ⟨⟨by decide +kernel, by decide +kernel⟩, List.mem_of_getElem? (i := 200) (by decide +kernel), List.mem_of_getElem? (i := 583) (by decide +kernel), List.mem_of_getElem? (i := 584) (by decide +kernel)⟩
theorem lw_p12 : lw_okq (⟨"TokenNets$Pad", "isDigit", "(I)Z"⟩, 2) := ⟨⟨by decide +kernel, by decide +kernel⟩, List.mem_of_getElem? (i := 86) (by decide +kernel), List.mem_of_getElem? (i := 629) (by decide +kernel), List.mem_of_getElem? (i := 630) (by decide +kernel)⟩
theorem lw_p13 : lw_okq (⟨"TokenNets", "carryOrder", "(I)I"⟩, 8) := ⟨⟨by decide +kernel, by decide +kernel⟩, List.mem_of_getElem? (i := 16) (by decide +kernel), List.mem_of_getElem? (i := 652) (by decide +kernel), List.mem_of_getElem? (i := 653) (by decide +kernel)⟩
theorem lw_p14 : lw_okq (⟨"TokenNets", "carryMove", "(II)I"⟩, 8) := ⟨⟨by decide +kernel, by decide +kernel⟩, List.mem_of_getElem? (i := 16) (by decide +kernel), List.mem_of_getElem? (i := 669) (by decide +kernel), List.mem_of_getElem? (i := 670) (by decide +kernel)⟩
theorem lw_p15 : lw_okq (⟨"TokenNetsModel", "whyNoPlace", "(I)I"⟩, 21) := ⟨⟨by decide +kernel, by decide +kernel⟩, List.mem_of_getElem? (i := 699) (by decide +kernel), List.mem_of_getElem? (i := 773) (by decide +kernel), List.mem_of_getElem? (i := 774) (by decide +kernel)⟩
def lw_privs_1 : List (MethodName × Nat) := [(⟨"TokenNets$Net", "carry", "(I)V"⟩, 7), (⟨"TokenNets$Sums", "hasCoveredPart", "(I)Z"⟩, 8), (⟨"TokenNets$Sums", "canBalance", "(II)Z"⟩, 8), (⟨"TokenNets$Sums", "keep", "()V"⟩, 8), (⟨"TokenNets$Sums", "allDividedBy", "(I)Z"⟩, 8), (⟨"TokenNets$Sums", "balance", "(II)V"⟩, 8), (⟨"TokenNets$Reach", "meet", "(I)V"⟩, 4), (⟨"TokenNets$Marks", "isLike", "(I[II)Z"⟩, 7), (⟨"TokenNets$Reach", "follow", "(I)V"⟩, 4), (⟨"TokenNets$Tree", "add", "(II)V"⟩, 5), (⟨"TokenNets$Tree", "follow", "(I)V"⟩, 5), (⟨"TokenNets$Tree", "outgrow", "(I[I)V"⟩, 5), (⟨"TokenNets$Pad", "isDigit", "(I)Z"⟩, 2), (⟨"TokenNets", "carryOrder", "(I)I"⟩, 8), (⟨"TokenNets", "carryMove", "(II)I"⟩, 8), (⟨"TokenNetsModel", "whyNoPlace", "(I)I"⟩, 21)]
theorem lw_r1 : ∀ q ∈ lw_privs_1, lw_okq q := List.forall_mem_cons.mpr ⟨lw_p0, List.forall_mem_cons.mpr ⟨lw_p1, List.forall_mem_cons.mpr ⟨lw_p2, List.forall_mem_cons.mpr ⟨lw_p3, List.forall_mem_cons.mpr ⟨lw_p4, List.forall_mem_cons.mpr ⟨lw_p5, List.forall_mem_cons.mpr ⟨lw_p6, List.forall_mem_cons.mpr ⟨lw_p7, List.forall_mem_cons.mpr ⟨lw_p8, List.forall_mem_cons.mpr ⟨lw_p9, List.forall_mem_cons.mpr ⟨lw_p10, List.forall_mem_cons.mpr ⟨lw_p11, List.forall_mem_cons.mpr ⟨lw_p12, List.forall_mem_cons.mpr ⟨lw_p13, List.forall_mem_cons.mpr ⟨lw_p14, List.forall_mem_cons.mpr ⟨lw_p15, fun _ h => absurd h List.not_mem_nil⟩⟩⟩⟩⟩⟩⟩⟩⟩⟩⟩⟩⟩⟩⟩⟩
theorem lw_p16 : lw_okq (⟨"TokenNetsModel", "record", "()V"⟩, 21) := ⟨⟨by decide +kernel, by decide +kernel⟩, List.mem_of_getElem? (i := 699) (by decide +kernel), List.mem_of_getElem? (i := 780) (by decide +kernel), List.mem_of_getElem? (i := 781) (by decide +kernel)⟩
theorem lw_p17 : lw_okq (⟨"TokenNetsModel", "placed", "(I)I"⟩, 21) := ⟨⟨by decide +kernel, by decide +kernel⟩, List.mem_of_getElem? (i := 699) (by decide +kernel), List.mem_of_getElem? (i := 787) (by decide +kernel), List.mem_of_getElem? (i := 788) (by decide +kernel)⟩
theorem lw_p18 : lw_okq (⟨"TokenNetsModel", "isMove", "(I)Z"⟩, 21) := ⟨⟨by decide +kernel, by decide +kernel⟩, List.mem_of_getElem? (i := 699) (by decide +kernel), List.mem_of_getElem? (i := 799) (by decide +kernel), List.mem_of_getElem? (i := 800) (by decide +kernel)⟩
theorem lw_p19 : lw_okq (⟨"TokenNetsModel", "isPlace", "(I)Z"⟩, 21) := ⟨⟨by decide +kernel, by decide +kernel⟩, List.mem_of_getElem? (i := 699) (by decide +kernel), List.mem_of_getElem? (i := 803) (by decide +kernel), List.mem_of_getElem? (i := 804) (by decide +kernel)⟩
theorem lw_p20 : lw_okq (⟨"TokenNetsModel", "takes", "(II)I"⟩, 21) := ⟨⟨by decide +kernel, by decide +kernel⟩, List.mem_of_getElem? (i := 699) (by decide +kernel), List.mem_of_getElem? (i := 807) (by decide +kernel), List.mem_of_getElem? (i := 808) (by decide +kernel)⟩
theorem lw_p21 : lw_okq (⟨"TokenNetsModel", "gives", "(II)I"⟩, 21) := ⟨⟨by decide +kernel, by decide +kernel⟩, List.mem_of_getElem? (i := 699) (by decide +kernel), List.mem_of_getElem? (i := 811) (by decide +kernel), List.mem_of_getElem? (i := 812) (by decide +kernel)⟩
theorem lw_p22 : lw_okq (⟨"TokenNetsModel", "setArc", "(IIII)V"⟩, 21) := ⟨⟨by decide +kernel, by decide +kernel⟩, List.mem_of_getElem? (i := 699) (by decide +kernel), List.mem_of_getElem? (i := 815) (by decide +kernel), List.mem_of_getElem? (i := 816) (by decide +kernel)⟩
theorem lw_p23 : lw_okq (⟨"TokenNetsModel", "whyNoTokens", "(II)I"⟩, 21) := ⟨⟨by decide +kernel, by decide +kernel⟩, List.mem_of_getElem? (i := 699) (by decide +kernel), List.mem_of_getElem? (i := 823) (by decide +kernel), List.mem_of_getElem? (i := 824) (by decide +kernel)⟩
theorem lw_p24 : lw_okq (⟨"TokenNetsModel", "setTokens", "(II)I"⟩, 21) := ⟨⟨by decide +kernel, by decide +kernel⟩, List.mem_of_getElem? (i := 699) (by decide +kernel), List.mem_of_getElem? (i := 827) (by decide +kernel), List.mem_of_getElem? (i := 828) (by decide +kernel)⟩
theorem lw_p25 : lw_okq (⟨"TokenNetsModel", "whyNotMade", "(I)I"⟩, 21) := ⟨⟨by decide +kernel, by decide +kernel⟩, List.mem_of_getElem? (i := 699) (by decide +kernel), List.mem_of_getElem? (i := 835) (by decide +kernel), List.mem_of_getElem? (i := 836) (by decide +kernel)⟩
theorem lw_p26 : lw_okq (⟨"TokenNetsModel", "canMake", "(I[IIZ)Z"⟩, 21) := ⟨⟨by decide +kernel, by decide +kernel⟩, List.mem_of_getElem? (i := 699) (by decide +kernel), List.mem_of_getElem? (i := 839) (by decide +kernel), List.mem_of_getElem? (i := 840) (by decide +kernel)⟩
theorem lw_p27 : lw_okq (⟨"TokenNetsModel", "makes", "(I)V"⟩, 21) := ⟨⟨by decide +kernel, by decide +kernel⟩, List.mem_of_getElem? (i := 699) (by decide +kernel), List.mem_of_getElem? (i := 844) (by decide +kernel), List.mem_of_getElem? (i := 845) (by decide +kernel)⟩
theorem lw_p28 : lw_okq (⟨"TokenNetsModel", "movesNow", "()I"⟩, 21) := ⟨⟨by decide +kernel, by decide +kernel⟩, List.mem_of_getElem? (i := 699) (by decide +kernel), List.mem_of_getElem? (i := 848) (by decide +kernel), List.mem_of_getElem? (i := 849) (by decide +kernel)⟩
theorem lw_p29 : lw_okq (⟨"TokenNetsModel", "movesBy", "([IIZ)I"⟩, 21) := ⟨⟨by decide +kernel, by decide +kernel⟩, List.mem_of_getElem? (i := 699) (by decide +kernel), List.mem_of_getElem? (i := 852) (by decide +kernel), List.mem_of_getElem? (i := 853) (by decide +kernel)⟩
theorem lw_p30 : lw_okq (⟨"TokenNetsModel", "movesWith", "(IZ)I"⟩, 21) := ⟨⟨by decide +kernel, by decide +kernel⟩, List.mem_of_getElem? (i := 699) (by decide +kernel), List.mem_of_getElem? (i := 874) (by decide +kernel), List.mem_of_getElem? (i := 875) (by decide +kernel)⟩
theorem lw_p31 : lw_okq (⟨"TokenNetsModel", "placesOf", "(IZ)I"⟩, 21) := ⟨⟨by decide +kernel, by decide +kernel⟩, List.mem_of_getElem? (i := 699) (by decide +kernel), List.mem_of_getElem? (i := 882) (by decide +kernel), List.mem_of_getElem? (i := 883) (by decide +kernel)⟩
def lw_privs_2 : List (MethodName × Nat) := [(⟨"TokenNetsModel", "record", "()V"⟩, 21), (⟨"TokenNetsModel", "placed", "(I)I"⟩, 21), (⟨"TokenNetsModel", "isMove", "(I)Z"⟩, 21), (⟨"TokenNetsModel", "isPlace", "(I)Z"⟩, 21), (⟨"TokenNetsModel", "takes", "(II)I"⟩, 21), (⟨"TokenNetsModel", "gives", "(II)I"⟩, 21), (⟨"TokenNetsModel", "setArc", "(IIII)V"⟩, 21), (⟨"TokenNetsModel", "whyNoTokens", "(II)I"⟩, 21), (⟨"TokenNetsModel", "setTokens", "(II)I"⟩, 21), (⟨"TokenNetsModel", "whyNotMade", "(I)I"⟩, 21), (⟨"TokenNetsModel", "canMake", "(I[IIZ)Z"⟩, 21), (⟨"TokenNetsModel", "makes", "(I)V"⟩, 21), (⟨"TokenNetsModel", "movesNow", "()I"⟩, 21), (⟨"TokenNetsModel", "movesBy", "([IIZ)I"⟩, 21), (⟨"TokenNetsModel", "movesWith", "(IZ)I"⟩, 21), (⟨"TokenNetsModel", "placesOf", "(IZ)I"⟩, 21)]
theorem lw_r2 : ∀ q ∈ lw_privs_2, lw_okq q := List.forall_mem_cons.mpr ⟨lw_p16, List.forall_mem_cons.mpr ⟨lw_p17, List.forall_mem_cons.mpr ⟨lw_p18, List.forall_mem_cons.mpr ⟨lw_p19, List.forall_mem_cons.mpr ⟨lw_p20, List.forall_mem_cons.mpr ⟨lw_p21, List.forall_mem_cons.mpr ⟨lw_p22, List.forall_mem_cons.mpr ⟨lw_p23, List.forall_mem_cons.mpr ⟨lw_p24, List.forall_mem_cons.mpr ⟨lw_p25, List.forall_mem_cons.mpr ⟨lw_p26, List.forall_mem_cons.mpr ⟨lw_p27, List.forall_mem_cons.mpr ⟨lw_p28, List.forall_mem_cons.mpr ⟨lw_p29, List.forall_mem_cons.mpr ⟨lw_p30, List.forall_mem_cons.mpr ⟨lw_p31, fun _ h => absurd h List.not_mem_nil⟩⟩⟩⟩⟩⟩⟩⟩⟩⟩⟩⟩⟩⟩⟩⟩
theorem lw_p32 : lw_okq (⟨"TokenNetsModel", "gain", "(I)I"⟩, 21) := ⟨⟨by decide +kernel, by decide +kernel⟩, List.mem_of_getElem? (i := 699) (by decide +kernel), List.mem_of_getElem? (i := 886) (by decide +kernel), List.mem_of_getElem? (i := 887) (by decide +kernel)⟩
theorem lw_p33 : lw_okq (⟨"TokenNetsModel", "allTokens", "()I"⟩, 21) := ⟨⟨by decide +kernel, by decide +kernel⟩, List.mem_of_getElem? (i := 699) (by decide +kernel), List.mem_of_getElem? (i := 898) (by decide +kernel), List.mem_of_getElem? (i := 899) (by decide +kernel)⟩
theorem lw_p34 : lw_okq (⟨"TokenNetsModel", "allMade", "()I"⟩, 21) := ⟨⟨by decide +kernel, by decide +kernel⟩, List.mem_of_getElem? (i := 699) (by decide +kernel), List.mem_of_getElem? (i := 902) (by decide +kernel), List.mem_of_getElem? (i := 903) (by decide +kernel)⟩
theorem lw_p35 : lw_okq (⟨"TokenNetsModel", "goTo", "(I)I"⟩, 21) := ⟨⟨by decide +kernel, by decide +kernel⟩, List.mem_of_getElem? (i := 699) (by decide +kernel), List.mem_of_getElem? (i := 940) (by decide +kernel), List.mem_of_getElem? (i := 941) (by decide +kernel)⟩
theorem lw_p36 : lw_okq (⟨"TokenNetsModel", "findSets", "()V"⟩, 21) := ⟨⟨by decide +kernel, by decide +kernel⟩, List.mem_of_getElem? (i := 699) (by decide +kernel), List.mem_of_getElem? (i := 944) (by decide +kernel), List.mem_of_getElem? (i := 945) (by decide +kernel)⟩
theorem lw_p37 : lw_okq (⟨"TokenNetsModel", "codes", "()I"⟩, 21) := ⟨⟨by decide +kernel, by decide +kernel⟩, List.mem_of_getElem? (i := 699) (by decide +kernel), List.mem_of_getElem? (i := 948) (by decide +kernel), List.mem_of_getElem? (i := 949) (by decide +kernel)⟩
theorem lw_p38 : lw_okq (⟨"TokenNetsModel", "takeWeights", "(I)V"⟩, 21) := ⟨⟨by decide +kernel, by decide +kernel⟩, List.mem_of_getElem? (i := 699) (by decide +kernel), List.mem_of_getElem? (i := 952) (by decide +kernel), List.mem_of_getElem? (i := 953) (by decide +kernel)⟩
theorem lw_p39 : lw_okq (⟨"TokenNetsModel", "areKept", "()Z"⟩, 21) := ⟨⟨by decide +kernel, by decide +kernel⟩, List.mem_of_getElem? (i := 699) (by decide +kernel), List.mem_of_getElem? (i := 956) (by decide +kernel), List.mem_of_getElem? (i := 957) (by decide +kernel)⟩
theorem lw_p40 : lw_okq (⟨"TokenNetsModel", "weighed", "()I"⟩, 21) := ⟨⟨by decide +kernel, by decide +kernel⟩, List.mem_of_getElem? (i := 699) (by decide +kernel), List.mem_of_getElem? (i := 960) (by decide +kernel), List.mem_of_getElem? (i := 961) (by decide +kernel)⟩
theorem lw_p41 : lw_okq (⟨"TokenNetsModel", "areSmallest", "()Z"⟩, 21) := ⟨⟨by decide +kernel, by decide +kernel⟩, List.mem_of_getElem? (i := 699) (by decide +kernel), List.mem_of_getElem? (i := 964) (by decide +kernel), List.mem_of_getElem? (i := 965) (by decide +kernel)⟩
theorem lw_p42 : lw_okq (⟨"TokenNetsModel", "areDivided", "(I)Z"⟩, 21) := ⟨⟨by decide +kernel, by decide +kernel⟩, List.mem_of_getElem? (i := 699) (by decide +kernel), List.mem_of_getElem? (i := 968) (by decide +kernel), List.mem_of_getElem? (i := 969) (by decide +kernel)⟩
theorem lw_p43 : lw_okq (⟨"TokenNetsModel", "greatest", "(IZ)I"⟩, 21) := ⟨⟨by decide +kernel, by decide +kernel⟩, List.mem_of_getElem? (i := 699) (by decide +kernel), List.mem_of_getElem? (i := 977) (by decide +kernel), List.mem_of_getElem? (i := 978) (by decide +kernel)⟩
theorem lw_p44 : lw_okq (⟨"TokenNetsModel", "leaves", "(IIZ)Z"⟩, 21) := ⟨⟨by decide +kernel, by decide +kernel⟩, List.mem_of_getElem? (i := 699) (by decide +kernel), List.mem_of_getElem? (i := 981) (by decide +kernel), List.mem_of_getElem? (i := 982) (by decide +kernel)⟩
theorem lw_p45 : lw_okq (⟨"TokenNetsModel", "tokensIn", "(I)I"⟩, 21) := ⟨⟨by decide +kernel, by decide +kernel⟩, List.mem_of_getElem? (i := 699) (by decide +kernel), List.mem_of_getElem? (i := 985) (by decide +kernel), List.mem_of_getElem? (i := 986) (by decide +kernel)⟩
theorem lw_p46 : lw_okq (⟨"TokenNetsModel", "findReached", "()Z"⟩, 21) := ⟨⟨by decide +kernel, by decide +kernel⟩, List.mem_of_getElem? (i := 699) (by decide +kernel), List.mem_of_getElem? (i := 993) (by decide +kernel), List.mem_of_getElem? (i := 994) (by decide +kernel)⟩
theorem lw_p47 : lw_okq (⟨"TokenNetsModel", "begins", "()V"⟩, 21) := ⟨⟨by decide +kernel, by decide +kernel⟩, List.mem_of_getElem? (i := 699) (by decide +kernel), List.mem_of_getElem? (i := 997) (by decide +kernel), List.mem_of_getElem? (i := 998) (by decide +kernel)⟩
def lw_privs_3 : List (MethodName × Nat) := [(⟨"TokenNetsModel", "gain", "(I)I"⟩, 21), (⟨"TokenNetsModel", "allTokens", "()I"⟩, 21), (⟨"TokenNetsModel", "allMade", "()I"⟩, 21), (⟨"TokenNetsModel", "goTo", "(I)I"⟩, 21), (⟨"TokenNetsModel", "findSets", "()V"⟩, 21), (⟨"TokenNetsModel", "codes", "()I"⟩, 21), (⟨"TokenNetsModel", "takeWeights", "(I)V"⟩, 21), (⟨"TokenNetsModel", "areKept", "()Z"⟩, 21), (⟨"TokenNetsModel", "weighed", "()I"⟩, 21), (⟨"TokenNetsModel", "areSmallest", "()Z"⟩, 21), (⟨"TokenNetsModel", "areDivided", "(I)Z"⟩, 21), (⟨"TokenNetsModel", "greatest", "(IZ)I"⟩, 21), (⟨"TokenNetsModel", "leaves", "(IIZ)Z"⟩, 21), (⟨"TokenNetsModel", "tokensIn", "(I)I"⟩, 21), (⟨"TokenNetsModel", "findReached", "()Z"⟩, 21), (⟨"TokenNetsModel", "begins", "()V"⟩, 21)]
theorem lw_r3 : ∀ q ∈ lw_privs_3, lw_okq q := List.forall_mem_cons.mpr ⟨lw_p32, List.forall_mem_cons.mpr ⟨lw_p33, List.forall_mem_cons.mpr ⟨lw_p34, List.forall_mem_cons.mpr ⟨lw_p35, List.forall_mem_cons.mpr ⟨lw_p36, List.forall_mem_cons.mpr ⟨lw_p37, List.forall_mem_cons.mpr ⟨lw_p38, List.forall_mem_cons.mpr ⟨lw_p39, List.forall_mem_cons.mpr ⟨lw_p40, List.forall_mem_cons.mpr ⟨lw_p41, List.forall_mem_cons.mpr ⟨lw_p42, List.forall_mem_cons.mpr ⟨lw_p43, List.forall_mem_cons.mpr ⟨lw_p44, List.forall_mem_cons.mpr ⟨lw_p45, List.forall_mem_cons.mpr ⟨lw_p46, List.forall_mem_cons.mpr ⟨lw_p47, fun _ h => absurd h List.not_mem_nil⟩⟩⟩⟩⟩⟩⟩⟩⟩⟩⟩⟩⟩⟩⟩⟩
theorem lw_p48 : lw_okq (⟨"TokenNetsModel", "keepTried", "(II)V"⟩, 21) := ⟨⟨by decide +kernel, by decide +kernel⟩, List.mem_of_getElem? (i := 699) (by decide +kernel), List.mem_of_getElem? (i := 1001) (by decide +kernel), List.mem_of_getElem? (i := 1002) (by decide +kernel)⟩
theorem lw_p49 : lw_okq (⟨"TokenNetsModel", "tries", "(II)V"⟩, 21) := ⟨⟨by decide +kernel, by decide +kernel⟩, List.mem_of_getElem? (i := 699) (by decide +kernel), List.mem_of_getElem? (i := 1005) (by decide +kernel), List.mem_of_getElem? (i := 1006) (by decide +kernel)⟩
theorem lw_p50 : lw_okq (⟨"TokenNetsModel", "markAt", "(II)I"⟩, 21) := ⟨⟨by decide +kernel, by decide +kernel⟩, List.mem_of_getElem? (i := 699) (by decide +kernel), List.mem_of_getElem? (i := 1009) (by decide +kernel), List.mem_of_getElem? (i := 1010) (by decide +kernel)⟩
theorem lw_p51 : lw_okq (⟨"TokenNetsModel", "wasFound", "()Z"⟩, 21) := ⟨⟨by decide +kernel, by decide +kernel⟩, List.mem_of_getElem? (i := 699) (by decide +kernel), List.mem_of_getElem? (i := 1014) (by decide +kernel), List.mem_of_getElem? (i := 1015) (by decide +kernel)⟩
theorem lw_p52 : lw_okq (⟨"TokenNetsModel", "isTriedAt", "(I)Z"⟩, 21) := ⟨⟨by decide +kernel, by decide +kernel⟩, List.mem_of_getElem? (i := 699) (by decide +kernel), List.mem_of_getElem? (i := 1018) (by decide +kernel), List.mem_of_getElem? (i := 1019) (by decide +kernel)⟩
theorem lw_p53 : lw_okq (⟨"TokenNetsModel", "findTree", "()Z"⟩, 21) := ⟨⟨by decide +kernel, by decide +kernel⟩, List.mem_of_getElem? (i := 699) (by decide +kernel), List.mem_of_getElem? (i := 1030) (by decide +kernel), List.mem_of_getElem? (i := 1031) (by decide +kernel)⟩
theorem lw_p54 : lw_okq (⟨"TokenNetsModel", "isRepeated", "(I)Z"⟩, 21) := ⟨⟨by decide +kernel, by decide +kernel⟩, List.mem_of_getElem? (i := 699) (by decide +kernel), List.mem_of_getElem? (i := 1034) (by decide +kernel), List.mem_of_getElem? (i := 1035) (by decide +kernel)⟩
theorem lw_p55 : lw_okq (⟨"TokenNetsModel", "nodeOnWay", "(II)I"⟩, 21) := ⟨⟨by decide +kernel, by decide +kernel⟩, List.mem_of_getElem? (i := 699) (by decide +kernel), List.mem_of_getElem? (i := 1038) (by decide +kernel), List.mem_of_getElem? (i := 1039) (by decide +kernel)⟩
theorem lw_p56 : lw_okq (⟨"TokenNetsModel", "growsBy", "(I)V"⟩, 21) := ⟨⟨by decide +kernel, by decide +kernel⟩, List.mem_of_getElem? (i := 699) (by decide +kernel), List.mem_of_getElem? (i := 1042) (by decide +kernel), List.mem_of_getElem? (i := 1043) (by decide +kernel)⟩
theorem lw_p57 : lw_okq (⟨"TokenNetsModel", "findFault", "()I"⟩, 21) := ⟨⟨by decide +kernel, by decide +kernel⟩, List.mem_of_getElem? (i := 699) (by decide +kernel), List.mem_of_getElem? (i := 1063) (by decide +kernel), List.mem_of_getElem? (i := 1064) (by decide +kernel)⟩
theorem lw_p58 : lw_okq (⟨"TokenNetsModel", "readsOrder", "()Z"⟩, 21) := ⟨⟨by decide +kernel, by decide +kernel⟩, List.mem_of_getElem? (i := 699) (by decide +kernel), List.mem_of_getElem? (i := 1067) (by decide +kernel), List.mem_of_getElem? (i := 1068) (by decide +kernel)⟩
theorem lw_p59 : lw_okq (⟨"TokenNetsModel", "character", "(I)I"⟩, 21) := ⟨⟨by decide +kernel, by decide +kernel⟩, List.mem_of_getElem? (i := 699) (by decide +kernel), List.mem_of_getElem? (i := 1071) (by decide +kernel), List.mem_of_getElem? (i := 1072) (by decide +kernel)⟩
theorem lw_p60 : lw_okq (⟨"TokenNetsModel", "takeNumber", "()I"⟩, 21) := ⟨⟨by decide +kernel, by decide +kernel⟩, List.mem_of_getElem? (i := 699) (by decide +kernel), List.mem_of_getElem? (i := 1075) (by decide +kernel), List.mem_of_getElem? (i := 1076) (by decide +kernel)⟩
theorem lw_p61 : lw_okq (⟨"TokenNetsModel", "takeDigit", "()I"⟩, 21) := ⟨⟨by decide +kernel, by decide +kernel⟩, List.mem_of_getElem? (i := 699) (by decide +kernel), List.mem_of_getElem? (i := 1079) (by decide +kernel), List.mem_of_getElem? (i := 1080) (by decide +kernel)⟩
theorem lw_p62 : lw_okq (⟨"TokenNetsModel", "readsMove", "()Z"⟩, 21) := ⟨⟨by decide +kernel, by decide +kernel⟩, List.mem_of_getElem? (i := 699) (by decide +kernel), List.mem_of_getElem? (i := 1083) (by decide +kernel), List.mem_of_getElem? (i := 1084) (by decide +kernel)⟩
theorem lw_p63 : lw_okq (⟨"TokenNetsModel", "isNext", "(I)Z"⟩, 21) := ⟨⟨by decide +kernel, by decide +kernel⟩, List.mem_of_getElem? (i := 699) (by decide +kernel), List.mem_of_getElem? (i := 1087) (by decide +kernel), List.mem_of_getElem? (i := 1088) (by decide +kernel)⟩
def lw_privs_4 : List (MethodName × Nat) := [(⟨"TokenNetsModel", "keepTried", "(II)V"⟩, 21), (⟨"TokenNetsModel", "tries", "(II)V"⟩, 21), (⟨"TokenNetsModel", "markAt", "(II)I"⟩, 21), (⟨"TokenNetsModel", "wasFound", "()Z"⟩, 21), (⟨"TokenNetsModel", "isTriedAt", "(I)Z"⟩, 21), (⟨"TokenNetsModel", "findTree", "()Z"⟩, 21), (⟨"TokenNetsModel", "isRepeated", "(I)Z"⟩, 21), (⟨"TokenNetsModel", "nodeOnWay", "(II)I"⟩, 21), (⟨"TokenNetsModel", "growsBy", "(I)V"⟩, 21), (⟨"TokenNetsModel", "findFault", "()I"⟩, 21), (⟨"TokenNetsModel", "readsOrder", "()Z"⟩, 21), (⟨"TokenNetsModel", "character", "(I)I"⟩, 21), (⟨"TokenNetsModel", "takeNumber", "()I"⟩, 21), (⟨"TokenNetsModel", "takeDigit", "()I"⟩, 21), (⟨"TokenNetsModel", "readsMove", "()Z"⟩, 21), (⟨"TokenNetsModel", "isNext", "(I)Z"⟩, 21)]
theorem lw_r4 : ∀ q ∈ lw_privs_4, lw_okq q := List.forall_mem_cons.mpr ⟨lw_p48, List.forall_mem_cons.mpr ⟨lw_p49, List.forall_mem_cons.mpr ⟨lw_p50, List.forall_mem_cons.mpr ⟨lw_p51, List.forall_mem_cons.mpr ⟨lw_p52, List.forall_mem_cons.mpr ⟨lw_p53, List.forall_mem_cons.mpr ⟨lw_p54, List.forall_mem_cons.mpr ⟨lw_p55, List.forall_mem_cons.mpr ⟨lw_p56, List.forall_mem_cons.mpr ⟨lw_p57, List.forall_mem_cons.mpr ⟨lw_p58, List.forall_mem_cons.mpr ⟨lw_p59, List.forall_mem_cons.mpr ⟨lw_p60, List.forall_mem_cons.mpr ⟨lw_p61, List.forall_mem_cons.mpr ⟨lw_p62, List.forall_mem_cons.mpr ⟨lw_p63, fun _ h => absurd h List.not_mem_nil⟩⟩⟩⟩⟩⟩⟩⟩⟩⟩⟩⟩⟩⟩⟩⟩
theorem lw_p64 : lw_okq (⟨"TokenNetsModel", "takesPlaces", "([I)Z"⟩, 21) := ⟨⟨by decide +kernel, by decide +kernel⟩, List.mem_of_getElem? (i := 699) (by decide +kernel), List.mem_of_getElem? (i := 1091) (by decide +kernel), List.mem_of_getElem? (i := 1092) (by decide +kernel)⟩
theorem lw_p65 : lw_okq (⟨"TokenNetsModel", "whyNotDone", "()I"⟩, 21) := ⟨⟨by decide +kernel, by decide +kernel⟩, List.mem_of_getElem? (i := 699) (by decide +kernel), List.mem_of_getElem? (i := 1099) (by decide +kernel), List.mem_of_getElem? (i := 1100) (by decide +kernel)⟩
theorem lw_p66 : lw_okq (⟨"TokenNetsModel", "does", "()V"⟩, 21) := ⟨⟨by decide +kernel, by decide +kernel⟩, List.mem_of_getElem? (i := 699) (by decide +kernel), List.mem_of_getElem? (i := 1103) (by decide +kernel), List.mem_of_getElem? (i := 1104) (by decide +kernel)⟩
def lw_privs_5 : List (MethodName × Nat) := [(⟨"TokenNetsModel", "takesPlaces", "([I)Z"⟩, 21), (⟨"TokenNetsModel", "whyNotDone", "()I"⟩, 21), (⟨"TokenNetsModel", "does", "()V"⟩, 21)]
theorem lw_r5 : ∀ q ∈ lw_privs_5, lw_okq q := List.forall_mem_cons.mpr ⟨lw_p64, List.forall_mem_cons.mpr ⟨lw_p65, List.forall_mem_cons.mpr ⟨lw_p66, fun _ h => absurd h List.not_mem_nil⟩⟩⟩
def lw_privs : List (MethodName × Nat) := lw_privs_1 ++ (lw_privs_2 ++ (lw_privs_3 ++ (lw_privs_4 ++ (lw_privs_5))))
def lw_tbl : List Cond := k2_sels lw_privs ++ tables_1
theorem lw_privs_ok : ∀ q ∈ lw_privs, lw_okq q := by
  show ∀ q ∈ lw_privs_1 ++ (lw_privs_2 ++ (lw_privs_3 ++ (lw_privs_4 ++ (lw_privs_5)))), lw_okq q
  exact List.forall_mem_append.mpr ⟨lw_r1, List.forall_mem_append.mpr ⟨lw_r2, List.forall_mem_append.mpr ⟨lw_r3, List.forall_mem_append.mpr ⟨lw_r4, lw_r5⟩⟩⟩⟩
/-- the streams that the claim lets the run draw from -/
abbrev lw_cs : List Choice := [Jvm.Choice.named "NaN.bits"]
theorem lw_bits : nanBits ∈ lw_cs := by first | decide | exact List.mem_cons_self | simp [lw_cs, nanBits]
theorem goodIn_r {big : List Cond} (ws : List Cond) (ps : List Nat) (hp : ws = ps.filterMap (fun i => big[i]?)) (h : ws.all goodWord = true) : GoodIn big ws := by
  intro w hw
  have h1 := List.all_eq_true.mp h w hw
  rw [hp] at hw
  obtain ⟨i, -, hi⟩ := List.mem_filterMap.mp hw
  have hm : w ∈ big := by first | exact List.mem_of_getElem? hi | exact List.getElem?_mem hi
  exact ⟨hm, good_of_word h1⟩
theorem goodIn_app {big a b : List Cond} (ha : GoodIn big a) (hb : GoodIn big b) : GoodIn big (a ++ b) := fun w h => (List.mem_append.mp h).elim (ha w) (hb w)
theorem goodIn_ca {big a b : List Cond} {c : Cond} (ha : GoodIn big (c :: a)) (hb : GoodIn big b) : GoodIn big (c :: (a ++ b)) := fun w h => (List.mem_cons.mp h).elim (fun e => ha w (List.mem_cons.mpr (Or.inl e))) (fun h => (List.mem_append.mp h).elim (fun h => ha w (List.mem_cons.mpr (Or.inr h))) (hb w))
theorem goodIn_sub {big ws : List Cond} (hm : ∀ w ∈ ws, w ∈ big) (h : ws.all goodWord = true) : GoodIn big ws := fun w hw => ⟨hm w hw, good_of_word (List.all_eq_true.mp h w hw)⟩
def RX0 : String := "TokenNets$Bits"
def TX0 : u_T := fun k => match k with
  | _ => ("", "", "", false)
def tyX0 : Nat → FieldType := fun k => match k with
  | _ => .int
abbrev wsX00 : List Cond := u_ws RX0 TX0 0
theorem nmX0 : ∀ a, a < 0 → ∀ b, b < 0 → a ≠ b → (TX0 a).2.1 ≠ (TX0 b).2.1 := by decide +kernel
theorem tyX0_ok : ∀ k, k < 0 → parseFieldDescriptor (TX0 k).2.2.1 = some (tyX0 k) := by decide +kernel
abbrev cX0_ofFloat : ByteArray := prog_2_method_2_code
def yX0_ofFloat : MethodName := ⟨RX0, "ofFloat", "(F)I"⟩
abbrev cX0_ofDouble : ByteArray := prog_2_method_3_code
def yX0_ofDouble : MethodName := ⟨RX0, "ofDouble", "(D)J"⟩
def RX1 : String := "TokenNets$History"
def TX1 : u_T := fun k => match k with
  | 0 => ("TokenNets$History", "rows", "[LTokenNets$Net;", true)
  | 1 => ("TokenNets$History", "next", "I", false)
  | _ => ("TokenNets$History", "many", "I", false)
def tyX1 : Nat → FieldType := fun k => match k with
  | 0 => .array (.object "TokenNets$Net")
  | 1 => .int
  | _ => .int
abbrev wsX10 : List Cond := u_ws RX1 TX1 3
theorem nmX1 : ∀ a, a < 3 → ∀ b, b < 3 → a ≠ b → (TX1 a).2.1 ≠ (TX1 b).2.1 := by decide +kernel
theorem tyX1_ok : ∀ k, k < 3 → parseFieldDescriptor (TX1 k).2.2.1 = some (tyX1 k) := by decide +kernel
abbrev cX1_init : ByteArray := prog_3_method_1_code
def yX1_init : MethodName := ⟨RX1, "<init>", "()V"⟩
abbrev cX1_note : ByteArray := prog_3_method_2_code
def yX1_note : MethodName := ⟨RX1, "note", "(LTokenNets$Net;)V"⟩
abbrev cX1_settle : ByteArray := prog_3_method_3_code
def yX1_settle : MethodName := ⟨RX1, "settle", "(I)I"⟩
abbrev cX1_takeBack : ByteArray := prog_3_method_4_code
def yX1_takeBack : MethodName := ⟨RX1, "takeBack", "(LTokenNets$Net;)I"⟩
def RX2 : String := "TokenNets$Marks"
def TX2 : u_T := fun k => match k with
  | 0 => ("TokenNets$Marks", "net", "LTokenNets$Net;", true)
  | 1 => ("TokenNets$Marks", "known", "Z", false)
  | 2 => ("TokenNets$Marks", "rows", "[I", true)
  | 3 => ("TokenNets$Marks", "next", "[I", true)
  | 4 => ("TokenNets$Marks", "many", "I", false)
  | 5 => ("TokenNets$Marks", "tooMany", "Z", false)
  | _ => ("TokenNets$Marks", "possible", "I", false)
def tyX2 : Nat → FieldType := fun k => match k with
  | 0 => .object "TokenNets$Net"
  | 1 => .boolean
  | 2 => .array .int
  | 3 => .array .int
  | 4 => .int
  | 5 => .boolean
  | _ => .int
abbrev wsX20 : List Cond := u_ws RX2 TX2 7
theorem nmX2 : ∀ a, a < 7 → ∀ b, b < 7 → a ≠ b → (TX2 a).2.1 ≠ (TX2 b).2.1 := by decide +kernel
theorem tyX2_ok : ∀ k, k < 7 → parseFieldDescriptor (TX2 k).2.2.1 = some (tyX2 k) := by decide +kernel
abbrev cX2_init : ByteArray := prog_4_method_1_code
def yX2_init : MethodName := ⟨RX2, "<init>", "()V"⟩
abbrev cX2_begins : ByteArray := prog_4_method_2_code
def yX2_begins : MethodName := ⟨RX2, "begins", "(LTokenNets$Net;)Z"⟩
abbrev cX2_leads : ByteArray := prog_4_method_3_code
def yX2_leads : MethodName := ⟨RX2, "leads", "(III)Z"⟩
abbrev cX2_takeIn : ByteArray := prog_4_method_4_code
def yX2_takeIn : MethodName := ⟨RX2, "takeIn", "()Z"⟩
abbrev cX2_isNext : ByteArray := prog_4_method_5_code
def yX2_isNext : MethodName := ⟨RX2, "isNext", "(I)Z"⟩
abbrev cX2_areSame : ByteArray := prog_4_method_6_code
def yX2_areSame : MethodName := ⟨RX2, "areSame", "(II)Z"⟩
abbrev cX2_isLike : ByteArray := prog_4_method_7_code
def yX2_isLike : MethodName := ⟨RX2, "isLike", "(I[II)Z"⟩
def RX3 : String := "TokenNets$Net"
def TX3 : u_T := fun k => match k with
  | 0 => ("TokenNets$Net", "places", "I", false)
  | 1 => ("TokenNets$Net", "moves", "I", false)
  | 2 => ("TokenNets$Net", "tokens", "[I", true)
  | 3 => ("TokenNets$Net", "most", "[I", true)
  | 4 => ("TokenNets$Net", "made", "[I", true)
  | 5 => ("TokenNets$Net", "takes", "[I", true)
  | _ => ("TokenNets$Net", "gives", "[I", true)
def tyX3 : Nat → FieldType := fun k => match k with
  | 0 => .int
  | 1 => .int
  | 2 => .array .int
  | 3 => .array .int
  | 4 => .array .int
  | 5 => .array .int
  | _ => .array .int
abbrev wsX30 : List Cond := u_ws RX3 TX3 7
theorem nmX3 : ∀ a, a < 7 → ∀ b, b < 7 → a ≠ b → (TX3 a).2.1 ≠ (TX3 b).2.1 := by decide +kernel
theorem tyX3_ok : ∀ k, k < 7 → parseFieldDescriptor (TX3 k).2.2.1 = some (tyX3 k) := by decide +kernel
abbrev cX3_init : ByteArray := prog_5_method_1_code
def yX3_init : MethodName := ⟨RX3, "<init>", "()V"⟩
abbrev cX3_copy : ByteArray := prog_5_method_2_code
def yX3_copy : MethodName := ⟨RX3, "copy", "(LTokenNets$Net;)V"⟩
abbrev cX3_sameArcs : ByteArray := prog_5_method_3_code
def yX3_sameArcs : MethodName := ⟨RX3, "sameArcs", "(LTokenNets$Net;)Z"⟩
abbrev cX3_sameMarking : ByteArray := prog_5_method_4_code
def yX3_sameMarking : MethodName := ⟨RX3, "sameMarking", "(LTokenNets$Net;)Z"⟩
abbrev cX3_hasPlace : ByteArray := prog_5_method_5_code
def yX3_hasPlace : MethodName := ⟨RX3, "hasPlace", "(I)Z"⟩
abbrev cX3_hasMove : ByteArray := prog_5_method_6_code
def yX3_hasMove : MethodName := ⟨RX3, "hasMove", "(I)Z"⟩
abbrev cX3_addPlace : ByteArray := prog_5_method_7_code
def yX3_addPlace : MethodName := ⟨RX3, "addPlace", "(I)I"⟩
abbrev cX3_addMove : ByteArray := prog_5_method_8_code
def yX3_addMove : MethodName := ⟨RX3, "addMove", "()I"⟩
abbrev cX3_setArc : ByteArray := prog_5_method_9_code
def yX3_setArc : MethodName := ⟨RX3, "setArc", "(IIII)I"⟩
abbrev cX3_setTokens : ByteArray := prog_5_method_10_code
def yX3_setTokens : MethodName := ⟨RX3, "setTokens", "(II)I"⟩
abbrev cX3_makeOne : ByteArray := prog_5_method_11_code
def yX3_makeOne : MethodName := ⟨RX3, "makeOne", "(I)I"⟩
abbrev cX3_makeBySeed : ByteArray := prog_5_method_12_code
def yX3_makeBySeed : MethodName := ⟨RX3, "makeBySeed", "(II)I"⟩
abbrev cX3_memberAt : ByteArray := prog_5_method_13_code
def yX3_memberAt : MethodName := ⟨RX3, "memberAt", "(II)I"⟩
abbrev cX3_carry : ByteArray := prog_5_method_14_code
def yX3_carry : MethodName := ⟨RX3, "carry", "(I)V"⟩
abbrev cX3_canMake : ByteArray := prog_5_method_15_code
def yX3_canMake : MethodName := ⟨RX3, "canMake", "(I)Z"⟩
abbrev cX3_allows : ByteArray := prog_5_method_16_code
def yX3_allows : MethodName := ⟨RX3, "allows", "([IIII)Z"⟩
abbrev cX3_step : ByteArray := prog_5_method_17_code
def yX3_step : MethodName := ⟨RX3, "step", "([III[I)V"⟩
abbrev cX3_possibleMoves : ByteArray := prog_5_method_18_code
def yX3_possibleMoves : MethodName := ⟨RX3, "possibleMoves", "()I"⟩
abbrev cX3_allTokens : ByteArray := prog_5_method_19_code
def yX3_allTokens : MethodName := ⟨RX3, "allTokens", "()I"⟩
abbrev cX3_tokensIn : ByteArray := prog_5_method_20_code
def yX3_tokensIn : MethodName := ⟨RX3, "tokensIn", "(I)I"⟩
abbrev cX3_allMade : ByteArray := prog_5_method_21_code
def yX3_allMade : MethodName := ⟨RX3, "allMade", "()I"⟩
abbrev cX3_movesAt : ByteArray := prog_5_method_22_code
def yX3_movesAt : MethodName := ⟨RX3, "movesAt", "([II)I"⟩
abbrev cX3_placesOf : ByteArray := prog_5_method_23_code
def yX3_placesOf : MethodName := ⟨RX3, "placesOf", "([II)I"⟩
abbrev cX3_surplus : ByteArray := prog_5_method_24_code
def yX3_surplus : MethodName := ⟨RX3, "surplus", "(I)I"⟩
abbrev cX3_greatestClosed : ByteArray := prog_5_method_25_code
def yX3_greatestClosed : MethodName := ⟨RX3, "greatestClosed", "(I[I[I)I"⟩
def RX4 : String := "TokenNets$Pad"
def TX4 : u_T := fun k => match k with
  | 0 => ("TokenNets$Pad", "signs", "[C", true)
  | _ => ("TokenNets$Pad", "length", "I", false)
def tyX4 : Nat → FieldType := fun k => match k with
  | 0 => .array .char
  | _ => .int
abbrev wsX40 : List Cond := u_ws RX4 TX4 2
theorem nmX4 : ∀ a, a < 2 → ∀ b, b < 2 → a ≠ b → (TX4 a).2.1 ≠ (TX4 b).2.1 := by decide +kernel
theorem tyX4_ok : ∀ k, k < 2 → parseFieldDescriptor (TX4 k).2.2.1 = some (tyX4 k) := by decide +kernel
abbrev cX4_init : ByteArray := prog_6_method_1_code
def yX4_init : MethodName := ⟨RX4, "<init>", "()V"⟩
abbrev cX4_append : ByteArray := prog_6_method_2_code
def yX4_append : MethodName := ⟨RX4, "append", "(J)I"⟩
abbrev cX4_sign : ByteArray := prog_6_method_3_code
def yX4_sign : MethodName := ⟨RX4, "sign", "(I)C"⟩
abbrev cX4_isDigit : ByteArray := prog_6_method_4_code
def yX4_isDigit : MethodName := ⟨RX4, "isDigit", "(I)Z"⟩
abbrev cX4_digit : ByteArray := prog_6_method_5_code
def yX4_digit : MethodName := ⟨RX4, "digit", "(I)I"⟩
abbrev cX4_number : ByteArray := prog_6_method_6_code
def yX4_number : MethodName := ⟨RX4, "number", "(I)I"⟩
abbrev cX4_orderEnd : ByteArray := prog_6_method_7_code
def yX4_orderEnd : MethodName := ⟨RX4, "orderEnd", "(I)I"⟩
abbrev cX4_namesPlace : ByteArray := prog_6_method_8_code
def yX4_namesPlace : MethodName := ⟨RX4, "namesPlace", "(I)Z"⟩
abbrev cX4_times : ByteArray := prog_6_method_9_code
def yX4_times : MethodName := ⟨RX4, "times", "(I)I"⟩
abbrev cX4_firstFault : ByteArray := prog_6_method_10_code
def yX4_firstFault : MethodName := ⟨RX4, "firstFault", "()I"⟩
abbrev cX4_mayEnd : ByteArray := prog_6_method_11_code
def yX4_mayEnd : MethodName := ⟨RX4, "mayEnd", "(I)Z"⟩
abbrev cX4_after : ByteArray := prog_6_method_12_code
def yX4_after : MethodName := ⟨RX4, "after", "(ICZ)I"⟩
abbrev cX4_afterStart : ByteArray := prog_6_method_13_code
def yX4_afterStart : MethodName := ⟨RX4, "afterStart", "(C)I"⟩
abbrev cX4_afterTaken : ByteArray := prog_6_method_14_code
def yX4_afterTaken : MethodName := ⟨RX4, "afterTaken", "(C)I"⟩
abbrev cX4_afterGiven : ByteArray := prog_6_method_15_code
def yX4_afterGiven : MethodName := ⟨RX4, "afterGiven", "(C)I"⟩
def RX5 : String := "TokenNets$Reach"
def TX5 : u_T := fun k => match k with
  | 0 => ("TokenNets$Reach", "marks", "LTokenNets$Marks;", true)
  | 1 => ("TokenNets$Reach", "moves", "[I", true)
  | 2 => ("TokenNets$Reach", "table", "[I", true)
  | _ => ("TokenNets$Reach", "dead", "I", false)
def tyX5 : Nat → FieldType := fun k => match k with
  | 0 => .object "TokenNets$Marks"
  | 1 => .array .int
  | 2 => .array .int
  | _ => .int
abbrev wsX50 : List Cond := u_ws RX5 TX5 4
theorem nmX5 : ∀ a, a < 4 → ∀ b, b < 4 → a ≠ b → (TX5 a).2.1 ≠ (TX5 b).2.1 := by decide +kernel
theorem tyX5_ok : ∀ k, k < 4 → parseFieldDescriptor (TX5 k).2.2.1 = some (tyX5 k) := by decide +kernel
abbrev cX5_init : ByteArray := prog_7_method_1_code
def yX5_init : MethodName := ⟨RX5, "<init>", "()V"⟩
abbrev cX5_find : ByteArray := prog_7_method_2_code
def yX5_find : MethodName := ⟨RX5, "find", "(LTokenNets$Net;)V"⟩
abbrev cX5_follow : ByteArray := prog_7_method_3_code
def yX5_follow : MethodName := ⟨RX5, "follow", "(I)V"⟩
abbrev cX5_meet : ByteArray := prog_7_method_4_code
def yX5_meet : MethodName := ⟨RX5, "meet", "(I)V"⟩
abbrev cX5_hash : ByteArray := prog_7_method_5_code
def yX5_hash : MethodName := ⟨RX5, "hash", "([I)I"⟩
abbrev cX5_fewestMoves : ByteArray := prog_7_method_6_code
def yX5_fewestMoves : MethodName := ⟨RX5, "fewestMoves", "(II)I"⟩
def RX6 : String := "TokenNets$Sums"
def TX6 : u_T := fun k => match k with
  | 0 => ("TokenNets$Sums", "seen", "LTokenNets$Net;", true)
  | 1 => ("TokenNets$Sums", "known", "Z", false)
  | 2 => ("TokenNets$Sums", "gains", "[I", true)
  | 3 => ("TokenNets$Sums", "balances", "[I", true)
  | 4 => ("TokenNets$Sums", "weights", "[I", true)
  | 5 => ("TokenNets$Sums", "covered", "[Z", true)
  | 6 => ("TokenNets$Sums", "found", "[I", false)
  | _ => ("TokenNets$Sums", "many", "I", false)
def tyX6 : Nat → FieldType := fun k => match k with
  | 0 => .object "TokenNets$Net"
  | 1 => .boolean
  | 2 => .array .int
  | 3 => .array .int
  | 4 => .array .int
  | 5 => .array .boolean
  | 6 => .array .int
  | _ => .int
abbrev wsX60 : List Cond := u_ws RX6 TX6 8
theorem nmX6 : ∀ a, a < 8 → ∀ b, b < 8 → a ≠ b → (TX6 a).2.1 ≠ (TX6 b).2.1 := by decide +kernel
theorem tyX6_ok : ∀ k, k < 8 → parseFieldDescriptor (TX6 k).2.2.1 = some (tyX6 k) := by decide +kernel
abbrev cX6_init : ByteArray := prog_8_method_1_code
def yX6_init : MethodName := ⟨RX6, "<init>", "()V"⟩
abbrev cX6_weight : ByteArray := prog_8_method_2_code
def yX6_weight : MethodName := ⟨RX6, "weight", "(II)I"⟩
abbrev cX6_worth : ByteArray := prog_8_method_3_code
def yX6_worth : MethodName := ⟨RX6, "worth", "(I[I)I"⟩
abbrev cX6_find : ByteArray := prog_8_method_4_code
def yX6_find : MethodName := ⟨RX6, "find", "(LTokenNets$Net;)V"⟩
abbrev cX6_hasCoveredPart : ByteArray := prog_8_method_5_code
def yX6_hasCoveredPart : MethodName := ⟨RX6, "hasCoveredPart", "(I)Z"⟩
abbrev cX6_weigh : ByteArray := prog_8_method_6_code
def yX6_weigh : MethodName := ⟨RX6, "weigh", "(LTokenNets$Sums;II)V"⟩
abbrev cX6_balance : ByteArray := prog_8_method_7_code
def yX6_balance : MethodName := ⟨RX6, "balance", "(II)V"⟩
abbrev cX6_canBalance : ByteArray := prog_8_method_8_code
def yX6_canBalance : MethodName := ⟨RX6, "canBalance", "(II)Z"⟩
abbrev cX6_keep : ByteArray := prog_8_method_9_code
def yX6_keep : MethodName := ⟨RX6, "keep", "()V"⟩
abbrev cX6_allDividedBy : ByteArray := prog_8_method_10_code
def yX6_allDividedBy : MethodName := ⟨RX6, "allDividedBy", "(I)Z"⟩
def RX7 : String := "TokenNets$Tree"
def TX7 : u_T := fun k => match k with
  | 0 => ("TokenNets$Tree", "marks", "LTokenNets$Marks;", true)
  | 1 => ("TokenNets$Tree", "above", "[I", true)
  | 2 => ("TokenNets$Tree", "depths", "[I", true)
  | 3 => ("TokenNets$Tree", "path", "[I", true)
  | _ => ("TokenNets$Tree", "deepest", "I", false)
def tyX7 : Nat → FieldType := fun k => match k with
  | 0 => .object "TokenNets$Marks"
  | 1 => .array .int
  | 2 => .array .int
  | 3 => .array .int
  | _ => .int
abbrev wsX70 : List Cond := u_ws RX7 TX7 5
theorem nmX7 : ∀ a, a < 5 → ∀ b, b < 5 → a ≠ b → (TX7 a).2.1 ≠ (TX7 b).2.1 := by decide +kernel
theorem tyX7_ok : ∀ k, k < 5 → parseFieldDescriptor (TX7 k).2.2.1 = some (tyX7 k) := by decide +kernel
abbrev cX7_init : ByteArray := prog_9_method_1_code
def yX7_init : MethodName := ⟨RX7, "<init>", "()V"⟩
abbrev cX7_find : ByteArray := prog_9_method_2_code
def yX7_find : MethodName := ⟨RX7, "find", "(LTokenNets$Net;)V"⟩
abbrev cX7_add : ByteArray := prog_9_method_3_code
def yX7_add : MethodName := ⟨RX7, "add", "(II)V"⟩
abbrev cX7_follow : ByteArray := prog_9_method_4_code
def yX7_follow : MethodName := ⟨RX7, "follow", "(I)V"⟩
abbrev cX7_outgrow : ByteArray := prog_9_method_5_code
def yX7_outgrow : MethodName := ⟨RX7, "outgrow", "(I[I)V"⟩
abbrev cX7_mostTokens : ByteArray := prog_9_method_6_code
def yX7_mostTokens : MethodName := ⟨RX7, "mostTokens", "(I)I"⟩
abbrev cX7_endlessPlaces : ByteArray := prog_9_method_7_code
def yX7_endlessPlaces : MethodName := ⟨RX7, "endlessPlaces", "()I"⟩
def RX8 : String := "TokenNets"
def TX8 : u_T := fun k => match k with
  | 0 => ("TokenNets", "net", "LTokenNets$Net;", true)
  | 1 => ("TokenNets", "history", "LTokenNets$History;", true)
  | 2 => ("TokenNets", "slots", "[LTokenNets$Net;", true)
  | 3 => ("TokenNets", "saved", "[Z", true)
  | 4 => ("TokenNets", "pad", "LTokenNets$Pad;", true)
  | 5 => ("TokenNets", "sums", "LTokenNets$Sums;", true)
  | 6 => ("TokenNets", "reach", "LTokenNets$Reach;", true)
  | _ => ("TokenNets", "tree", "LTokenNets$Tree;", true)
def tyX8 : Nat → FieldType := fun k => match k with
  | 0 => .object "TokenNets$Net"
  | 1 => .object "TokenNets$History"
  | 2 => .array (.object "TokenNets$Net")
  | 3 => .array .boolean
  | 4 => .object "TokenNets$Pad"
  | 5 => .object "TokenNets$Sums"
  | 6 => .object "TokenNets$Reach"
  | _ => .object "TokenNets$Tree"
abbrev wsX80 : List Cond := u_ws RX8 TX8 8
theorem nmX8 : ∀ a, a < 8 → ∀ b, b < 8 → a ≠ b → (TX8 a).2.1 ≠ (TX8 b).2.1 := by decide +kernel
theorem tyX8_ok : ∀ k, k < 8 → parseFieldDescriptor (TX8 k).2.2.1 = some (tyX8 k) := by decide +kernel
abbrev cX8_init : ByteArray := prog_1_method_1_code
def yX8_init : MethodName := ⟨RX8, "<init>", "()V"⟩
abbrev cX8_place : ByteArray := prog_1_method_2_code
def yX8_place : MethodName := ⟨RX8, "place", "(I)I"⟩
abbrev cX8_move : ByteArray := prog_1_method_3_code
def yX8_move : MethodName := ⟨RX8, "move", "()I"⟩
abbrev cX8_arc : ByteArray := prog_1_method_4_code
def yX8_arc : MethodName := ⟨RX8, "arc", "(IIII)I"⟩
abbrev cX8_tokens : ByteArray := prog_1_method_5_code
def yX8_tokens : MethodName := ⟨RX8, "tokens", "(II)I"⟩
abbrev cX8_make : ByteArray := prog_1_method_6_code
def yX8_make : MethodName := ⟨RX8, "make", "(I)I"⟩
abbrev cX8_run : ByteArray := prog_1_method_7_code
def yX8_run : MethodName := ⟨RX8, "run", "(II)I"⟩
abbrev cX8_ofPlace : ByteArray := prog_1_method_8_code
def yX8_ofPlace : MethodName := ⟨RX8, "ofPlace", "(II)I"⟩
abbrev cX8_ofMove : ByteArray := prog_1_method_9_code
def yX8_ofMove : MethodName := ⟨RX8, "ofMove", "(II)I"⟩
abbrev cX8_ofArc : ByteArray := prog_1_method_10_code
def yX8_ofArc : MethodName := ⟨RX8, "ofArc", "(III)I"⟩
abbrev cX8_count : ByteArray := prog_1_method_11_code
def yX8_count : MethodName := ⟨RX8, "count", "(I)I"⟩
abbrev cX8_share : ByteArray := prog_1_method_12_code
def yX8_share : MethodName := ⟨RX8, "share", "(I)I"⟩
abbrev cX8_mean : ByteArray := prog_1_method_13_code
def yX8_mean : MethodName := ⟨RX8, "mean", "(I)J"⟩
abbrev cX8_kept : ByteArray := prog_1_method_14_code
def yX8_kept : MethodName := ⟨RX8, "kept", "(II)I"⟩
abbrev cX8_keptMany : ByteArray := prog_1_method_15_code
def yX8_keptMany : MethodName := ⟨RX8, "keptMany", "()I"⟩
abbrev cX8_trap : ByteArray := prog_1_method_16_code
def yX8_trap : MethodName := ⟨RX8, "trap", "(II)I"⟩
abbrev cX8_reached : ByteArray := prog_1_method_17_code
def yX8_reached : MethodName := ⟨RX8, "reached", "(I)I"⟩
abbrev cX8_fewest : ByteArray := prog_1_method_18_code
def yX8_fewest : MethodName := ⟨RX8, "fewest", "(II)I"⟩
abbrev cX8_growth : ByteArray := prog_1_method_19_code
def yX8_growth : MethodName := ⟨RX8, "growth", "(I)I"⟩
abbrev cX8_bound : ByteArray := prog_1_method_20_code
def yX8_bound : MethodName := ⟨RX8, "bound", "(I)I"⟩
abbrev cX8_put : ByteArray := prog_1_method_21_code
def yX8_put : MethodName := ⟨RX8, "put", "(J)I"⟩
abbrev cX8_wipe : ByteArray := prog_1_method_22_code
def yX8_wipe : MethodName := ⟨RX8, "wipe", "()I"⟩
abbrev cX8_fault : ByteArray := prog_1_method_23_code
def yX8_fault : MethodName := ⟨RX8, "fault", "()I"⟩
abbrev cX8_carryOut : ByteArray := prog_1_method_24_code
def yX8_carryOut : MethodName := ⟨RX8, "carryOut", "()I"⟩
abbrev cX8_carryOrder : ByteArray := prog_1_method_25_code
def yX8_carryOrder : MethodName := ⟨RX8, "carryOrder", "(I)I"⟩
abbrev cX8_carryMove : ByteArray := prog_1_method_26_code
def yX8_carryMove : MethodName := ⟨RX8, "carryMove", "(II)I"⟩
abbrev cX8_undo : ByteArray := prog_1_method_27_code
def yX8_undo : MethodName := ⟨RX8, "undo", "()I"⟩
abbrev cX8_save : ByteArray := prog_1_method_28_code
def yX8_save : MethodName := ⟨RX8, "save", "(I)I"⟩
abbrev cX8_restore : ByteArray := prog_1_method_29_code
def yX8_restore : MethodName := ⟨RX8, "restore", "(I)I"⟩
def RX9 : String := "TokenNetsModel"
def TX9 : u_T := fun k => match k with
  | 0 => ("TokenNetsModel", "state", "[I", true)
  | 1 => ("TokenNetsModel", "history", "[I", true)
  | 2 => ("TokenNetsModel", "recorded", "I", false)
  | 3 => ("TokenNetsModel", "slots", "[I", true)
  | 4 => ("TokenNetsModel", "isSaved", "[I", true)
  | 5 => ("TokenNetsModel", "pad", "[I", true)
  | 6 => ("TokenNetsModel", "padLength", "I", false)
  | 7 => ("TokenNetsModel", "marks", "[I", true)
  | 8 => ("TokenNetsModel", "levels", "[I", true)
  | 9 => ("TokenNetsModel", "above", "[I", true)
  | 10 => ("TokenNetsModel", "found", "I", false)
  | 11 => ("TokenNetsModel", "tried", "[I", true)
  | 12 => ("TokenNetsModel", "weights", "[I", true)
  | 13 => ("TokenNetsModel", "isKept", "[Z", true)
  | 14 => ("TokenNetsModel", "at", "I", false)
  | 15 => ("TokenNetsModel", "letter", "I", false)
  | 16 => ("TokenNetsModel", "first", "I", false)
  | 17 => ("TokenNetsModel", "second", "I", false)
  | 18 => ("TokenNetsModel", "taken", "[I", true)
  | 19 => ("TokenNetsModel", "given", "[I", true)
  | _ => ("TokenNetsModel", "named", "I", false)
def tyX9 : Nat → FieldType := fun k => match k with
  | 0 => .array .int
  | 1 => .array .int
  | 2 => .int
  | 3 => .array .int
  | 4 => .array .int
  | 5 => .array .int
  | 6 => .int
  | 7 => .array .int
  | 8 => .array .int
  | 9 => .array .int
  | 10 => .int
  | 11 => .array .int
  | 12 => .array .int
  | 13 => .array .boolean
  | 14 => .int
  | 15 => .int
  | 16 => .int
  | 17 => .int
  | 18 => .array .int
  | 19 => .array .int
  | _ => .int
abbrev wsX90 : List Cond := u_ws RX9 TX9 21
theorem nmX9 : ∀ a, a < 21 → ∀ b, b < 21 → a ≠ b → (TX9 a).2.1 ≠ (TX9 b).2.1 := by decide +kernel
theorem tyX9_ok : ∀ k, k < 21 → parseFieldDescriptor (TX9 k).2.2.1 = some (tyX9 k) := by decide +kernel
abbrev cX9_init : ByteArray := prog_11_method_1_code
def yX9_init : MethodName := ⟨RX9, "<init>", "()V"⟩
abbrev cX9_moves : ByteArray := prog_11_method_3_code
def yX9_moves : MethodName := ⟨RX9, "moves", "([II[II)V"⟩
abbrev cX9_within : ByteArray := prog_11_method_4_code
def yX9_within : MethodName := ⟨RX9, "within", "(III)Z"⟩
abbrev cX9_record : ByteArray := prog_11_method_5_code
def yX9_record : MethodName := ⟨RX9, "record", "()V"⟩
abbrev cX9_isPlace : ByteArray := prog_11_method_6_code
def yX9_isPlace : MethodName := ⟨RX9, "isPlace", "(I)Z"⟩
abbrev cX9_isMove : ByteArray := prog_11_method_7_code
def yX9_isMove : MethodName := ⟨RX9, "isMove", "(I)Z"⟩
abbrev cX9_takes : ByteArray := prog_11_method_8_code
def yX9_takes : MethodName := ⟨RX9, "takes", "(II)I"⟩
abbrev cX9_gives : ByteArray := prog_11_method_9_code
def yX9_gives : MethodName := ⟨RX9, "gives", "(II)I"⟩
abbrev cX9_canMake : ByteArray := prog_11_method_10_code
def yX9_canMake : MethodName := ⟨RX9, "canMake", "(I[IIZ)Z"⟩
abbrev cX9_movesBy : ByteArray := prog_11_method_11_code
def yX9_movesBy : MethodName := ⟨RX9, "movesBy", "([IIZ)I"⟩
abbrev cX9_movesNow : ByteArray := prog_11_method_12_code
def yX9_movesNow : MethodName := ⟨RX9, "movesNow", "()I"⟩
abbrev cX9_bits : ByteArray := prog_11_method_13_code
def yX9_bits : MethodName := ⟨RX9, "bits", "(I)I"⟩
abbrev cX9_makes : ByteArray := prog_11_method_14_code
def yX9_makes : MethodName := ⟨RX9, "makes", "(I)V"⟩
abbrev cX9_allTokens : ByteArray := prog_11_method_15_code
def yX9_allTokens : MethodName := ⟨RX9, "allTokens", "()I"⟩
abbrev cX9_whyNoPlace : ByteArray := prog_11_method_16_code
def yX9_whyNoPlace : MethodName := ⟨RX9, "whyNoPlace", "(I)I"⟩
abbrev cX9_placed : ByteArray := prog_11_method_17_code
def yX9_placed : MethodName := ⟨RX9, "placed", "(I)I"⟩
abbrev cX9_place : ByteArray := prog_11_method_18_code
def yX9_place : MethodName := ⟨RX9, "place", "(I)I"⟩
abbrev cX9_move : ByteArray := prog_11_method_19_code
def yX9_move : MethodName := ⟨RX9, "move", "()I"⟩
abbrev cX9_setArc : ByteArray := prog_11_method_20_code
def yX9_setArc : MethodName := ⟨RX9, "setArc", "(IIII)V"⟩
abbrev cX9_arc : ByteArray := prog_11_method_21_code
def yX9_arc : MethodName := ⟨RX9, "arc", "(IIII)I"⟩
abbrev cX9_whyNoTokens : ByteArray := prog_11_method_22_code
def yX9_whyNoTokens : MethodName := ⟨RX9, "whyNoTokens", "(II)I"⟩
abbrev cX9_setTokens : ByteArray := prog_11_method_23_code
def yX9_setTokens : MethodName := ⟨RX9, "setTokens", "(II)I"⟩
abbrev cX9_tokens : ByteArray := prog_11_method_24_code
def yX9_tokens : MethodName := ⟨RX9, "tokens", "(II)I"⟩
abbrev cX9_whyNotMade : ByteArray := prog_11_method_25_code
def yX9_whyNotMade : MethodName := ⟨RX9, "whyNotMade", "(I)I"⟩
abbrev cX9_make : ByteArray := prog_11_method_26_code
def yX9_make : MethodName := ⟨RX9, "make", "(I)I"⟩
abbrev cX9_moveAt : ByteArray := prog_11_method_27_code
def yX9_moveAt : MethodName := ⟨RX9, "moveAt", "(II)I"⟩
abbrev cX9_run : ByteArray := prog_11_method_28_code
def yX9_run : MethodName := ⟨RX9, "run", "(II)I"⟩
abbrev cX9_movesWith : ByteArray := prog_11_method_29_code
def yX9_movesWith : MethodName := ⟨RX9, "movesWith", "(IZ)I"⟩
abbrev cX9_placesOf : ByteArray := prog_11_method_30_code
def yX9_placesOf : MethodName := ⟨RX9, "placesOf", "(IZ)I"⟩
abbrev cX9_ofPlace : ByteArray := prog_11_method_31_code
def yX9_ofPlace : MethodName := ⟨RX9, "ofPlace", "(II)I"⟩
abbrev cX9_gain : ByteArray := prog_11_method_32_code
def yX9_gain : MethodName := ⟨RX9, "gain", "(I)I"⟩
abbrev cX9_ofMove : ByteArray := prog_11_method_33_code
def yX9_ofMove : MethodName := ⟨RX9, "ofMove", "(II)I"⟩
abbrev cX9_ofArc : ByteArray := prog_11_method_34_code
def yX9_ofArc : MethodName := ⟨RX9, "ofArc", "(III)I"⟩
abbrev cX9_allMade : ByteArray := prog_11_method_35_code
def yX9_allMade : MethodName := ⟨RX9, "allMade", "()I"⟩
abbrev cX9_count : ByteArray := prog_11_method_36_code
def yX9_count : MethodName := ⟨RX9, "count", "(I)I"⟩
abbrev cX9_joined : ByteArray := prog_11_method_37_code
def yX9_joined : MethodName := ⟨RX9, "joined", "(JJ)J"⟩
abbrev cX9_digitsOf : ByteArray := prog_11_method_38_code
def yX9_digitsOf : MethodName := ⟨RX9, "digitsOf", "(JJI)J"⟩
abbrev cX9_exponentOf : ByteArray := prog_11_method_39_code
def yX9_exponentOf : MethodName := ⟨RX9, "exponentOf", "(JJ)I"⟩
abbrev cX9_share : ByteArray := prog_11_method_40_code
def yX9_share : MethodName := ⟨RX9, "share", "(I)I"⟩
abbrev cX9_leftOver : ByteArray := prog_11_method_41_code
def yX9_leftOver : MethodName := ⟨RX9, "leftOver", "(JI)J"⟩
abbrev cX9_mean : ByteArray := prog_11_method_42_code
def yX9_mean : MethodName := ⟨RX9, "mean", "(I)J"⟩
abbrev cX9_takeWeights : ByteArray := prog_11_method_43_code
def yX9_takeWeights : MethodName := ⟨RX9, "takeWeights", "(I)V"⟩
abbrev cX9_areKept : ByteArray := prog_11_method_44_code
def yX9_areKept : MethodName := ⟨RX9, "areKept", "()Z"⟩
abbrev cX9_weighed : ByteArray := prog_11_method_45_code
def yX9_weighed : MethodName := ⟨RX9, "weighed", "()I"⟩
abbrev cX9_areDivided : ByteArray := prog_11_method_46_code
def yX9_areDivided : MethodName := ⟨RX9, "areDivided", "(I)Z"⟩
abbrev cX9_codes : ByteArray := prog_11_method_47_code
def yX9_codes : MethodName := ⟨RX9, "codes", "()I"⟩
abbrev cX9_findSets : ByteArray := prog_11_method_48_code
def yX9_findSets : MethodName := ⟨RX9, "findSets", "()V"⟩
abbrev cX9_areSmallest : ByteArray := prog_11_method_49_code
def yX9_areSmallest : MethodName := ⟨RX9, "areSmallest", "()Z"⟩
abbrev cX9_goTo : ByteArray := prog_11_method_50_code
def yX9_goTo : MethodName := ⟨RX9, "goTo", "(I)I"⟩
abbrev cX9_kept : ByteArray := prog_11_method_51_code
def yX9_kept : MethodName := ⟨RX9, "kept", "(II)I"⟩
abbrev cX9_keptMany : ByteArray := prog_11_method_52_code
def yX9_keptMany : MethodName := ⟨RX9, "keptMany", "()I"⟩
abbrev cX9_leaves : ByteArray := prog_11_method_53_code
def yX9_leaves : MethodName := ⟨RX9, "leaves", "(IIZ)Z"⟩
abbrev cX9_greatest : ByteArray := prog_11_method_54_code
def yX9_greatest : MethodName := ⟨RX9, "greatest", "(IZ)I"⟩
abbrev cX9_tokensIn : ByteArray := prog_11_method_55_code
def yX9_tokensIn : MethodName := ⟨RX9, "tokensIn", "(I)I"⟩
abbrev cX9_trap : ByteArray := prog_11_method_56_code
def yX9_trap : MethodName := ⟨RX9, "trap", "(II)I"⟩
abbrev cX9_markAt : ByteArray := prog_11_method_57_code
def yX9_markAt : MethodName := ⟨RX9, "markAt", "(II)I"⟩
abbrev cX9_tries : ByteArray := prog_11_method_58_code
def yX9_tries : MethodName := ⟨RX9, "tries", "(II)V"⟩
abbrev cX9_isTriedAt : ByteArray := prog_11_method_59_code
def yX9_isTriedAt : MethodName := ⟨RX9, "isTriedAt", "(I)Z"⟩
abbrev cX9_wasFound : ByteArray := prog_11_method_60_code
def yX9_wasFound : MethodName := ⟨RX9, "wasFound", "()Z"⟩
abbrev cX9_keepTried : ByteArray := prog_11_method_61_code
def yX9_keepTried : MethodName := ⟨RX9, "keepTried", "(II)V"⟩
abbrev cX9_begins : ByteArray := prog_11_method_62_code
def yX9_begins : MethodName := ⟨RX9, "begins", "()V"⟩
abbrev cX9_findReached : ByteArray := prog_11_method_63_code
def yX9_findReached : MethodName := ⟨RX9, "findReached", "()Z"⟩
abbrev cX9_reached : ByteArray := prog_11_method_64_code
def yX9_reached : MethodName := ⟨RX9, "reached", "(I)I"⟩
abbrev cX9_fewest : ByteArray := prog_11_method_65_code
def yX9_fewest : MethodName := ⟨RX9, "fewest", "(II)I"⟩
abbrev cX9_isRepeated : ByteArray := prog_11_method_66_code
def yX9_isRepeated : MethodName := ⟨RX9, "isRepeated", "(I)Z"⟩
abbrev cX9_growsBy : ByteArray := prog_11_method_67_code
def yX9_growsBy : MethodName := ⟨RX9, "growsBy", "(I)V"⟩
abbrev cX9_nodeOnWay : ByteArray := prog_11_method_68_code
def yX9_nodeOnWay : MethodName := ⟨RX9, "nodeOnWay", "(II)I"⟩
abbrev cX9_findTree : ByteArray := prog_11_method_69_code
def yX9_findTree : MethodName := ⟨RX9, "findTree", "()Z"⟩
abbrev cX9_growth : ByteArray := prog_11_method_70_code
def yX9_growth : MethodName := ⟨RX9, "growth", "(I)I"⟩
abbrev cX9_bound : ByteArray := prog_11_method_71_code
def yX9_bound : MethodName := ⟨RX9, "bound", "(I)I"⟩
abbrev cX9_put : ByteArray := prog_11_method_72_code
def yX9_put : MethodName := ⟨RX9, "put", "(J)I"⟩
abbrev cX9_wipe : ByteArray := prog_11_method_73_code
def yX9_wipe : MethodName := ⟨RX9, "wipe", "()I"⟩
abbrev cX9_character : ByteArray := prog_11_method_74_code
def yX9_character : MethodName := ⟨RX9, "character", "(I)I"⟩
abbrev cX9_isNext : ByteArray := prog_11_method_75_code
def yX9_isNext : MethodName := ⟨RX9, "isNext", "(I)Z"⟩
abbrev cX9_takeDigit : ByteArray := prog_11_method_76_code
def yX9_takeDigit : MethodName := ⟨RX9, "takeDigit", "()I"⟩
abbrev cX9_takeNumber : ByteArray := prog_11_method_77_code
def yX9_takeNumber : MethodName := ⟨RX9, "takeNumber", "()I"⟩
abbrev cX9_takesPlaces : ByteArray := prog_11_method_78_code
def yX9_takesPlaces : MethodName := ⟨RX9, "takesPlaces", "([I)Z"⟩
abbrev cX9_readsMove : ByteArray := prog_11_method_79_code
def yX9_readsMove : MethodName := ⟨RX9, "readsMove", "()Z"⟩
abbrev cX9_readsOrder : ByteArray := prog_11_method_80_code
def yX9_readsOrder : MethodName := ⟨RX9, "readsOrder", "()Z"⟩
abbrev cX9_findFault : ByteArray := prog_11_method_81_code
def yX9_findFault : MethodName := ⟨RX9, "findFault", "()I"⟩
abbrev cX9_fault : ByteArray := prog_11_method_82_code
def yX9_fault : MethodName := ⟨RX9, "fault", "()I"⟩
abbrev cX9_whyNotDone : ByteArray := prog_11_method_83_code
def yX9_whyNotDone : MethodName := ⟨RX9, "whyNotDone", "()I"⟩
abbrev cX9_does : ByteArray := prog_11_method_84_code
def yX9_does : MethodName := ⟨RX9, "does", "()V"⟩
abbrev cX9_carryOut : ByteArray := prog_11_method_85_code
def yX9_carryOut : MethodName := ⟨RX9, "carryOut", "()I"⟩
abbrev cX9_undo : ByteArray := prog_11_method_86_code
def yX9_undo : MethodName := ⟨RX9, "undo", "()I"⟩
abbrev cX9_save : ByteArray := prog_11_method_87_code
def yX9_save : MethodName := ⟨RX9, "save", "(I)I"⟩
abbrev cX9_restore : ByteArray := prog_11_method_88_code
def yX9_restore : MethodName := ⟨RX9, "restore", "(I)I"⟩
def RJx8e188 : String := "java/lang/Cloneable"
def TJx8e188 : u_T := fun k => match k with
  | _ => ("", "", "", false)
def tyJx8e188 : Nat → FieldType := fun k => match k with
  | _ => .int
abbrev wsJx8e1880 : List Cond := u_ws RJx8e188 TJx8e188 0
theorem nmJx8e188 : ∀ a, a < 0 → ∀ b, b < 0 → a ≠ b → (TJx8e188 a).2.1 ≠ (TJx8e188 b).2.1 := by decide +kernel
theorem tyJx8e188_ok : ∀ k, k < 0 → parseFieldDescriptor (TJx8e188 k).2.2.1 = some (tyJx8e188 k) := by decide +kernel
def RJ6 : String := "java/lang/Integer"
def TJ6 : u_T := fun k => match k with
  | _ => ("", "", "", false)
def tyJ6 : Nat → FieldType := fun k => match k with
  | _ => .int
abbrev wsJ60 : List Cond := u_ws RJ6 TJ6 0
theorem nmJ6 : ∀ a, a < 0 → ∀ b, b < 0 → a ≠ b → (TJ6 a).2.1 ≠ (TJ6 b).2.1 := by decide +kernel
theorem tyJ6_ok : ∀ k, k < 0 → parseFieldDescriptor (TJ6 k).2.2.1 = some (tyJ6 k) := by decide +kernel
abbrev cJ6_bitCount_0f7a4 : ByteArray := prog_13_method_49_code
def yJ6_bitCount_0f7a4 : MethodName := ⟨RJ6, "bitCount", "(I)I"⟩
def RJ9 : String := "java/lang/Math"
def TJ9 : u_T := fun k => match k with
  | _ => ("", "", "", false)
def tyJ9 : Nat → FieldType := fun k => match k with
  | _ => .int
abbrev wsJ90 : List Cond := u_ws RJ9 TJ9 0
theorem nmJ9 : ∀ a, a < 0 → ∀ b, b < 0 → a ≠ b → (TJ9 a).2.1 ≠ (TJ9 b).2.1 := by decide +kernel
theorem tyJ9_ok : ∀ k, k < 0 → parseFieldDescriptor (TJ9 k).2.2.1 = some (tyJ9 k) := by decide +kernel
abbrev cJ9_max_7cf53 : ByteArray := prog_14_method_65_code
def yJ9_max_7cf53 : MethodName := ⟨RJ9, "max", "(II)I"⟩
abbrev cJ9_min_7cf53 : ByteArray := prog_14_method_69_code
def yJ9_min_7cf53 : MethodName := ⟨RJ9, "min", "(II)I"⟩
def RJ10 : String := "java/lang/System"
def TJ10 : u_T := fun k => match k with
  | _ => ("", "", "", false)
def tyJ10 : Nat → FieldType := fun k => match k with
  | _ => .int
abbrev wsJ100 : List Cond := u_ws RJ10 TJ10 0
theorem nmJ10 : ∀ a, a < 0 → ∀ b, b < 0 → a ≠ b → (TJ10 a).2.1 ≠ (TJ10 b).2.1 := by decide +kernel
theorem tyJ10_ok : ∀ k, k < 0 → parseFieldDescriptor (TJ10 k).2.2.1 = some (tyJ10 k) := by decide +kernel
def RJ7 : String := "java/util/Arrays"
def TJ7 : u_T := fun k => match k with
  | _ => ("", "", "", false)
def tyJ7 : Nat → FieldType := fun k => match k with
  | _ => .int
abbrev wsJ70 : List Cond := u_ws RJ7 TJ7 0
theorem nmJ7 : ∀ a, a < 0 → ∀ b, b < 0 → a ≠ b → (TJ7 a).2.1 ≠ (TJ7 b).2.1 := by decide +kernel
theorem tyJ7_ok : ∀ k, k < 0 → parseFieldDescriptor (TJ7 k).2.2.1 = some (tyJ7 k) := by decide +kernel
abbrev cJ7_fill_53178 : ByteArray := prog_16_method_103_code
def yJ7_fill_53178 : MethodName := ⟨RJ7, "fill", "([II)V"⟩
abbrev cJ7_copyOf_59c91 : ByteArray := prog_16_method_123_code
def yJ7_copyOf_59c91 : MethodName := ⟨RJ7, "copyOf", "([II)[I"⟩
def RL : String := "TokenNetsLaw"
abbrev cL_law : ByteArray := code
def yL_law : MethodName := ⟨RL, "law", "([I)Z"⟩
/-- the good words of the tables -/
def yCT : List Cond := lw_tbl.filter goodWord
theorem yCT_good : GoodIn lw_tbl yCT := fun w h => ⟨(List.mem_filter.mp h).1, good_of_word (List.mem_filter.mp h).2⟩
theorem yCT_self : GoodIn yCT yCT := fun w h => ⟨h, good_of_word (List.mem_filter.mp h).2⟩
theorem yCT_mem {w : Cond} (h : w ∈ lw_tbl) (g : goodWord w = true) : w ∈ yCT := List.mem_filter.mpr ⟨h, g⟩
def yM (w : Cond) : Bool := decide (w ∈ lw_tbl) && goodWord w
theorem yM_ok {w : Cond} (h : yM w = true) : w ∈ yCT := by
  unfold yM at h
  simp only [Bool.and_eq_true, decide_eq_true_eq] at h
  exact yCT_mem h.1 h.2
abbrev vwCl : List vw_C := [(RX1, TX1, 3), (RX2, TX2, 7), (RX3, TX3, 7), (RX4, TX4, 2), (RX5, TX5, 4), (RX6, TX6, 8), (RX7, TX7, 5), (RX8, TX8, 8), (RX9, TX9, 21)]
end
section
/-! A SYMBOLIC RUN: a small interpreter over closed data (ints are numbers or named unknowns, references are places in a list of cells), to be computed by the kernel; part 03 shows that what it says holds of the machine. -/
abbrev yI : Type := Nat ⊕ Nat
/-- a value: an int, a long (a number or the name of an unknown), a reference: none is null, some 0 the script, some (i + 1) the i-th cell -/
abbrev yV : Type := yI ⊕ (yI ⊕ Option Nat)
/-- a cell: an object (its class's place in vwCl, its fields), an array of ints, booleans, chars (kind, length, what was written, the last first), an array of objects -/
abbrev yC : Type := (Nat × List yV) ⊕ ((Nat × Nat × List (Nat × yI)) ⊕ (Nat × Nat × List (Nat × Option Nat)))
abbrev yL : Type := List (Nat × yV)
/-- facts of comparisons: which, of what, whether it holds -/
abbrev yF : Type := List (Nat × yI × yI × Bool)
/-- facts of results: the operation, of what, what comes -/
abbrev yT : Type := List (Nat × yI × yI × yI)
/-- an instruction as resolved: what it is, the place of the next one, three numbers -/
abbrev yO : Type := Instr × Nat × Nat × Nat × Nat
abbrev yE : Type := MethodName × ByteArray × Nat × Option FieldType × List (Nat × yO)
abbrev yS : Type := Nat × yL × List yV × List yC × Nat × Nat
/-- what the unknowns are: ints, longs, the script's address, its length -/
abbrev yK : Type := (Nat → Int32) × (Nat → Int64) × Nat × Nat
def y_i (κ : yK) : yI → Int32
  | .inl n => nI n
  | .inr k => κ.1 k
def y_l (κ : yK) : yI → Int64
  | .inl n => lN n
  | .inr k => κ.2.1 k
def y_r (κ : yK) (α : List Nat) : Nat → Option Nat
  | 0 => some κ.2.2.1
  | i + 1 => α[i]?
def y_d (κ : yK) (α : List Nat) : yV → Option Value
  | .inl a => some (.int (y_i κ a))
  | .inr (.inl a) => some (.long (y_l κ a))
  | .inr (.inr none) => some .null
  | .inr (.inr (some i)) => (y_r κ α i).map Value.ref
def y_ds (κ : yK) (α : List Nat) (l : List yV) (xs : List Value) : Prop := l.map (y_d κ α) = xs.map some
def y_dl (κ : yK) (α : List Nat) (l : yL) (xs : List (Nat × Value)) : Prop := l.map (fun q => (q.1, y_d κ α q.2)) = xs.map (fun q => (q.1, some q.2))
def y_cat : yV → Nat
  | .inr (.inl _) => 2
  | _ => 1
def y_get : List (Nat × yI) → Nat → yI
  | [], _ => .inl 0
  | q :: r, i => bif Nat.beq q.1 i then q.2 else y_get r i
def y_getr : List (Nat × Option Nat) → Nat → Option Nat
  | [], _ => none
  | q :: r, i => bif Nat.beq q.1 i then q.2 else y_getr r i
def y_ty : Nat → FieldType
  | 0 => .int
  | 1 => .boolean
  | _ => .char
/-- what a cell of the run is in the world -/
def y_c (κ : yK) (α : List Nat) (tys : List (ClassId × FieldType)) : yC → va_E → Prop
  | .inl (ci, fs), e => ∃ vs : List Value, y_ds κ α fs vs ∧ e = .inr (ci, vs)
  | .inr (.inl (k, n, m)), e => ∃ (cA : ClassId) (t0 : Nat) (f : Nat → Int32), tys[t0]? = some (cA, y_ty k) ∧ (∀ i, i < n → f i = y_i κ (y_get m i)) ∧ e = .inl (cA, n, .inl f)
  | .inr (.inr (ci, n, m)), e => ∃ (cA : ClassId) (t0 : Nat) (r : vw_C) (f : Nat → Option Nat), vwCl[ci]? = some r ∧ tys[t0]? = some (cA, .object r.1) ∧ (∀ i, i < n → match y_getr m i with | none => f i = none | some j => ∃ a, y_r κ α j = some a ∧ f i = some a) ∧ e = .inl (cA, n, .inr (.inr (.inr (.inr f))))
def y_h (κ : yK) (α : List Nat) (tys : List (ClassId × FieldType)) (sh : List yC) (ws : va_W) : Prop :=
  α.length = sh.length ∧ ws.length = sh.length ∧ ∀ (i : Nat) (c : yC), sh[i]? = some c → ∃ (a : Nat) (e : va_E), α[i]? = some a ∧ ws[i]? = some (a, e) ∧ y_c κ α tys c e
-- comparisons
def y_sg (n : Nat) : Nat := (n + 2147483648) % 4294967296
def y_cmp (op a b : Nat) : Bool := match op with
  | 0 => Nat.beq (y_sg a) (y_sg b)
  | 1 => !(Nat.beq (y_sg a) (y_sg b))
  | 2 => Nat.blt (y_sg a) (y_sg b)
  | 3 => Nat.ble (y_sg b) (y_sg a)
  | 4 => Nat.blt (y_sg b) (y_sg a)
  | _ => Nat.ble (y_sg a) (y_sg b)
def y_P (op : Nat) (x y : Int32) : Prop := match op with
  | 0 => x = y
  | 1 => ¬ x = y
  | 2 => x < y
  | 3 => y ≤ x
  | 4 => y < x
  | _ => x ≤ y
def y_eqI : yI → yI → Bool
  | .inl a, .inl b => Nat.beq a b
  | .inr a, .inr b => Nat.beq a b
  | _, _ => false
def y_look : yF → Nat → yI → yI → Option Bool
  | [], _, _, _ => none
  | q :: r, op, a, b => bif Nat.beq q.1 op && (y_eqI q.2.1 a && y_eqI q.2.2.1 b) then some q.2.2.2 else y_look r op a b
def y_cond (hy : yF) (op : Nat) : yI → yI → Option Bool
  | .inl a, .inl b => some (y_cmp op a b)
  | a, b => y_look hy op a b
def y_H (κ : yK) (hy : yF) : Prop := ∀ q ∈ hy, (y_P q.1 (y_i κ q.2.1) (y_i κ q.2.2.1) ↔ q.2.2.2 = true)
def y_op : ClassFile.Cond → Nat
  | .eq => 0
  | .ne => 1
  | .lt => 2
  | .ge => 3
  | .gt => 4
  | .le => 5
-- results that are told
def y_lookT : yT → Nat → yI → yI → Option yI
  | [], _, _, _ => none
  | q :: r, op, a, b => bif Nat.beq q.1 op && (y_eqI q.2.1 a && y_eqI q.2.2.1 b) then some q.2.2.2 else y_lookT r op a b
/-- what an operation answers: 0 iand, 1 ishr, 2 i2c (of ints); 10 land, 11 lor, 12 lshl, 13 lushr, 14 lcmp, 15 l2i, 16 i2l; 20 the same int by another name -/
def y_opv (κ : yK) (op : Nat) (a b r : yI) : Prop := match op with
  | 0 => y_i κ a &&& y_i κ b = y_i κ r
  | 1 => y_i κ a >>> (y_i κ b &&& 31) = y_i κ r
  | 2 => ((y_i κ a).toUInt32 % 65536).toInt32 = y_i κ r
  | 10 => y_l κ a &&& y_l κ b = y_l κ r
  | 11 => y_l κ a ||| y_l κ b = y_l κ r
  | 12 => y_l κ a <<< ((y_i κ b).toInt64 &&& 63) = y_l κ r
  | 13 => ((y_l κ a).toUInt64 >>> ((y_i κ b).toInt64.toUInt64 &&& Int64.toUInt64 63)).toInt64 = y_l κ r
  | 14 => lg_cmp (y_l κ a) (y_l κ b) = y_i κ r
  | 15 => (y_l κ a).toInt32 = y_i κ r
  | 16 => (y_i κ a).toInt64 = y_l κ r
  | 20 => y_i κ a = y_i κ r
  | _ => False
def y_T (κ : yK) (tb : yT) : Prop := ∀ q ∈ tb, y_opv κ q.1 q.2.1 q.2.2.1 q.2.2.2
-- the run
def y_find : List (Nat × yO) → Nat → Option yO
  | [], _ => none
  | q :: r, pc => bif Nat.beq q.1 pc then some q.2 else y_find r pc
def y_lget : yL → Nat → Option yV
  | [], _ => none
  | q :: r, i => bif Nat.beq q.1 i then some q.2 else y_lget r i
def y_lset (l : yL) (i : Nat) (v : yV) : yL := (i, v) :: l.filter (fun q => !(q.1 == i) && !(q.1 + 1 == i && y_cat q.2 == 2))
def y_lset2 (l : yL) (i : Nat) (v : yV) : yL := (i, v) :: l.filter (fun q => !(q.1 == i) && (!(q.1 == i + 1) && !(q.1 + 1 == i && y_cat q.2 == 2)))
def y_args : Nat → List yV → yL
  | _, [] => []
  | i, v :: vs => (i, v) :: y_args (if y_cat v = 2 then i + 2 else i + 1) vs
def y_cats : List yV → Nat
  | [] => 0
  | v :: vs => y_cat v + y_cats vs
/-- an operation on two ints: numbers are computed, else it is looked up -/
def y_bin (tb : yT) (op : Nat) (f : Nat → Nat → Option Nat) : List yV → Option (List yV)
  | .inl b :: .inl a :: r => match a, b with
    | .inl x, .inl y => (f x y).map (fun v => .inl (.inl v) :: r)
    | _, _ => (y_lookT tb op a b).map (fun v => .inl v :: r)
  | _ => none
def y_add (a b : Nat) : Option Nat := some ((a + b) % 4294967296)
def y_sub (a b : Nat) : Option Nat := some ((a + (4294967296 - b % 4294967296)) % 4294967296)
def y_mul (a b : Nat) : Option Nat := some (a * b % 4294967296)
def y_and (a b : Nat) : Option Nat := some (Nat.land a b)
def y_or (a b : Nat) : Option Nat := some (Nat.lor a b)
def y_shl (a b : Nat) : Option Nat := bif Nat.blt b 32 then some (a * 2 ^ b % 4294967296) else none
def y_shr (a b : Nat) : Option Nat := bif Nat.blt b 32 && Nat.blt a 2147483648 then some (a / 2 ^ b) else none
def y_ushr (a b : Nat) : Option Nat := bif Nat.blt b 32 && Nat.blt a 4294967296 then some (a / 2 ^ b) else none
def y_rem (a b : Nat) : Option Nat := bif Nat.blt 0 b && (Nat.blt b 2147483648 && Nat.blt a 2147483648) then some (a % b) else none
/-- an operation of longs that is looked up -/
def y_tabL (tb : yT) (op : Nat) (toInt : Bool) : List yV → Option (List yV)
  | .inr (.inl b) :: .inr (.inl a) :: r => (y_lookT tb op a b).map (fun v => (bif toInt then .inl v else .inr (.inl v)) :: r)
  | _ => none
def y_tabS (tb : yT) (op : Nat) : List yV → Option (List yV)
  | .inl b :: .inr (.inl a) :: r => (y_lookT tb op a b).map (fun v => .inr (.inl v) :: r)
  | _ => none
def y_off (pc : Nat) (off : Int) : Option Nat := if 0 ≤ (pc : Int) + off then some ((pc : Int) + off).toNat else none
def y_swT (pc : Nat) (lo hi : Int) (d : Int) (offs : Array Int) (hy : yF) : yI → Option Nat
  | .inl n => if (y_sg n : Int) - 2147483648 < lo ∨ hi < (y_sg n : Int) - 2147483648 then y_off pc d else match offs[((y_sg n : Int) - 2147483648 - lo).toNat]? with
    | some o => y_off pc o
    | none => none
  | .inr k => if (y_look hy 2 (.inr k) (.inl ((lo % 4294967296).toNat)) = some true ∧ -2147483648 ≤ lo ∧ lo ≤ 2147483647) ∨ (y_look hy 4 (.inr k) (.inl ((hi % 4294967296).toNat)) = some true ∧ -2147483648 ≤ hi ∧ hi ≤ 2147483647) then y_off pc d else none
/-- an int of the script, by the name that is told for it -/
def y_sub1 (tb : yT) (j : Nat) : yI := match y_lookT tb 20 (.inr j) (.inr j) with
  | some r => r
  | none => .inr j
/-- what may be written into a field: an int, a boolean, a reference -/
def y_pv : Nat → yV → Bool
  | 0, .inl _ => true
  | 1, .inl (.inl b) => Nat.ble b 1
  | 2, .inr (.inr _) => true
  | _, _ => false
/-- Math.max (96) and Math.min (97) of two numbers -/
def y_mm (r3 : Nat) : List yV → Option (List yV)
  | .inl (.inl y) :: .inl (.inl x) :: r => bif Nat.ble (y_cats r) 8 then (bif Nat.beq r3 96 then some (.inl (.inl (bif y_cmp 2 x y then y else x)) :: r) else bif Nat.beq r3 97 then some (.inl (.inl (bif y_cmp 2 y x then y else x)) :: r) else none) else none
  | _ => none
/-- static methods that are no calls here: arraycopy, max, min -/
def y_nat (r3 : Nat) : Bool := Nat.beq r3 98 || (Nat.beq r3 96 || Nat.beq r3 97)
/-- an instruction that is no call and no return -/
def y_step (sc : Bool) (L : Nat) (hy : yF) (tb : yT) (pc : Nat) (o : yO) (l : yL) (st : List yV) (h : List yC) (c n : Nat) : Option yS :=
  let nx := o.2.1
  let stk : Option (List yV) → Option yS := fun st' => st'.map (fun st' => (nx, l, st', h, c, n))
  match o.1 with
  | .iconst _ | .bipush _ | .sipush _ | .ldc _ | .ldc_w _ => some (nx, l, .inl (.inl o.2.2.1) :: st, h, c, n)
  | .lconst _ | .ldc2_w _ => some (nx, l, .inr (.inl (.inl o.2.2.1)) :: st, h, c, n)
  | .iload_n k => match y_lget l k with
    | some (.inl a) => some (nx, l, .inl a :: st, h, c, n)
    | _ => none
  | .iload k => match y_lget l k with
    | some (.inl a) => some (nx, l, .inl a :: st, h, c, n)
    | _ => none
  | .lload_n k => match y_lget l k with
    | some (.inr (.inl a)) => some (nx, l, .inr (.inl a) :: st, h, c, n)
    | _ => none
  | .lload k => match y_lget l k with
    | some (.inr (.inl a)) => some (nx, l, .inr (.inl a) :: st, h, c, n)
    | _ => none
  | .aload_n k => match y_lget l k with
    | some (.inr (.inr (some i))) => some (nx, l, .inr (.inr (some i)) :: st, h, c, n)
    | _ => none
  | .aload k => match y_lget l k with
    | some (.inr (.inr (some i))) => some (nx, l, .inr (.inr (some i)) :: st, h, c, n)
    | _ => none
  | .istore_n k => match st with
    | .inl a :: r => some (nx, y_lset l k (.inl a), r, h, c, n)
    | _ => none
  | .istore k => match st with
    | .inl a :: r => some (nx, y_lset l k (.inl a), r, h, c, n)
    | _ => none
  | .lstore_n k => match st with
    | .inr (.inl a) :: r => some (nx, y_lset2 l k (.inr (.inl a)), r, h, c, n)
    | _ => none
  | .lstore k => match st with
    | .inr (.inl a) :: r => some (nx, y_lset2 l k (.inr (.inl a)), r, h, c, n)
    | _ => none
  | .astore_n k => match st with
    | .inr (.inr (some i)) :: r => some (nx, y_lset l k (.inr (.inr (some i))), r, h, c, n)
    | _ => none
  | .iinc k _ => match y_lget l k with
    | some (.inl (.inl a)) => some (nx, y_lset l k (.inl (.inl ((a + o.2.2.1) % 4294967296))), st, h, c, n)
    | _ => none
  | .iadd => stk (y_bin tb 99 y_add st)
  | .isub => stk (y_bin tb 99 y_sub st)
  | .imul => stk (y_bin tb 99 y_mul st)
  | .iand => stk (y_bin tb 0 y_and st)
  | .ior => stk (y_bin tb 99 y_or st)
  | .ishl => stk (y_bin tb 99 y_shl st)
  | .ishr => stk (y_bin tb 1 y_shr st)
  | .iushr => stk (y_bin tb 99 y_ushr st)
  | .irem => stk (y_bin tb 99 y_rem st)
  | .i2c => match st with
    | .inl a :: r => stk ((y_lookT tb 2 a a).map (fun v => .inl v :: r))
    | _ => none
  | .l2i => match st with
    | .inr (.inl a) :: r => stk ((y_lookT tb 15 a a).map (fun v => .inl v :: r))
    | _ => none
  | .i2l => match st with
    | .inl a :: r => stk ((y_lookT tb 16 a a).map (fun v => .inr (.inl v) :: r))
    | _ => none
  | .land => stk (y_tabL tb 10 false st)
  | .lor => stk (y_tabL tb 11 false st)
  | .lshl => stk (y_tabS tb 12 st)
  | .lushr => stk (y_tabS tb 13 st)
  | .lcmp => stk (y_tabL tb 14 true st)
  | .dup => match st with
    | v :: r => bif Nat.beq (y_cat v) 1 then some (nx, l, v :: v :: r, h, c, n) else none
    | _ => none
  | .dup2 => match st with
    | v :: w :: r => bif Nat.beq (y_cat v) 1 && Nat.beq (y_cat w) 1 then some (nx, l, v :: w :: v :: w :: r, h, c, n) else none
    | _ => none
  | .pop => match st with
    | v :: r => bif Nat.beq (y_cat v) 1 then some (nx, l, r, h, c, n) else none
    | _ => none
  | .goto _ => some (o.2.2.1, l, st, h, c, n)
  | .ifCond k _ => match st with
    | .inl a :: r => (y_cond hy (y_op k) a (.inl 0)).map (fun t => (bif t then o.2.2.1 else nx, l, r, h, c, n))
    | _ => none
  | .if_icmp k _ => match st with
    | .inl b :: .inl a :: r => (y_cond hy (y_op k) a b).map (fun t => (bif t then o.2.2.1 else nx, l, r, h, c, n))
    | _ => none
  | .tableswitch d lo hi offs => match st with
    | .inl a :: r => (y_swT pc lo hi d offs hy a).map (fun t => (t, l, r, h, c, n))
    | _ => none
  | .lookupswitch d ps => match st with
    | .inl (.inl a) :: r => (y_off pc (Op.lookupswitch.offset ps.toList d ((y_sg a : Int) - 2147483648))).map (fun t => (t, l, r, h, c, n))
    | _ => none
  | .getfield _ => match st with
    | .inr (.inr (some (i + 1))) :: r => match h[i]? with
      | some (.inl (ci, fs)) => bif Nat.beq ci o.2.2.1 then (match fs[o.2.2.2.1]? with
        | some v => some (nx, l, v :: r, h, c, n)
        | none => none) else none
      | _ => none
    | _ => none
  | .putfield _ => match st with
    | v :: .inr (.inr (some (i + 1))) :: r => match h[i]? with
      | some (.inl (ci, fs)) => bif Nat.beq ci o.2.2.1 && (Nat.blt o.2.2.2.1 fs.length && y_pv o.2.2.2.2 v) then some (nx, l, r, h.set i (.inl (ci, fs.set o.2.2.2.1 v)), c, n) else none
      | _ => none
    | _ => none
  | .iaload => match st with
    | .inl (.inl j) :: .inr (.inr (some (i + 1))) :: r => match h[i]? with
      | some (.inr (.inl (0, len, m))) => bif Nat.blt j len && Nat.blt j 2147483648 then some (nx, l, .inl (y_get m j) :: r, h, c, n) else none
      | _ => none
    | .inl (.inl j) :: .inr (.inr (some 0)) :: r => bif sc && (Nat.blt j L && Nat.blt j 2147483648) then some (nx, l, .inl (y_sub1 tb j) :: r, h, c, n) else none
    | _ => none
  | .baload => match st with
    | .inl (.inl j) :: .inr (.inr (some (i + 1))) :: r => match h[i]? with
      | some (.inr (.inl (1, len, m))) => bif Nat.blt j len && Nat.blt j 2147483648 then some (nx, l, .inl (y_get m j) :: r, h, c, n) else none
      | _ => none
    | _ => none
  | .aaload => match st with
    | .inl (.inl j) :: .inr (.inr (some (i + 1))) :: r => match h[i]? with
      | some (.inr (.inr (_, len, m))) => bif Nat.blt j len && Nat.blt j 2147483648 then some (nx, l, .inr (.inr (y_getr m j)) :: r, h, c, n) else none
      | _ => none
    | _ => none
  | .iastore => match st with
    | .inl v :: .inl (.inl j) :: .inr (.inr (some (i + 1))) :: r => match h[i]? with
      | some (.inr (.inl (0, len, m))) => bif Nat.blt j len && Nat.blt j 2147483648 then some (nx, l, r, h.set i (.inr (.inl (0, len, (j, v) :: m))), c, n) else none
      | _ => none
    | _ => none
  | .bastore => match st with
    | .inl (.inl v) :: .inl (.inl j) :: .inr (.inr (some (i + 1))) :: r => match h[i]? with
      | some (.inr (.inl (1, len, m))) => bif Nat.ble v 1 && (Nat.blt j len && Nat.blt j 2147483648) then some (nx, l, r, h.set i (.inr (.inl (1, len, (j, .inl v) :: m))), c, n) else none
      | _ => none
    | _ => none
  | .castore => match st with
    | .inl v :: .inl (.inl j) :: .inr (.inr (some (i + 1))) :: r => match h[i]? with
      | some (.inr (.inl (2, len, m))) => match y_lookT tb 2 v v with
        | some w => bif Nat.blt j len && Nat.blt j 2147483648 then some (nx, l, r, h.set i (.inr (.inl (2, len, (j, w) :: m))), c, n) else none
        | none => none
      | _ => none
    | _ => none
  | .aastore => match st with
    | .inr (.inr (some (v + 1))) :: .inl (.inl j) :: .inr (.inr (some (i + 1))) :: r => match h[i]? with
      | some (.inr (.inr (ci, len, m))) => match h[v]? with
        | some (.inl (cv, _)) => bif Nat.beq cv ci && (Nat.blt j len && Nat.blt j 2147483648) then some (nx, l, r, h.set i (.inr (.inr (ci, len, (j, some (v + 1)) :: m))), c, n) else none
        | _ => none
      | _ => none
    | _ => none
  | .arraylength => match st with
    | .inr (.inr (some 0)) :: r => bif sc && Nat.blt L 2147483648 then some (nx, l, .inl (.inl L) :: r, h, c, n) else none
    | .inr (.inr (some (i + 1))) :: r => match h[i]? with
      | some (.inr (.inl (_, len, _))) => some (nx, l, .inl (.inl len) :: r, h, c, n)
      | _ => none
    | _ => none
  | .new _ => some (nx, l, .inr (.inr (some (h.length + 1))) :: st, h ++ [.inl (o.2.2.1, (List.range o.2.2.2.1).map (fun k => bif Nat.testBit o.2.2.2.2 k then .inr (.inr none) else .inl (.inl 0)))], c + 1, n + o.2.2.2.1)
  | .newarray _ => match st with
    | .inl (.inl k) :: r => bif Nat.ble k 100000 then some (nx, l, .inr (.inr (some (h.length + 1))) :: r, h ++ [.inr (.inl (o.2.2.1, k, []))], c + 1, n + k) else none
    | _ => none
  | .anewarray _ => match st with
    | .inl (.inl k) :: r => bif Nat.ble k 100000 then some (nx, l, .inr (.inr (some (h.length + 1))) :: r, h ++ [.inr (.inr (o.2.2.1, k, []))], c + 1, n + k) else none
    | _ => none
  | .invokespecial _ => match st with
    | .inr (.inr (some (_ + 1))) :: r => bif Nat.beq o.2.2.2.2 99 && Nat.ble (y_cats r) 8 then some (nx, l, r, h, c, n) else none
    | _ => none
  | .invokestatic _ => bif Nat.beq o.2.2.2.2 98 then (match st with
    | .inl (.inl k) :: .inl (.inl dp) :: .inr (.inr (some (j + 1))) :: .inl (.inl sp) :: .inr (.inr (some (i + 1))) :: r => match h[i]?, h[j]? with
      | some (.inr (.inl (0, n0, m0))), some (.inr (.inl (0, n1, m1))) =>
        bif Nat.beq o.2.2.2.2 98 && (Nat.ble (y_cats r) 8 && (Nat.ble (sp + k) n0 && (Nat.ble (dp + k) n1 && (Nat.blt sp 2147483648 && (Nat.blt dp 2147483648 && Nat.blt k 2147483648))))) then
          some (nx, l, r, h.set j (.inr (.inl (0, n1, (List.range k).map (fun x => (dp + x, y_get m0 (sp + x))) ++ m1))), c, n) else none
      | _, _ => none
    | _ => none) else stk (y_mm o.2.2.2.2 st)
  | _ => none
/-- a call: its kind (1 virtual, 2 static, 3 a constructor) -/
def y_kind (o : yO) : Nat := match o.1 with
  | .invokevirtual _ => 1
  | .invokestatic _ => bif y_nat o.2.2.2.2 then 0 else 2
  | .invokespecial _ => bif Nat.beq o.2.2.2.2 99 then 0 else 3
  | _ => 0
def y_isRet (o : yO) : Bool := match o.1 with
  | .ireturn | .lreturn | .return_ => true
  | _ => false
/-- what the callee is given, and what stays on the stack -/
def y_split (kd na ci : Nat) (h : List yC) (st : List yV) : Option (List yV × List yV) :=
  bif Nat.beq kd 2 then (bif Nat.ble na st.length then some ((st.take na).reverse, st.drop na) else none) else match st.drop na with
    | .inr (.inr (some (i + 1))) :: r => match h[i]? with
      | some (.inl (cj, _)) => bif Nat.beq cj ci then some (.inr (.inr (some (i + 1))) :: (st.take na).reverse, r) else none
      | _ => none
    | _ => none
/-- what a method answers from where it stands at a return -/
def y_end (e : yE) (S : yS) : Option (Option yV) := match y_find e.2.2.2.2 S.1 with
  | none => none
  | some o => match o.1, S.2.2.1 with
    | .ireturn, [.inl a] => match e.2.2.2.1 with
      | some .int => some (some (.inl a))
      | some .boolean => match a with
        | .inl b => bif Nat.ble b 1 then some (some (.inl a)) else none
        | _ => none
      | some .char => match a with
        | .inl b => bif Nat.ble b 65535 then some (some (.inl a)) else none
        | _ => none
      | _ => none
    | .lreturn, [.inr (.inl a)] => if e.2.2.2.1 = some .long then some (some (.inr (.inl a))) else none
    | .return_, [] => if e.2.2.2.1 = none then some none else none
    | _, _ => none
def y_psh : Option yV → List yV → List yV
  | none, r => r
  | some v, r => v :: r
def y_go (mt : List yE) (L : Nat) (hy : yF) (tb : yT) : Nat → Bool → Nat → yE → yS → Option yS
  | 0, _, _, _, _ => none
  | f + 1, sc, d, e, S =>
    match y_find e.2.2.2.2 S.1 with
    | none => some S
    | some o =>
      bif y_isRet o then some S else
      bif Nat.beq (y_kind o) 0 then (y_step sc L hy tb S.1 o S.2.1 S.2.2.1 S.2.2.2.1 S.2.2.2.2.1 S.2.2.2.2.2).bind (fun S' => y_go mt L hy tb f sc d e S') else
      bif Nat.beq d 0 then none else
      (mt[o.2.2.1]?).bind fun e' => (y_split (y_kind o) o.2.2.2.1 o.2.2.2.2 S.2.2.2.1 S.2.2.1).bind fun ar =>
        bif Nat.ble (y_cats ar.2) 8 && Nat.ble (y_cats ar.1) e'.2.2.1 then
          (y_go mt L hy tb f false (d - 1) e' (0, y_args 0 ar.1, [], S.2.2.2.1, 0, 0)).bind fun S1 => (y_end e' S1).bind fun rv =>
            y_go mt L hy tb f sc d e (o.2.1, S.2.1, y_psh rv ar.2, S1.2.2.2.1, S.2.2.2.2.1 + S1.2.2.2.2.1, S.2.2.2.2.2 + S1.2.2.2.2.2)
        else none
end
section
theorem y_px {T : Type} {l l' : List T} {i : Nat} {x : T} (h : l <+: l') (hi : l[i]? = some x) : l'[i]? = some x := by
  obtain ⟨t, rfl⟩ := h
  have hl : i < l.length := (List.getElem?_eq_some_iff.mp hi).1
  rw [List.getElem?_append_left hl]
  exact hi
section YB
variable {κ : yK} {α α' : List Nat} {tys tys' : List (ClassId × FieldType)}
theorem y_r_mono {i a : Nat} (h : α <+: α') (hi : y_r κ α i = some a) : y_r κ α' i = some a := by
  cases i with
  | zero => exact hi
  | succ i => exact y_px h hi
theorem y_d_mono {v : yV} {x : Value} (h : α <+: α') (hv : y_d κ α v = some x) : y_d κ α' v = some x := by
  rcases v with a | a | _ | i
  · exact hv
  · exact hv
  · exact hv
  · obtain ⟨a, ha, rfl⟩ := Option.map_eq_some_iff.mp hv
    exact Option.map_eq_some_iff.mpr ⟨a, y_r_mono h ha, rfl⟩
theorem y_ds_nil {xs : List Value} (h : y_ds κ α [] xs) : xs = [] := by
  cases xs with
  | nil => rfl
  | cons x xs => simp [y_ds] at h
theorem y_ds_cons {v : yV} {l : List yV} {xs : List Value} (h : y_ds κ α (v :: l) xs) : ∃ x ys, xs = x :: ys ∧ y_d κ α v = some x ∧ y_ds κ α l ys := by
  cases xs with
  | nil => simp [y_ds] at h
  | cons x ys =>
    have h' : y_d κ α v :: l.map (y_d κ α) = some x :: ys.map some := h
    obtain ⟨h1, h2⟩ := List.cons.inj h'
    exact ⟨x, ys, rfl, h1, h2⟩
theorem y_ds_mk {v : yV} {l : List yV} {x : Value} {ys : List Value} (h1 : y_d κ α v = some x) (h2 : y_ds κ α l ys) : y_ds κ α (v :: l) (x :: ys) := by
  show y_d κ α v :: l.map (y_d κ α) = some x :: ys.map some
  rw [h1, show l.map (y_d κ α) = ys.map some from h2]
theorem y_ds_0 : y_ds κ α [] [] := rfl
theorem y_ds_i {a : yI} {l : List yV} {x : Int32} {ys : List Value} (h1 : y_i κ a = x) (h2 : y_ds κ α l ys) : y_ds κ α (.inl a :: l) (.int x :: ys) := y_ds_mk (by rw [← h1]; rfl) h2
theorem y_ds_l {a : yI} {l : List yV} {x : Int64} {ys : List Value} (h1 : y_l κ a = x) (h2 : y_ds κ α l ys) : y_ds κ α (.inr (.inl a) :: l) (.long x :: ys) := y_ds_mk (by rw [← h1]; rfl) h2
theorem y_ds_ci {a : yI} {l : List yV} {xs : List Value} (h : y_ds κ α (.inl a :: l) xs) : ∃ ys, xs = .int (y_i κ a) :: ys ∧ y_ds κ α l ys := by
  obtain ⟨x, ys, rfl, h1, h2⟩ := y_ds_cons h
  cases h1
  exact ⟨ys, rfl, h2⟩
theorem y_ds_cl {a : yI} {l : List yV} {xs : List Value} (h : y_ds κ α (.inr (.inl a) :: l) xs) : ∃ ys, xs = .long (y_l κ a) :: ys ∧ y_ds κ α l ys := by
  obtain ⟨x, ys, rfl, h1, h2⟩ := y_ds_cons h
  cases h1
  exact ⟨ys, rfl, h2⟩
theorem y_ds_cr {i : Nat} {l : List yV} {xs : List Value} (h : y_ds κ α (.inr (.inr (some i)) :: l) xs) : ∃ a ys, xs = .ref a :: ys ∧ y_r κ α i = some a ∧ y_ds κ α l ys := by
  obtain ⟨x, ys, rfl, h1, h2⟩ := y_ds_cons h
  obtain ⟨a, ha, rfl⟩ := Option.map_eq_some_iff.mp h1
  exact ⟨a, ys, rfl, ha, h2⟩
theorem y_ds_len {l : List yV} {xs : List Value} (h : y_ds κ α l xs) : l.length = xs.length := by
  have := congrArg List.length h
  simpa using this
theorem y_ds_get {l : List yV} {xs : List Value} {i : Nat} {v : yV} (h : y_ds κ α l xs) (hi : l[i]? = some v) : ∃ x, xs[i]? = some x ∧ y_d κ α v = some x := by
  have h1 : (l.map (y_d κ α))[i]? = (xs.map some)[i]? := congrArg (fun z : List (Option Value) => z[i]?) h
  rw [List.getElem?_map, List.getElem?_map, hi] at h1
  cases hx : xs[i]? with
  | none => rw [hx] at h1; cases h1
  | some x => rw [hx] at h1; exact ⟨x, rfl, Option.some.inj h1⟩
theorem y_ds_set {l : List yV} {xs : List Value} {v : yV} {x : Value} (k : Nat) (h : y_ds κ α l xs) (hv : y_d κ α v = some x) : y_ds κ α (l.set k v) (xs.set k x) := by
  show (l.set k v).map (y_d κ α) = (xs.set k x).map some
  rw [List.map_set, List.map_set, hv, show l.map (y_d κ α) = xs.map some from h]
theorem y_ds_take {l : List yV} {xs : List Value} (k : Nat) (h : y_ds κ α l xs) : y_ds κ α (l.take k) (xs.take k) := by
  show (l.take k).map (y_d κ α) = (xs.take k).map some
  rw [List.map_take, List.map_take, show l.map (y_d κ α) = xs.map some from h]
theorem y_ds_drop {l : List yV} {xs : List Value} (k : Nat) (h : y_ds κ α l xs) : y_ds κ α (l.drop k) (xs.drop k) := by
  show (l.drop k).map (y_d κ α) = (xs.drop k).map some
  rw [List.map_drop, List.map_drop, show l.map (y_d κ α) = xs.map some from h]
theorem y_ds_rev {l : List yV} {xs : List Value} (h : y_ds κ α l xs) : y_ds κ α l.reverse xs.reverse := by
  show l.reverse.map (y_d κ α) = xs.reverse.map some
  rw [List.map_reverse, List.map_reverse, show l.map (y_d κ α) = xs.map some from h]
theorem y_ds_mono {l : List yV} {xs : List Value} (hα : α <+: α') (h : y_ds κ α l xs) : y_ds κ α' l xs := by
  induction l generalizing xs with
  | nil => rw [y_ds_nil h]; exact y_ds_0
  | cons v l ih =>
    obtain ⟨x, ys, rfl, h1, h2⟩ := y_ds_cons h
    exact y_ds_mk (y_d_mono hα h1) (ih h2)
theorem y_cat_ok {v : yV} {x : Value} (h : y_d κ α v = some x) : x.category = y_cat v := by
  rcases v with a | a | _ | i
  · cases h; rfl
  · cases h; rfl
  · cases h; rfl
  · obtain ⟨a, -, rfl⟩ := Option.map_eq_some_iff.mp h
    rfl
theorem y_cats_ok {l : List yV} {xs : List Value} (h : y_ds κ α l xs) : (xs.map fun v => v.category).sum = y_cats l := by
  induction l generalizing xs with
  | nil => rw [y_ds_nil h]; rfl
  | cons v l ih =>
    obtain ⟨x, ys, rfl, h1, h2⟩ := y_ds_cons h
    rw [List.map_cons, List.sum_cons, ih h2, y_cat_ok h1]
    rfl
theorem y_sl_len {l : List yV} {xs : List Value} (h : y_ds κ α l xs) : (lg_sl xs).length = y_cats l := by
  induction l generalizing xs with
  | nil => rw [y_ds_nil h]; rfl
  | cons v l ih =>
    obtain ⟨x, ys, rfl, h1, h2⟩ := y_ds_cons h
    have e : lg_sl (x :: ys) = (if x.category = 2 then [.val x, .second] else [.val x]) ++ lg_sl ys := rfl
    rw [e, List.length_append, ih h2]
    have hc := y_cat_ok h1
    show _ = y_cat v + y_cats l
    rcases lv_cat x with h3 | h3
    · rw [if_neg (by omega)]
      simp only [List.length_cons, List.length_nil]
      omega
    · rw [if_pos h3]
      simp only [List.length_cons, List.length_nil]
      omega
-- locals
theorem y_dl_cons {q : Nat × yV} {l : yL} {xs : List (Nat × Value)} (h : y_dl κ α (q :: l) xs) : ∃ x ys, xs = (q.1, x) :: ys ∧ y_d κ α q.2 = some x ∧ y_dl κ α l ys := by
  cases xs with
  | nil => simp [y_dl] at h
  | cons x ys =>
    have h' : (q.1, y_d κ α q.2) :: l.map (fun q => (q.1, y_d κ α q.2)) = (x.1, some x.2) :: ys.map (fun q => (q.1, some q.2)) := h
    obtain ⟨h1, h2⟩ := List.cons.inj h'
    obtain ⟨h3, h4⟩ := Prod.mk.inj h1
    refine ⟨x.2, ys, ?_, h4, h2⟩
    rw [h3]
theorem y_dl_nil {xs : List (Nat × Value)} (h : y_dl κ α [] xs) : xs = [] := by
  cases xs with
  | nil => rfl
  | cons x xs => simp [y_dl] at h
theorem y_dl_mk {i : Nat} {v : yV} {l : yL} {x : Value} {ys : List (Nat × Value)} (h1 : y_d κ α v = some x) (h2 : y_dl κ α l ys) : y_dl κ α ((i, v) :: l) ((i, x) :: ys) := by
  show (i, y_d κ α v) :: l.map (fun q => (q.1, y_d κ α q.2)) = (i, some x) :: ys.map (fun q => (q.1, some q.2))
  rw [h1, show l.map (fun q => (q.1, y_d κ α q.2)) = ys.map (fun q => (q.1, some q.2)) from h2]
theorem y_dl_get {l : yL} {xs : List (Nat × Value)} {i : Nat} {v : yV} (h : y_dl κ α l xs) (hi : y_lget l i = some v) : ∃ x, (i, x) ∈ xs ∧ y_d κ α v = some x := by
  induction l generalizing xs with
  | nil => cases hi
  | cons q l ih =>
    obtain ⟨x, ys, rfl, h1, h2⟩ := y_dl_cons h
    unfold y_lget at hi
    cases hb : Nat.beq q.1 i with
    | true =>
      rw [hb] at hi
      have hq : q.2 = v := Option.some.inj hi
      have e : q.1 = i := Nat.eq_of_beq_eq_true hb
      rw [← e, ← hq]
      exact ⟨x, List.mem_cons_self, h1⟩
    | false =>
      rw [hb] at hi
      obtain ⟨y, hy, hd⟩ := ih h2 hi
      exact ⟨y, List.mem_cons_of_mem _ hy, hd⟩
theorem y_dl_mono {l : yL} {xs : List (Nat × Value)} (hα : α <+: α') (h : y_dl κ α l xs) : y_dl κ α' l xs := by
  induction l generalizing xs with
  | nil => rw [y_dl_nil h]; rfl
  | cons q l ih =>
    obtain ⟨x, ys, rfl, h1, h2⟩ := y_dl_cons h
    exact y_dl_mk (y_d_mono hα h1) (ih h2)
theorem y_dl_filter (g : Nat → Nat → Bool) {l : yL} {xs : List (Nat × Value)} (h : y_dl κ α l xs) : y_dl κ α (l.filter (fun q => g q.1 (y_cat q.2))) (xs.filter (fun q => g q.1 q.2.category)) := by
  induction l generalizing xs with
  | nil => rw [y_dl_nil h]; rfl
  | cons q l ih =>
    obtain ⟨x, ys, rfl, h1, h2⟩ := y_dl_cons h
    rw [List.filter_cons, List.filter_cons]
    have hc := y_cat_ok h1
    cases hg : g q.1 (y_cat q.2) with
    | true =>
      rw [if_pos rfl, if_pos (by show g q.1 x.category = true; rw [hc]; exact hg)]
      exact y_dl_mk h1 (ih h2)
    | false =>
      rw [if_neg (by simp), if_neg (by show ¬ g q.1 x.category = true; rw [hc, hg]; simp)]
      exact ih h2
theorem y_dl_set {l : yL} {xs : List (Nat × Value)} (i : Nat) {v : yV} {x : Value} (h : y_dl κ α l xs) (hv : y_d κ α v = some x) : y_dl κ α (y_lset l i v) ((i, x) :: xs.filter (fun q => !(q.1 == i) && !(q.1 + 1 == i && q.2.category == 2))) :=
  y_dl_mk hv (y_dl_filter (fun a c => !(a == i) && !(a + 1 == i && c == 2)) h)
theorem y_dl_set2 {l : yL} {xs : List (Nat × Value)} (i : Nat) {v : yV} {x : Value} (h : y_dl κ α l xs) (hv : y_d κ α v = some x) : y_dl κ α (y_lset2 l i v) ((i, x) :: xs.filter (fun q => !(q.1 == i) && (!(q.1 == i + 1) && !(q.1 + 1 == i && q.2.category == 2)))) :=
  y_dl_mk hv (y_dl_filter (fun a c => !(a == i) && (!(a == i + 1) && !(a + 1 == i && c == 2))) h)
theorem y_dl_args {l : List yV} {xs : List Value} (i : Nat) (h : y_ds κ α l xs) : y_dl κ α (y_args i l) (lv_args i xs) := by
  induction l generalizing xs i with
  | nil => rw [y_ds_nil h]; rfl
  | cons v l ih =>
    obtain ⟨x, ys, rfl, h1, h2⟩ := y_ds_cons h
    show y_dl κ α ((i, v) :: y_args (if y_cat v = 2 then i + 2 else i + 1) l) ((i, x) :: lv_args (if x.category = 2 then i + 2 else i + 1) ys)
    rw [y_cat_ok h1]
    exact y_dl_mk h1 (ih _ h2)
-- the heap
theorem y_c_mono {c : yC} {e : va_E} (hα : α <+: α') (ht : tys <+: tys') (h : y_c κ α tys c e) : y_c κ α' tys' c e := by
  rcases c with ⟨ci, fs⟩ | ⟨k, n, m⟩ | ⟨ci, n, m⟩
  · obtain ⟨vs, h1, h2⟩ := h
    exact ⟨vs, y_ds_mono hα h1, h2⟩
  · obtain ⟨cA, t0, f, h1, h2, h3⟩ := h
    exact ⟨cA, t0, f, y_px ht h1, h2, h3⟩
  · obtain ⟨cA, t0, r, f, h0, h1, h2, h3⟩ := h
    refine ⟨cA, t0, r, f, h0, y_px ht h1, fun i hi => ?_, h3⟩
    have h4 := h2 i hi
    cases hm : y_getr m i with
    | none => rw [hm] at h4; exact h4
    | some j =>
      rw [hm] at h4
      obtain ⟨a, h5, h6⟩ := h4
      exact ⟨a, y_r_mono hα h5, h6⟩
theorem y_h_push {sh : List yC} {ws : va_W} {c : yC} {e : va_E} (q : Nat) (ht : tys <+: tys') (h : y_h κ α tys sh ws) (hc : y_c κ (α ++ [q]) tys' c e) : y_h κ (α ++ [q]) tys' (sh ++ [c]) (ws ++ [(q, e)]) := by
  obtain ⟨h1, h2, h3⟩ := h
  refine ⟨by simp [h1], by simp [h2], fun i c' hi => ?_⟩
  have hα : α <+: α ++ [q] := List.prefix_append _ _
  by_cases hl : i < sh.length
  · rw [List.getElem?_append_left hl] at hi
    obtain ⟨a, e', g1, g2, g3⟩ := h3 i c' hi
    refine ⟨a, e', y_px hα g1, ?_, y_c_mono hα ht g3⟩
    rw [List.getElem?_append_left (by omega)]
    exact g2
  · have hi' := (List.getElem?_eq_some_iff.mp hi).1
    rw [List.length_append] at hi'
    have e0 : i = sh.length := by simp at hi'; omega
    subst e0
    have e1 : c = c' := by simpa using hi
    subst e1
    refine ⟨q, e, ?_, ?_, hc⟩
    · rw [← h1]; simp
    · rw [← h2]; simp
theorem y_h_set {sh : List yC} {ws : va_W} {i a : Nat} {c0 c : yC} {e : va_E} (h : y_h κ α tys sh ws) (hi : sh[i]? = some c0) (ha : α[i]? = some a) (hc : y_c κ α tys c e) : y_h κ α tys (sh.set i c) (ws.set i (a, e)) := by
  obtain ⟨h1, h2, h3⟩ := h
  have hl : i < sh.length := (List.getElem?_eq_some_iff.mp hi).1
  refine ⟨by simp [h1], by simp [h2], fun j c' hj => ?_⟩
  by_cases hji : i = j
  · subst hji
    rw [List.getElem?_set_self hl] at hj
    cases hj
    exact ⟨a, e, ha, List.getElem?_set_self (by omega), hc⟩
  · rw [List.getElem?_set_ne hji] at hj
    obtain ⟨a', e', g1, g2, g3⟩ := h3 j c' hj
    exact ⟨a', e', g1, by rw [List.getElem?_set_ne hji]; exact g2, g3⟩
end YB
-- numbers
theorem y_tn (n : Nat) : (nI n).toBitVec.toNat = n % 4294967296 := by
  show (BitVec.ofNat 32 n).toNat = _
  rw [BitVec.toNat_ofNat]
theorem y_int (n : Nat) : (nI n).toInt = (y_sg n : Int) - 2147483648 := by
  show (nI n).toBitVec.toInt = _
  rw [BitVec.toInt_eq_toNat_cond, y_tn]
  unfold y_sg
  split <;> omega
theorem y_ext {a b : Nat} (h : a % 4294967296 = b % 4294967296) : nI a = nI b := by
  apply Int32.toBitVec_inj.mp
  apply BitVec.eq_of_toNat_eq
  rw [y_tn, y_tn, h]
theorem y_nmod (a : Nat) : nI (a % 4294967296) = nI a := y_ext (by omega)
theorem y_lt {a b : Nat} : nI a < nI b ↔ y_sg a < y_sg b := by
  rw [Int32.lt_iff_toInt_lt, y_int, y_int]; omega
theorem y_le {a b : Nat} : nI a ≤ nI b ↔ y_sg a ≤ y_sg b := by
  rw [Int32.le_iff_toInt_le, y_int, y_int]; omega
theorem y_eq {a b : Nat} : nI a = nI b ↔ y_sg a = y_sg b := by
  rw [← Int32.toInt_inj, y_int, y_int]; omega
theorem y_beq {a b : Nat} : Nat.beq a b = true ↔ a = b := ⟨Nat.eq_of_beq_eq_true, fun h => by rw [h]; exact Nat.beq_refl b⟩
theorem y_blt {a b : Nat} : Nat.blt a b = true ↔ a < b := ⟨fun h => Nat.le_of_ble_eq_true h, fun h => Nat.ble_eq_true_of_le h⟩
theorem y_ble {a b : Nat} : Nat.ble a b = true ↔ a ≤ b := ⟨Nat.le_of_ble_eq_true, Nat.ble_eq_true_of_le⟩
theorem y_cmp_ok (op a b : Nat) : y_P op (nI a) (nI b) ↔ y_cmp op a b = true := by
  unfold y_P y_cmp
  split
  · rw [y_beq]; exact y_eq
  · rw [Bool.not_eq_true', ← Bool.not_eq_true, y_beq]; exact not_congr y_eq
  · rw [y_blt]; exact y_lt
  · rw [y_ble]; exact y_le
  · rw [y_blt]; exact y_lt
  · rw [y_ble]; exact y_le
theorem y_eqI_ok {a b : yI} (h : y_eqI a b = true) : a = b := by
  rcases a with a | a <;> rcases b with b | b <;> first | (rw [y_beq.mp h]) | cases h
theorem y_look_ok {κ : yK} {hy : yF} {op : Nat} {a b : yI} {t : Bool} (hH : y_H κ hy) (h : y_look hy op a b = some t) : y_P op (y_i κ a) (y_i κ b) ↔ t = true := by
  induction hy with
  | nil => cases h
  | cons q r ih =>
    unfold y_look at h
    cases hc : (Nat.beq q.1 op && (y_eqI q.2.1 a && y_eqI q.2.2.1 b)) with
    | true =>
      rw [hc] at h
      simp only [Bool.and_eq_true] at hc
      obtain ⟨h1, h2, h3⟩ := hc
      have e1 := y_beq.mp h1
      have e2 := y_eqI_ok h2
      have e3 := y_eqI_ok h3
      have e4 : q.2.2.2 = t := Option.some.inj h
      rw [← e1, ← e2, ← e3, ← e4]
      exact hH q List.mem_cons_self
    | false =>
      rw [hc] at h
      exact ih (fun q hq => hH q (List.mem_cons_of_mem _ hq)) h
theorem y_lookT_ok {κ : yK} {tb : yT} {op : Nat} {a b v : yI} (hT : y_T κ tb) (h : y_lookT tb op a b = some v) : y_opv κ op a b v := by
  induction tb with
  | nil => cases h
  | cons q r ih =>
    unfold y_lookT at h
    cases hc : (Nat.beq q.1 op && (y_eqI q.2.1 a && y_eqI q.2.2.1 b)) with
    | true =>
      rw [hc] at h
      simp only [Bool.and_eq_true] at hc
      obtain ⟨h1, h2, h3⟩ := hc
      have e1 := y_beq.mp h1
      have e2 := y_eqI_ok h2
      have e3 := y_eqI_ok h3
      have e4 : q.2.2.2 = v := Option.some.inj h
      rw [← e1, ← e2, ← e3, ← e4]
      exact hT q List.mem_cons_self
    | false =>
      rw [hc] at h
      exact ih (fun q hq => hT q (List.mem_cons_of_mem _ hq)) h
theorem y_cond_ok {κ : yK} {hy : yF} {op : Nat} {a b : yI} {t : Bool} (hH : y_H κ hy) (h : y_cond hy op a b = some t) : y_P op (y_i κ a) (y_i κ b) ↔ t = true := by
  rcases a with a | a <;> rcases b with b | b
  · have e : y_cmp op a b = t := Option.some.inj h
    rw [← e]
    exact y_cmp_ok op a b
  · exact y_look_ok hH h
  · exact y_look_ok hH h
  · exact y_look_ok hH h
theorem y_and_ok (a b : Nat) : nI a &&& nI b = nI (Nat.land a b) := by
  apply Int32.toBitVec_inj.mp
  apply BitVec.eq_of_toNat_eq
  rw [Int32.toBitVec_and, BitVec.toNat_and, y_tn, y_tn, y_tn]
  exact (Nat.and_mod_two_pow (n := 32) (a := a) (b := b)).symm
theorem y_or_ok (a b : Nat) : nI a ||| nI b = nI (Nat.lor a b) := by
  apply Int32.toBitVec_inj.mp
  apply BitVec.eq_of_toNat_eq
  rw [Int32.toBitVec_or, BitVec.toNat_or, y_tn, y_tn, y_tn]
  exact (Nat.or_mod_two_pow (n := 32) (a := a) (b := b)).symm
theorem y_sub_ok (a b : Nat) : nI a - nI b = nI ((a + (4294967296 - b % 4294967296)) % 4294967296) := by
  apply Int32.toBitVec_inj.mp
  apply BitVec.eq_of_toNat_eq
  rw [Int32.toBitVec_sub, BitVec.toNat_sub, y_tn, y_tn, y_tn]
  omega
theorem y_sm : ∀ b, b < 32 → ((nI b &&& 31).toBitVec.smod 32).toNat = b := by decide +kernel
theorem y_um : ∀ b, b < 32 → (((nI b).toUInt32 &&& Int32.toUInt32 31).toBitVec % 32).toNat = b := by decide +kernel
theorem y_shl_ok {a b : Nat} (hb : b < 32) : nI a <<< (nI b &&& 31) = nI (a * 2 ^ b % 4294967296) := by
  apply Int32.toBitVec_inj.mp
  apply BitVec.eq_of_toNat_eq
  rw [pk_shl (nI a) (nI b &&& 31) b (y_sm b hb), y_tn, y_tn]
  rw [show (2 : Nat) ^ 32 = 4294967296 from rfl, Nat.mod_mod, Nat.mod_mul_mod]
theorem y_nz {b : Nat} (h0 : 0 < b) (h : b < 2147483648) : ¬ nI b = 0 := nI_ne0 h0 h
end
section

/-- the constructors that only their nest may call -/
def zN : List (String × Nat × MethodName × String) := [("TokenNets", 11, ⟨"TokenNets$Net", "<init>", "()V"⟩, "TokenNets"), ("TokenNets$History", 17, ⟨"TokenNets$Net", "<init>", "()V"⟩, "TokenNets"), ("TokenNets", 33, ⟨"TokenNets$Pad", "<init>", "()V"⟩, "TokenNets"), ("TokenNets", 40, ⟨"TokenNets$Sums", "<init>", "()V"⟩, "TokenNets"), ("TokenNets$Sums", 11, ⟨"TokenNets$Net", "<init>", "()V"⟩, "TokenNets"), ("TokenNets", 47, ⟨"TokenNets$Reach", "<init>", "()V"⟩, "TokenNets"), ("TokenNets$Reach", 11, ⟨"TokenNets$Marks", "<init>", "()V"⟩, "TokenNets"), ("TokenNets$Marks", 11, ⟨"TokenNets$Net", "<init>", "()V"⟩, "TokenNets"), ("TokenNets", 54, ⟨"TokenNets$Tree", "<init>", "()V"⟩, "TokenNets"), ("TokenNets$Tree", 11, ⟨"TokenNets$Marks", "<init>", "()V"⟩, "TokenNets")]
def y_aux (U : State) : Prop := va_AO RX3 U ∧ ∀ q ∈ zN, va_Nw (.methodLinkNest q.1 q.2.1 q.2.2.1 q.2.2.2) U
theorem y_aux_call {U : State} {g : JFrame} {mk : MethodId} {a : Array Value} (h : y_aux U) : y_aux (U.calling g mk a) := ⟨va_AO.moved (u := U) (U := U.calling g mk a) (Vm.Alike.refl U.vm) h.1, fun q hq => va_Nw.same (u := U) (U := U.calling g mk a) rfl rfl (h.2 q hq)⟩
theorem y_aux_warm {s U : State} (hW : s.WarmedH U.vm) (h : y_aux s) : y_aux U := ⟨va_AO.moved hW.alike h.1, fun q hq => va_Nw.warmM hW (h.2 q hq)⟩
def y_fl (own : String) (idx r1 r2 : Nat) : Bool := match vwCl[r1]? with
  | none => false
  | some r => decide (r2 < r.2.2) && yM (Cond.fieldLink own idx (r.2.1 r2).1 (r.2.1 r2).2.1 (r.2.1 r2).2.2.1)
def y_pk (r3 : Nat) (ty : Option FieldType) : Bool := match ty with
  | some .int => Nat.beq r3 0
  | some .boolean => Nat.beq r3 1
  | some (.object _) => Nat.beq r3 2
  | some (.array _) => Nat.beq r3 2
  | _ => false
def y_pf (own yn : String) (r1 r2 r3 : Nat) : Bool := match vwCl[r1]? with
  | none => false
  | some r => y_pk r3 (parseFieldDescriptor (r.2.1 r2).2.2.1) && (!(r.2.1 r2).2.2.2 || (decide (yn = "<init>") && decide ((r.2.1 r2).1 = own)))
def y_dk (b : Bool) (ty : Option FieldType) : Bool := match ty with
  | some .int => !b
  | some .boolean => !b
  | some (.object _) => b
  | some (.array _) => b
  | _ => false
def y_nw (own : String) (idx r1 r2 r3 : Nat) : Bool := match vwCl[r1]? with
  | none => false
  | some r => decide (r.2.2 = r2) && (yM (Cond.classLink own idx r.1) && (yM (Cond.instantiable r.1 r2) && (yM (Cond.initialized r.1) && (List.range r2).all (fun k => y_dk (Nat.testBit r3 k) (parseFieldDescriptor (r.2.1 k).2.2.1)))))
def y_an (own : String) (idx r1 : Nat) : Bool := match vwCl[r1]? with
  | none => false
  | some r => decide (r.1 = RX3) && yM (Cond.classLink own idx r.1)
/-- an instruction as it is resolved is the method's own -/
def y_okin (nL : Nat) (own yn : String) (pc : Nat) (o : yO) : Bool := match o.1 with
  | .iconst k => decide (o.2.1 = pc + 1) && decide (Int32.ofInt k = nI o.2.2.1)
  | .bipush k => decide (o.2.1 = pc + 2) && decide ((Int8.ofInt k).toInt32 = nI o.2.2.1)
  | .sipush k => decide (o.2.1 = pc + 3) && decide ((Int16.ofInt k).toInt32 = nI o.2.2.1)
  | .ldc k => decide (o.2.1 = pc + 2) && yM (Cond.constant own k (nI o.2.2.1))
  | .ldc_w k => decide (o.2.1 = pc + 3) && yM (Cond.constant own k (nI o.2.2.1))
  | .lconst k => decide (o.2.1 = pc + 1) && decide (Int64.ofNat (k : Nat) = lN o.2.2.1)
  | .ldc2_w k => decide (o.2.1 = pc + 3) && yM (Cond.constantLong own k (lN o.2.2.1))
  | .iload_n _ | .lload_n _ | .aload_n _ | .iadd | .isub | .imul | .iand | .ior | .ishl | .ishr | .iushr | .irem | .i2c | .l2i | .i2l | .land | .lor | .lshl | .lushr | .lcmp | .dup | .dup2 | .pop => decide (o.2.1 = pc + 1)
  | .iaload | .baload | .aaload | .iastore | .bastore | .castore | .aastore | .arraylength => decide (o.2.1 = pc + 1)
  | .iload _ | .lload _ | .aload _ => decide (o.2.1 = pc + 2)
  | .istore_n k => decide (o.2.1 = pc + 1) && decide ((k : Nat) < nL)
  | .astore_n k => decide (o.2.1 = pc + 1) && decide ((k : Nat) < nL)
  | .lstore_n k => decide (o.2.1 = pc + 1) && decide ((k : Nat) + 1 < nL)
  | .istore k => decide (o.2.1 = pc + 2) && decide (k < nL)
  | .lstore k => decide (o.2.1 = pc + 2) && decide (k + 1 < nL)
  | .iinc k d => decide (o.2.1 = pc + 3) && (decide (k < nL) && decide (Int32.ofInt d = nI o.2.2.1))
  | .goto off => decide (o.2.1 = pc + 3) && decide ((pc : Int) + off = (o.2.2.1 : Int))
  | .ifCond _ off => decide (o.2.1 = pc + 3) && decide ((pc : Int) + off = (o.2.2.1 : Int))
  | .if_icmp _ off => decide (o.2.1 = pc + 3) && decide ((pc : Int) + off = (o.2.2.1 : Int))
  | .tableswitch _ _ _ _ => true
  | .lookupswitch _ ps => (ps.toList.zip (ps.toList.drop 1)).all (fun (a, next) => a.1 < next.1)
  | .getfield k => decide (o.2.1 = pc + 3) && y_fl own k o.2.2.1 o.2.2.2.1
  | .putfield k => decide (o.2.1 = pc + 3) && (y_fl own k o.2.2.1 o.2.2.2.1 && y_pf own yn o.2.2.1 o.2.2.2.1 o.2.2.2.2)
  | .new k => decide (o.2.1 = pc + 3) && y_nw own k o.2.2.1 o.2.2.2.1 o.2.2.2.2
  | .newarray .int => decide (o.2.1 = pc + 2) && (decide (o.2.2.1 = 0) && yM (Cond.arrayClass .int))
  | .newarray .boolean => decide (o.2.1 = pc + 2) && (decide (o.2.2.1 = 1) && yM (Cond.arrayClass .boolean))
  | .newarray .char => decide (o.2.1 = pc + 2) && (decide (o.2.2.1 = 2) && yM (Cond.arrayClass .char))
  | .anewarray k => decide (o.2.1 = pc + 3) && y_an own k o.2.2.1
  | .ireturn => decide (o.2.1 = pc + 1)
  | .lreturn => decide (o.2.1 = pc + 1)
  | .return_ => decide (o.2.1 = pc + 1)
  | .invokevirtual _ => decide (o.2.1 = pc + 3)
  | .invokespecial k => decide (o.2.1 = pc + 3) && (!(Nat.beq o.2.2.2.2 99) || (yM (Cond.methodLink own k objectInit) && (yM (Cond.instanceMethod objectInit) && yM (Cond.code objectInit ⟨#[0xb1]⟩ 1 none))))
  | .invokestatic k => decide (o.2.1 = pc + 3) && ((!(Nat.beq o.2.2.2.2 98) || (yM (Cond.methodLink own k arraycopyName) && (yM (Cond.native arraycopyName) && (yM (Cond.static arraycopyName) && yM (Cond.initialized "java/lang/System"))))) && ((!(Nat.beq o.2.2.2.2 96) || (yM (Cond.methodLink own k Lib.Math.max.name) && (yM (Cond.static Lib.Math.max.name) && (yM (Cond.initialized "java/lang/Math") && yM (Cond.code Lib.Math.max.name Lib.Math.max.code 2 (some .int)))))) && (!(Nat.beq o.2.2.2.2 97) || (yM (Cond.methodLink own k Lib.Math.min.name) && (yM (Cond.static Lib.Math.min.name) && (yM (Cond.initialized "java/lang/Math") && yM (Cond.code Lib.Math.min.name Lib.Math.min.code 2 (some .int))))))))
  | _ => false
def y_okop (nL : Nat) (own yn : String) (cc : ByteArray) (q : Nat × yO) : Bool := decide (decode cc q.1 = .ok (q.2.1, q.2.2.1 - q.1)) && y_okin nL own yn q.1 q.2
def y_cls (r : vw_C) : Bool := (u_ws r.1 r.2.1 r.2.2).all yM && ((List.range r.2.2).all (fun k => (parseFieldDescriptor (r.2.1 k).2.2.1).isSome) && (List.range r.2.2).all (fun a => (List.range r.2.2).all (fun b => decide (a = b) || decide ((r.2.1 a).2.1 ≠ (r.2.1 b).2.1))))
set_option maxRecDepth 100000 in
theorem y_cls_all : vwCl.all y_cls = true := by decide +kernel
theorem y_cls_ok {ci : Nat} {r : vw_C} (h : vwCl[ci]? = some r) : (∀ w ∈ u_ws r.1 r.2.1 r.2.2, w ∈ yCT) ∧ (∀ k, k < r.2.2 → parseFieldDescriptor (r.2.1 k).2.2.1 = some ((parseFieldDescriptor (r.2.1 k).2.2.1).getD .int)) ∧ ∀ a, a < r.2.2 → ∀ b, b < r.2.2 → a ≠ b → (r.2.1 a).2.1 ≠ (r.2.1 b).2.1 := by
  have h1 := List.all_eq_true.mp y_cls_all r (List.mem_of_getElem? h)
  unfold y_cls at h1
  simp only [Bool.and_eq_true, List.all_eq_true, List.mem_range, decide_eq_true_eq, Bool.or_eq_true] at h1
  obtain ⟨g1, g2, g3⟩ := h1
  refine ⟨fun w hw => yM_ok (g1 w hw), fun k hk => ?_, fun a ha b hb hab => ?_⟩
  · obtain ⟨ty, hty⟩ := Option.isSome_iff_exists.mp (g2 k hk)
    rw [hty]
    rfl
  · rcases g3 a ha b hb with h | h
    · exact absurd h hab
    · exact h
def y_Z (κ : yK) (D : va_G) (A : Nat → Prop) (s : State) (nL : Nat) (α : List Nat) (tys : List (ClassId × FieldType)) (ws : va_W) (H : Heap) (locs : List Loc) (ls : Array Slot) (lv : List (Nat × Value)) (sv : List Value) (l : yL) (st : List yV) (h : List yC) : Prop :=
  y_h κ α tys h ws ∧ y_dl κ α l lv ∧ y_ds κ α st sv ∧ lv_has ls nL lv ∧ va_P D vwCl ws H ∧ va_K D vwCl tys s ∧ va_D A ws ∧ va_S A s.heap H locs
def y_ctx (κ : yK) (sc : Bool) (p : Program) (R : Room) (s : State) (m : MethodId) (args : Array Value) (meth : Method) (c : Code) (cc : ByteArray) (own yn : String) (nL : Nat) (A : Nat → Prop) : Prop :=
  p.tables.exec = Jvm.exec ∧ c.code = cc ∧ c.maxLocals = nL ∧ s.vm.findClass own = some m.cls ∧ (∀ w ∈ yCT, w.before args s = true) ∧ (yn = "<init>" → meth.name = "<init>") ∧ y_aux s ∧ (∀ q, s.heap.size ≤ q → A q) ∧ 1 ≤ R.frames ∧ 60 ≤ R.locals ∧ (sc = true → va_X κ.2.2.1 κ.2.2.2 κ.1 s s.heap ∧ κ.2.2.1 < s.heap.size ∧ ¬ A κ.2.2.1)
theorem y_bin_ok {κ : yK} {α : List Nat} {tb : yT} {op : Nat} {f : Nat → Nat → Option Nat} {st st' : List yV} {sv : List Value} (g : Int32 → Int32 → Int32) (h1 : ∀ x y z, f x y = some z → g (nI x) (nI y) = nI z) (h2 : ∀ a b v, y_lookT tb op a b = some v → g (y_i κ a) (y_i κ b) = y_i κ v) (hb : y_bin tb op f st = some st') (hd : y_ds κ α st sv) :
    ∃ x y xs, sv = .int y :: .int x :: xs ∧ y_ds κ α st' (.int (g x y) :: xs) := by
  rcases st with _ | ⟨b | b, _ | ⟨a | a, r⟩⟩
  · cases hb
  · cases hb
  · obtain ⟨ys, rfl, hd1⟩ := y_ds_ci hd
    obtain ⟨xs, rfl, hd2⟩ := y_ds_ci hd1
    refine ⟨_, _, _, rfl, ?_⟩
    rcases a with x | x <;> rcases b with y | y
    · obtain ⟨z, hz, rfl⟩ := Option.map_eq_some_iff.mp hb
      exact y_ds_i (h1 x y z hz).symm hd2
    · obtain ⟨z, hz, rfl⟩ := Option.map_eq_some_iff.mp hb
      exact y_ds_i (h2 _ _ _ hz).symm hd2
    · obtain ⟨z, hz, rfl⟩ := Option.map_eq_some_iff.mp hb
      exact y_ds_i (h2 _ _ _ hz).symm hd2
    · obtain ⟨z, hz, rfl⟩ := Option.map_eq_some_iff.mp hb
      exact y_ds_i (h2 _ _ _ hz).symm hd2
  · cases hb
  · cases hb
  · cases hb
  · cases hb
theorem y_no {κ : yK} {tb : yT} {a b v : yI} {P : Prop} (hT : y_T κ tb) (h : y_lookT tb 99 a b = some v) : P := (y_lookT_ok hT h : False).elim

section YSTEP
variable {p : Program} {l : Launch} {e : Env} {R : Room} {s : State} {m : MethodId} {args : Array Value} {below : List Frame} {meth : Method} {c : Code} {H : Heap} {locs : List Loc} {Q : State → Prop} {ls : Array Slot}
variable {κ : yK} {D : va_G} {A : Nat → Prop} {α : List Nat} {tys : List (ClassId × FieldType)} {ws : va_W} {lv : List (Nat × Value)} {sv : List Value} {lo : yL} {st : List yV} {h : List yC} {cc : ByteArray} {own yn : String} {nL : Nat} {hy : yF} {tb : yT} {sc : Bool} {pc k n : Nat} {S' : yS}

set_option maxHeartbeats 4000000 in
set_option maxRecDepth 100000 in
theorem y_st_iconst {i : Int} {nx r1 r2 r3 : Nat} (C : y_ctx κ sc p R s m args meth c cc own yn nL A) (hH : y_H κ hy) (hT : y_T κ tb) (hok : y_okop nL own yn cc (pc, (.iconst i, nx, r1, r2, r3)) = true) (hs : y_step sc κ.2.2.2 hy tb pc (.iconst i, nx, r1, r2, r3) lo st h k n = some S') (hk : S'.2.2.2.2.1 ≤ R.cells) (hn : S'.2.2.2.2.2 ≤ R.slots) (Z : y_Z κ D A s nL α tys ws H locs ls lv sv lo st h)
    (kk : ∀ α' tys' ws' H' locs' ls' lv' sv', α <+: α' → y_Z κ D A s nL α' tys' ws' H' locs' ls' lv' sv' S'.2.1 S'.2.2.1 S'.2.2.2.1 → W p l e R s m args below meth c H' locs' S'.2.2.2.2.1 S'.2.2.2.2.2 Q (F0 m S'.1 ls' sv')) : W p l e R s m args below meth c H locs k n Q (F0 m pc ls sv) := by
  obtain ⟨hx, hb, hml, hown, hts, hyn, hAO, hA, hRf, hRl, hsc⟩ := C
  obtain ⟨hh, hl, hst, hls, hP, hK, hD, hS⟩ := Z
  unfold y_okop y_okin at hok
  simp only [Bool.and_eq_true, decide_eq_true_eq] at hok
  obtain ⟨hdg, hok⟩ := hok
  unfold y_step at hs
  dsimp only at hs
  obtain ⟨rfl, hv⟩ := hok
  rw [Nat.add_sub_cancel_left] at hdg
  cases hs
  exact lv_iconst hx hb hdg hv (kk α tys ws H locs ls lv _ (List.prefix_refl _) ⟨hh, hl, y_ds_i rfl hst, hls, hP, hK, hD, hS⟩)

set_option maxHeartbeats 4000000 in
set_option maxRecDepth 100000 in
theorem y_st_bipush {i : Int} {nx r1 r2 r3 : Nat} (C : y_ctx κ sc p R s m args meth c cc own yn nL A) (hH : y_H κ hy) (hT : y_T κ tb) (hok : y_okop nL own yn cc (pc, (.bipush i, nx, r1, r2, r3)) = true) (hs : y_step sc κ.2.2.2 hy tb pc (.bipush i, nx, r1, r2, r3) lo st h k n = some S') (hk : S'.2.2.2.2.1 ≤ R.cells) (hn : S'.2.2.2.2.2 ≤ R.slots) (Z : y_Z κ D A s nL α tys ws H locs ls lv sv lo st h)
    (kk : ∀ α' tys' ws' H' locs' ls' lv' sv', α <+: α' → y_Z κ D A s nL α' tys' ws' H' locs' ls' lv' sv' S'.2.1 S'.2.2.1 S'.2.2.2.1 → W p l e R s m args below meth c H' locs' S'.2.2.2.2.1 S'.2.2.2.2.2 Q (F0 m S'.1 ls' sv')) : W p l e R s m args below meth c H locs k n Q (F0 m pc ls sv) := by
  obtain ⟨hx, hb, hml, hown, hts, hyn, hAO, hA, hRf, hRl, hsc⟩ := C
  obtain ⟨hh, hl, hst, hls, hP, hK, hD, hS⟩ := Z
  unfold y_okop y_okin at hok
  simp only [Bool.and_eq_true, decide_eq_true_eq] at hok
  obtain ⟨hdg, hok⟩ := hok
  unfold y_step at hs
  dsimp only at hs
  obtain ⟨rfl, hv⟩ := hok
  rw [Nat.add_sub_cancel_left] at hdg
  cases hs
  exact lv_bipush hx hb hdg hv (kk α tys ws H locs ls lv _ (List.prefix_refl _) ⟨hh, hl, y_ds_i rfl hst, hls, hP, hK, hD, hS⟩)

set_option maxHeartbeats 4000000 in
set_option maxRecDepth 100000 in
theorem y_st_sipush {i : Int} {nx r1 r2 r3 : Nat} (C : y_ctx κ sc p R s m args meth c cc own yn nL A) (hH : y_H κ hy) (hT : y_T κ tb) (hok : y_okop nL own yn cc (pc, (.sipush i, nx, r1, r2, r3)) = true) (hs : y_step sc κ.2.2.2 hy tb pc (.sipush i, nx, r1, r2, r3) lo st h k n = some S') (hk : S'.2.2.2.2.1 ≤ R.cells) (hn : S'.2.2.2.2.2 ≤ R.slots) (Z : y_Z κ D A s nL α tys ws H locs ls lv sv lo st h)
    (kk : ∀ α' tys' ws' H' locs' ls' lv' sv', α <+: α' → y_Z κ D A s nL α' tys' ws' H' locs' ls' lv' sv' S'.2.1 S'.2.2.1 S'.2.2.2.1 → W p l e R s m args below meth c H' locs' S'.2.2.2.2.1 S'.2.2.2.2.2 Q (F0 m S'.1 ls' sv')) : W p l e R s m args below meth c H locs k n Q (F0 m pc ls sv) := by
  obtain ⟨hx, hb, hml, hown, hts, hyn, hAO, hA, hRf, hRl, hsc⟩ := C
  obtain ⟨hh, hl, hst, hls, hP, hK, hD, hS⟩ := Z
  unfold y_okop y_okin at hok
  simp only [Bool.and_eq_true, decide_eq_true_eq] at hok
  obtain ⟨hdg, hok⟩ := hok
  unfold y_step at hs
  dsimp only at hs
  obtain ⟨rfl, hv⟩ := hok
  rw [Nat.add_sub_cancel_left] at hdg
  cases hs
  exact lv_sipush hx hb hdg hv (kk α tys ws H locs ls lv _ (List.prefix_refl _) ⟨hh, hl, y_ds_i rfl hst, hls, hP, hK, hD, hS⟩)

set_option maxHeartbeats 4000000 in
set_option maxRecDepth 100000 in
theorem y_st_ldc {i : Nat} {nx r1 r2 r3 : Nat} (C : y_ctx κ sc p R s m args meth c cc own yn nL A) (hH : y_H κ hy) (hT : y_T κ tb) (hok : y_okop nL own yn cc (pc, (.ldc i, nx, r1, r2, r3)) = true) (hs : y_step sc κ.2.2.2 hy tb pc (.ldc i, nx, r1, r2, r3) lo st h k n = some S') (hk : S'.2.2.2.2.1 ≤ R.cells) (hn : S'.2.2.2.2.2 ≤ R.slots) (Z : y_Z κ D A s nL α tys ws H locs ls lv sv lo st h)
    (kk : ∀ α' tys' ws' H' locs' ls' lv' sv', α <+: α' → y_Z κ D A s nL α' tys' ws' H' locs' ls' lv' sv' S'.2.1 S'.2.2.1 S'.2.2.2.1 → W p l e R s m args below meth c H' locs' S'.2.2.2.2.1 S'.2.2.2.2.2 Q (F0 m S'.1 ls' sv')) : W p l e R s m args below meth c H locs k n Q (F0 m pc ls sv) := by
  obtain ⟨hx, hb, hml, hown, hts, hyn, hAO, hA, hRf, hRl, hsc⟩ := C
  obtain ⟨hh, hl, hst, hls, hP, hK, hD, hS⟩ := Z
  unfold y_okop y_okin at hok
  simp only [Bool.and_eq_true, decide_eq_true_eq] at hok
  obtain ⟨hdg, hok⟩ := hok
  unfold y_step at hs
  dsimp only at hs
  obtain ⟨rfl, hv⟩ := hok
  rw [Nat.add_sub_cancel_left] at hdg
  cases hs
  exact lv_ldc hx hb hown (hts _ (yM_ok hv)) hdg (kk α tys ws H locs ls lv _ (List.prefix_refl _) ⟨hh, hl, y_ds_i rfl hst, hls, hP, hK, hD, hS⟩)

set_option maxHeartbeats 4000000 in
set_option maxRecDepth 100000 in
theorem y_st_ldcw {i : Nat} {nx r1 r2 r3 : Nat} (C : y_ctx κ sc p R s m args meth c cc own yn nL A) (hH : y_H κ hy) (hT : y_T κ tb) (hok : y_okop nL own yn cc (pc, (.ldc_w i, nx, r1, r2, r3)) = true) (hs : y_step sc κ.2.2.2 hy tb pc (.ldc_w i, nx, r1, r2, r3) lo st h k n = some S') (hk : S'.2.2.2.2.1 ≤ R.cells) (hn : S'.2.2.2.2.2 ≤ R.slots) (Z : y_Z κ D A s nL α tys ws H locs ls lv sv lo st h)
    (kk : ∀ α' tys' ws' H' locs' ls' lv' sv', α <+: α' → y_Z κ D A s nL α' tys' ws' H' locs' ls' lv' sv' S'.2.1 S'.2.2.1 S'.2.2.2.1 → W p l e R s m args below meth c H' locs' S'.2.2.2.2.1 S'.2.2.2.2.2 Q (F0 m S'.1 ls' sv')) : W p l e R s m args below meth c H locs k n Q (F0 m pc ls sv) := by
  obtain ⟨hx, hb, hml, hown, hts, hyn, hAO, hA, hRf, hRl, hsc⟩ := C
  obtain ⟨hh, hl, hst, hls, hP, hK, hD, hS⟩ := Z
  unfold y_okop y_okin at hok
  simp only [Bool.and_eq_true, decide_eq_true_eq] at hok
  obtain ⟨hdg, hok⟩ := hok
  unfold y_step at hs
  dsimp only at hs
  obtain ⟨rfl, hv⟩ := hok
  rw [Nat.add_sub_cancel_left] at hdg
  cases hs
  exact lv_ldcw hx hb hown (hts _ (yM_ok hv)) hdg (kk α tys ws H locs ls lv _ (List.prefix_refl _) ⟨hh, hl, y_ds_i rfl hst, hls, hP, hK, hD, hS⟩)

set_option maxHeartbeats 4000000 in
set_option maxRecDepth 100000 in
theorem y_st_lconst {i : Fin 2} {nx r1 r2 r3 : Nat} (C : y_ctx κ sc p R s m args meth c cc own yn nL A) (hH : y_H κ hy) (hT : y_T κ tb) (hok : y_okop nL own yn cc (pc, (.lconst i, nx, r1, r2, r3)) = true) (hs : y_step sc κ.2.2.2 hy tb pc (.lconst i, nx, r1, r2, r3) lo st h k n = some S') (hk : S'.2.2.2.2.1 ≤ R.cells) (hn : S'.2.2.2.2.2 ≤ R.slots) (Z : y_Z κ D A s nL α tys ws H locs ls lv sv lo st h)
    (kk : ∀ α' tys' ws' H' locs' ls' lv' sv', α <+: α' → y_Z κ D A s nL α' tys' ws' H' locs' ls' lv' sv' S'.2.1 S'.2.2.1 S'.2.2.2.1 → W p l e R s m args below meth c H' locs' S'.2.2.2.2.1 S'.2.2.2.2.2 Q (F0 m S'.1 ls' sv')) : W p l e R s m args below meth c H locs k n Q (F0 m pc ls sv) := by
  obtain ⟨hx, hb, hml, hown, hts, hyn, hAO, hA, hRf, hRl, hsc⟩ := C
  obtain ⟨hh, hl, hst, hls, hP, hK, hD, hS⟩ := Z
  unfold y_okop y_okin at hok
  simp only [Bool.and_eq_true, decide_eq_true_eq] at hok
  obtain ⟨hdg, hok⟩ := hok
  unfold y_step at hs
  dsimp only at hs
  obtain ⟨rfl, hv⟩ := hok
  rw [Nat.add_sub_cancel_left] at hdg
  cases hs
  exact lv_lconst hx hb hdg hv (kk α tys ws H locs ls lv _ (List.prefix_refl _) ⟨hh, hl, y_ds_l rfl hst, hls, hP, hK, hD, hS⟩)

set_option maxHeartbeats 4000000 in
set_option maxRecDepth 100000 in
theorem y_st_ldc2 {i : Nat} {nx r1 r2 r3 : Nat} (C : y_ctx κ sc p R s m args meth c cc own yn nL A) (hH : y_H κ hy) (hT : y_T κ tb) (hok : y_okop nL own yn cc (pc, (.ldc2_w i, nx, r1, r2, r3)) = true) (hs : y_step sc κ.2.2.2 hy tb pc (.ldc2_w i, nx, r1, r2, r3) lo st h k n = some S') (hk : S'.2.2.2.2.1 ≤ R.cells) (hn : S'.2.2.2.2.2 ≤ R.slots) (Z : y_Z κ D A s nL α tys ws H locs ls lv sv lo st h)
    (kk : ∀ α' tys' ws' H' locs' ls' lv' sv', α <+: α' → y_Z κ D A s nL α' tys' ws' H' locs' ls' lv' sv' S'.2.1 S'.2.2.1 S'.2.2.2.1 → W p l e R s m args below meth c H' locs' S'.2.2.2.2.1 S'.2.2.2.2.2 Q (F0 m S'.1 ls' sv')) : W p l e R s m args below meth c H locs k n Q (F0 m pc ls sv) := by
  obtain ⟨hx, hb, hml, hown, hts, hyn, hAO, hA, hRf, hRl, hsc⟩ := C
  obtain ⟨hh, hl, hst, hls, hP, hK, hD, hS⟩ := Z
  unfold y_okop y_okin at hok
  simp only [Bool.and_eq_true, decide_eq_true_eq] at hok
  obtain ⟨hdg, hok⟩ := hok
  unfold y_step at hs
  dsimp only at hs
  obtain ⟨rfl, hv⟩ := hok
  rw [Nat.add_sub_cancel_left] at hdg
  cases hs
  exact lv_ldc2 hx hb hown (hts _ (yM_ok hv)) hdg (kk α tys ws H locs ls lv _ (List.prefix_refl _) ⟨hh, hl, y_ds_l rfl hst, hls, hP, hK, hD, hS⟩)

set_option maxHeartbeats 4000000 in
set_option maxRecDepth 100000 in
theorem y_st_iloadn {i : Fin 4} {nx r1 r2 r3 : Nat} (C : y_ctx κ sc p R s m args meth c cc own yn nL A) (hH : y_H κ hy) (hT : y_T κ tb) (hok : y_okop nL own yn cc (pc, (.iload_n i, nx, r1, r2, r3)) = true) (hs : y_step sc κ.2.2.2 hy tb pc (.iload_n i, nx, r1, r2, r3) lo st h k n = some S') (hk : S'.2.2.2.2.1 ≤ R.cells) (hn : S'.2.2.2.2.2 ≤ R.slots) (Z : y_Z κ D A s nL α tys ws H locs ls lv sv lo st h)
    (kk : ∀ α' tys' ws' H' locs' ls' lv' sv', α <+: α' → y_Z κ D A s nL α' tys' ws' H' locs' ls' lv' sv' S'.2.1 S'.2.2.1 S'.2.2.2.1 → W p l e R s m args below meth c H' locs' S'.2.2.2.2.1 S'.2.2.2.2.2 Q (F0 m S'.1 ls' sv')) : W p l e R s m args below meth c H locs k n Q (F0 m pc ls sv) := by
  obtain ⟨hx, hb, hml, hown, hts, hyn, hAO, hA, hRf, hRl, hsc⟩ := C
  obtain ⟨hh, hl, hst, hls, hP, hK, hD, hS⟩ := Z
  unfold y_okop y_okin at hok
  simp only [Bool.and_eq_true, decide_eq_true_eq] at hok
  obtain ⟨hdg, hok⟩ := hok
  unfold y_step at hs
  dsimp only at hs
  obtain rfl := hok
  rw [Nat.add_sub_cancel_left] at hdg
  cases hg : y_lget lo i with
  | none => rw [hg] at hs; cases hs
  | some v =>
    rw [hg] at hs
    obtain ⟨x, hx1, hx2⟩ := y_dl_get hl hg
    rcases v with a | a | _ | a
    · cases hs
      cases hx2
      exact lv_iload_n hx hb hdg rfl (hls.2.2 _ hx1) (kk α tys ws H locs ls lv _ (List.prefix_refl _) ⟨hh, hl, y_ds_i rfl hst, hls, hP, hK, hD, hS⟩)
    · cases hs
    · cases hs
    · cases hs

set_option maxHeartbeats 4000000 in
set_option maxRecDepth 100000 in
theorem y_st_iload {i : Nat} {nx r1 r2 r3 : Nat} (C : y_ctx κ sc p R s m args meth c cc own yn nL A) (hH : y_H κ hy) (hT : y_T κ tb) (hok : y_okop nL own yn cc (pc, (.iload i, nx, r1, r2, r3)) = true) (hs : y_step sc κ.2.2.2 hy tb pc (.iload i, nx, r1, r2, r3) lo st h k n = some S') (hk : S'.2.2.2.2.1 ≤ R.cells) (hn : S'.2.2.2.2.2 ≤ R.slots) (Z : y_Z κ D A s nL α tys ws H locs ls lv sv lo st h)
    (kk : ∀ α' tys' ws' H' locs' ls' lv' sv', α <+: α' → y_Z κ D A s nL α' tys' ws' H' locs' ls' lv' sv' S'.2.1 S'.2.2.1 S'.2.2.2.1 → W p l e R s m args below meth c H' locs' S'.2.2.2.2.1 S'.2.2.2.2.2 Q (F0 m S'.1 ls' sv')) : W p l e R s m args below meth c H locs k n Q (F0 m pc ls sv) := by
  obtain ⟨hx, hb, hml, hown, hts, hyn, hAO, hA, hRf, hRl, hsc⟩ := C
  obtain ⟨hh, hl, hst, hls, hP, hK, hD, hS⟩ := Z
  unfold y_okop y_okin at hok
  simp only [Bool.and_eq_true, decide_eq_true_eq] at hok
  obtain ⟨hdg, hok⟩ := hok
  unfold y_step at hs
  dsimp only at hs
  obtain rfl := hok
  rw [Nat.add_sub_cancel_left] at hdg
  cases hg : y_lget lo i with
  | none => rw [hg] at hs; cases hs
  | some v =>
    rw [hg] at hs
    obtain ⟨x, hx1, hx2⟩ := y_dl_get hl hg
    rcases v with a | a | _ | a
    · cases hs
      cases hx2
      exact lv_iload hx hb hdg (hls.2.2 _ hx1) (kk α tys ws H locs ls lv _ (List.prefix_refl _) ⟨hh, hl, y_ds_i rfl hst, hls, hP, hK, hD, hS⟩)
    · cases hs
    · cases hs
    · cases hs

set_option maxHeartbeats 4000000 in
set_option maxRecDepth 100000 in
theorem y_st_lloadn {i : Fin 4} {nx r1 r2 r3 : Nat} (C : y_ctx κ sc p R s m args meth c cc own yn nL A) (hH : y_H κ hy) (hT : y_T κ tb) (hok : y_okop nL own yn cc (pc, (.lload_n i, nx, r1, r2, r3)) = true) (hs : y_step sc κ.2.2.2 hy tb pc (.lload_n i, nx, r1, r2, r3) lo st h k n = some S') (hk : S'.2.2.2.2.1 ≤ R.cells) (hn : S'.2.2.2.2.2 ≤ R.slots) (Z : y_Z κ D A s nL α tys ws H locs ls lv sv lo st h)
    (kk : ∀ α' tys' ws' H' locs' ls' lv' sv', α <+: α' → y_Z κ D A s nL α' tys' ws' H' locs' ls' lv' sv' S'.2.1 S'.2.2.1 S'.2.2.2.1 → W p l e R s m args below meth c H' locs' S'.2.2.2.2.1 S'.2.2.2.2.2 Q (F0 m S'.1 ls' sv')) : W p l e R s m args below meth c H locs k n Q (F0 m pc ls sv) := by
  obtain ⟨hx, hb, hml, hown, hts, hyn, hAO, hA, hRf, hRl, hsc⟩ := C
  obtain ⟨hh, hl, hst, hls, hP, hK, hD, hS⟩ := Z
  unfold y_okop y_okin at hok
  simp only [Bool.and_eq_true, decide_eq_true_eq] at hok
  obtain ⟨hdg, hok⟩ := hok
  unfold y_step at hs
  dsimp only at hs
  obtain rfl := hok
  rw [Nat.add_sub_cancel_left] at hdg
  cases hg : y_lget lo i with
  | none => rw [hg] at hs; cases hs
  | some v =>
    rw [hg] at hs
    obtain ⟨x, hx1, hx2⟩ := y_dl_get hl hg
    rcases v with a | a | _ | a
    · cases hs
    · cases hs
      cases hx2
      exact lv_lload_n hx hb hdg rfl (hls.2.2 _ hx1) (kk α tys ws H locs ls lv _ (List.prefix_refl _) ⟨hh, hl, y_ds_l rfl hst, hls, hP, hK, hD, hS⟩)
    · cases hs
    · cases hs

set_option maxHeartbeats 4000000 in
set_option maxRecDepth 100000 in
theorem y_st_lload {i : Nat} {nx r1 r2 r3 : Nat} (C : y_ctx κ sc p R s m args meth c cc own yn nL A) (hH : y_H κ hy) (hT : y_T κ tb) (hok : y_okop nL own yn cc (pc, (.lload i, nx, r1, r2, r3)) = true) (hs : y_step sc κ.2.2.2 hy tb pc (.lload i, nx, r1, r2, r3) lo st h k n = some S') (hk : S'.2.2.2.2.1 ≤ R.cells) (hn : S'.2.2.2.2.2 ≤ R.slots) (Z : y_Z κ D A s nL α tys ws H locs ls lv sv lo st h)
    (kk : ∀ α' tys' ws' H' locs' ls' lv' sv', α <+: α' → y_Z κ D A s nL α' tys' ws' H' locs' ls' lv' sv' S'.2.1 S'.2.2.1 S'.2.2.2.1 → W p l e R s m args below meth c H' locs' S'.2.2.2.2.1 S'.2.2.2.2.2 Q (F0 m S'.1 ls' sv')) : W p l e R s m args below meth c H locs k n Q (F0 m pc ls sv) := by
  obtain ⟨hx, hb, hml, hown, hts, hyn, hAO, hA, hRf, hRl, hsc⟩ := C
  obtain ⟨hh, hl, hst, hls, hP, hK, hD, hS⟩ := Z
  unfold y_okop y_okin at hok
  simp only [Bool.and_eq_true, decide_eq_true_eq] at hok
  obtain ⟨hdg, hok⟩ := hok
  unfold y_step at hs
  dsimp only at hs
  obtain rfl := hok
  rw [Nat.add_sub_cancel_left] at hdg
  cases hg : y_lget lo i with
  | none => rw [hg] at hs; cases hs
  | some v =>
    rw [hg] at hs
    obtain ⟨x, hx1, hx2⟩ := y_dl_get hl hg
    rcases v with a | a | _ | a
    · cases hs
    · cases hs
      cases hx2
      exact lv_lload hx hb hdg (hls.2.2 _ hx1) (kk α tys ws H locs ls lv _ (List.prefix_refl _) ⟨hh, hl, y_ds_l rfl hst, hls, hP, hK, hD, hS⟩)
    · cases hs
    · cases hs

set_option maxHeartbeats 4000000 in
set_option maxRecDepth 100000 in
theorem y_st_aloadn {i : Fin 4} {nx r1 r2 r3 : Nat} (C : y_ctx κ sc p R s m args meth c cc own yn nL A) (hH : y_H κ hy) (hT : y_T κ tb) (hok : y_okop nL own yn cc (pc, (.aload_n i, nx, r1, r2, r3)) = true) (hs : y_step sc κ.2.2.2 hy tb pc (.aload_n i, nx, r1, r2, r3) lo st h k n = some S') (hk : S'.2.2.2.2.1 ≤ R.cells) (hn : S'.2.2.2.2.2 ≤ R.slots) (Z : y_Z κ D A s nL α tys ws H locs ls lv sv lo st h)
    (kk : ∀ α' tys' ws' H' locs' ls' lv' sv', α <+: α' → y_Z κ D A s nL α' tys' ws' H' locs' ls' lv' sv' S'.2.1 S'.2.2.1 S'.2.2.2.1 → W p l e R s m args below meth c H' locs' S'.2.2.2.2.1 S'.2.2.2.2.2 Q (F0 m S'.1 ls' sv')) : W p l e R s m args below meth c H locs k n Q (F0 m pc ls sv) := by
  obtain ⟨hx, hb, hml, hown, hts, hyn, hAO, hA, hRf, hRl, hsc⟩ := C
  obtain ⟨hh, hl, hst, hls, hP, hK, hD, hS⟩ := Z
  unfold y_okop y_okin at hok
  simp only [Bool.and_eq_true, decide_eq_true_eq] at hok
  obtain ⟨hdg, hok⟩ := hok
  unfold y_step at hs
  dsimp only at hs
  obtain rfl := hok
  rw [Nat.add_sub_cancel_left] at hdg
  cases hg : y_lget lo i with
  | none => rw [hg] at hs; cases hs
  | some v =>
    rw [hg] at hs
    obtain ⟨x, hx1, hx2⟩ := y_dl_get hl hg
    rcases v with a | a | _ | a
    · cases hs
    · cases hs
    · cases hs
    · cases hs
      obtain ⟨b, hb1, rfl⟩ := Option.map_eq_some_iff.mp hx2
      exact lv_aload_n hx hb hdg rfl (hls.2.2 _ hx1) (kk α tys ws H locs ls lv _ (List.prefix_refl _) ⟨hh, hl, y_ds_mk hx2 hst, hls, hP, hK, hD, hS⟩)

set_option maxHeartbeats 4000000 in
set_option maxRecDepth 100000 in
theorem y_st_aload {i : Nat} {nx r1 r2 r3 : Nat} (C : y_ctx κ sc p R s m args meth c cc own yn nL A) (hH : y_H κ hy) (hT : y_T κ tb) (hok : y_okop nL own yn cc (pc, (.aload i, nx, r1, r2, r3)) = true) (hs : y_step sc κ.2.2.2 hy tb pc (.aload i, nx, r1, r2, r3) lo st h k n = some S') (hk : S'.2.2.2.2.1 ≤ R.cells) (hn : S'.2.2.2.2.2 ≤ R.slots) (Z : y_Z κ D A s nL α tys ws H locs ls lv sv lo st h)
    (kk : ∀ α' tys' ws' H' locs' ls' lv' sv', α <+: α' → y_Z κ D A s nL α' tys' ws' H' locs' ls' lv' sv' S'.2.1 S'.2.2.1 S'.2.2.2.1 → W p l e R s m args below meth c H' locs' S'.2.2.2.2.1 S'.2.2.2.2.2 Q (F0 m S'.1 ls' sv')) : W p l e R s m args below meth c H locs k n Q (F0 m pc ls sv) := by
  obtain ⟨hx, hb, hml, hown, hts, hyn, hAO, hA, hRf, hRl, hsc⟩ := C
  obtain ⟨hh, hl, hst, hls, hP, hK, hD, hS⟩ := Z
  unfold y_okop y_okin at hok
  simp only [Bool.and_eq_true, decide_eq_true_eq] at hok
  obtain ⟨hdg, hok⟩ := hok
  unfold y_step at hs
  dsimp only at hs
  obtain rfl := hok
  rw [Nat.add_sub_cancel_left] at hdg
  cases hg : y_lget lo i with
  | none => rw [hg] at hs; cases hs
  | some v =>
    rw [hg] at hs
    obtain ⟨x, hx1, hx2⟩ := y_dl_get hl hg
    rcases v with a | a | _ | a
    · cases hs
    · cases hs
    · cases hs
    · cases hs
      obtain ⟨b, hb1, rfl⟩ := Option.map_eq_some_iff.mp hx2
      exact lv_aload hx hb hdg (hls.2.2 _ hx1) (kk α tys ws H locs ls lv _ (List.prefix_refl _) ⟨hh, hl, y_ds_mk hx2 hst, hls, hP, hK, hD, hS⟩)

set_option maxHeartbeats 4000000 in
set_option maxRecDepth 100000 in
theorem y_st_istoren {i : Fin 4} {nx r1 r2 r3 : Nat} (C : y_ctx κ sc p R s m args meth c cc own yn nL A) (hH : y_H κ hy) (hT : y_T κ tb) (hok : y_okop nL own yn cc (pc, (.istore_n i, nx, r1, r2, r3)) = true) (hs : y_step sc κ.2.2.2 hy tb pc (.istore_n i, nx, r1, r2, r3) lo st h k n = some S') (hk : S'.2.2.2.2.1 ≤ R.cells) (hn : S'.2.2.2.2.2 ≤ R.slots) (Z : y_Z κ D A s nL α tys ws H locs ls lv sv lo st h)
    (kk : ∀ α' tys' ws' H' locs' ls' lv' sv', α <+: α' → y_Z κ D A s nL α' tys' ws' H' locs' ls' lv' sv' S'.2.1 S'.2.2.1 S'.2.2.2.1 → W p l e R s m args below meth c H' locs' S'.2.2.2.2.1 S'.2.2.2.2.2 Q (F0 m S'.1 ls' sv')) : W p l e R s m args below meth c H locs k n Q (F0 m pc ls sv) := by
  obtain ⟨hx, hb, hml, hown, hts, hyn, hAO, hA, hRf, hRl, hsc⟩ := C
  obtain ⟨hh, hl, hst, hls, hP, hK, hD, hS⟩ := Z
  unfold y_okop y_okin at hok
  simp only [Bool.and_eq_true, decide_eq_true_eq] at hok
  obtain ⟨hdg, hok⟩ := hok
  unfold y_step at hs
  dsimp only at hs
  obtain ⟨rfl, hi⟩ := hok
  rw [Nat.add_sub_cancel_left] at hdg
  rcases st with _ | ⟨a | a | _ | a, r⟩
  · cases hs
  · cases hs
    obtain ⟨ys, rfl, h2⟩ := y_ds_ci hst
    exact lv_istore_n hx hb hdg rfl hls hi rfl (fun ls' hls' => kk α tys ws H locs ls' _ _ (List.prefix_refl _) ⟨hh, y_dl_set _ hl rfl, h2, hls', hP, hK, hD, hS⟩)
  · cases hs
  · cases hs
  · cases hs

set_option maxHeartbeats 4000000 in
set_option maxRecDepth 100000 in
theorem y_st_istore {i : Nat} {nx r1 r2 r3 : Nat} (C : y_ctx κ sc p R s m args meth c cc own yn nL A) (hH : y_H κ hy) (hT : y_T κ tb) (hok : y_okop nL own yn cc (pc, (.istore i, nx, r1, r2, r3)) = true) (hs : y_step sc κ.2.2.2 hy tb pc (.istore i, nx, r1, r2, r3) lo st h k n = some S') (hk : S'.2.2.2.2.1 ≤ R.cells) (hn : S'.2.2.2.2.2 ≤ R.slots) (Z : y_Z κ D A s nL α tys ws H locs ls lv sv lo st h)
    (kk : ∀ α' tys' ws' H' locs' ls' lv' sv', α <+: α' → y_Z κ D A s nL α' tys' ws' H' locs' ls' lv' sv' S'.2.1 S'.2.2.1 S'.2.2.2.1 → W p l e R s m args below meth c H' locs' S'.2.2.2.2.1 S'.2.2.2.2.2 Q (F0 m S'.1 ls' sv')) : W p l e R s m args below meth c H locs k n Q (F0 m pc ls sv) := by
  obtain ⟨hx, hb, hml, hown, hts, hyn, hAO, hA, hRf, hRl, hsc⟩ := C
  obtain ⟨hh, hl, hst, hls, hP, hK, hD, hS⟩ := Z
  unfold y_okop y_okin at hok
  simp only [Bool.and_eq_true, decide_eq_true_eq] at hok
  obtain ⟨hdg, hok⟩ := hok
  unfold y_step at hs
  dsimp only at hs
  obtain ⟨rfl, hi⟩ := hok
  rw [Nat.add_sub_cancel_left] at hdg
  rcases st with _ | ⟨a | a | _ | a, r⟩
  · cases hs
  · cases hs
    obtain ⟨ys, rfl, h2⟩ := y_ds_ci hst
    exact lv_istore hx hb hdg hls hi rfl (fun ls' hls' => kk α tys ws H locs ls' _ _ (List.prefix_refl _) ⟨hh, y_dl_set _ hl rfl, h2, hls', hP, hK, hD, hS⟩)
  · cases hs
  · cases hs
  · cases hs

set_option maxHeartbeats 4000000 in
set_option maxRecDepth 100000 in
theorem y_st_lstoren {i : Fin 4} {nx r1 r2 r3 : Nat} (C : y_ctx κ sc p R s m args meth c cc own yn nL A) (hH : y_H κ hy) (hT : y_T κ tb) (hok : y_okop nL own yn cc (pc, (.lstore_n i, nx, r1, r2, r3)) = true) (hs : y_step sc κ.2.2.2 hy tb pc (.lstore_n i, nx, r1, r2, r3) lo st h k n = some S') (hk : S'.2.2.2.2.1 ≤ R.cells) (hn : S'.2.2.2.2.2 ≤ R.slots) (Z : y_Z κ D A s nL α tys ws H locs ls lv sv lo st h)
    (kk : ∀ α' tys' ws' H' locs' ls' lv' sv', α <+: α' → y_Z κ D A s nL α' tys' ws' H' locs' ls' lv' sv' S'.2.1 S'.2.2.1 S'.2.2.2.1 → W p l e R s m args below meth c H' locs' S'.2.2.2.2.1 S'.2.2.2.2.2 Q (F0 m S'.1 ls' sv')) : W p l e R s m args below meth c H locs k n Q (F0 m pc ls sv) := by
  obtain ⟨hx, hb, hml, hown, hts, hyn, hAO, hA, hRf, hRl, hsc⟩ := C
  obtain ⟨hh, hl, hst, hls, hP, hK, hD, hS⟩ := Z
  unfold y_okop y_okin at hok
  simp only [Bool.and_eq_true, decide_eq_true_eq] at hok
  obtain ⟨hdg, hok⟩ := hok
  unfold y_step at hs
  dsimp only at hs
  obtain ⟨rfl, hi⟩ := hok
  rw [Nat.add_sub_cancel_left] at hdg
  rcases st with _ | ⟨a | a | _ | a, r⟩
  · cases hs
  · cases hs
  · cases hs
    obtain ⟨ys, rfl, h2⟩ := y_ds_cl hst
    exact lv_lstore_n hx hb hdg rfl hls hi rfl (fun ls' hls' => kk α tys ws H locs ls' _ _ (List.prefix_refl _) ⟨hh, y_dl_set2 _ hl rfl, h2, hls', hP, hK, hD, hS⟩)
  · cases hs
  · cases hs

set_option maxHeartbeats 4000000 in
set_option maxRecDepth 100000 in
theorem y_st_lstore {i : Nat} {nx r1 r2 r3 : Nat} (C : y_ctx κ sc p R s m args meth c cc own yn nL A) (hH : y_H κ hy) (hT : y_T κ tb) (hok : y_okop nL own yn cc (pc, (.lstore i, nx, r1, r2, r3)) = true) (hs : y_step sc κ.2.2.2 hy tb pc (.lstore i, nx, r1, r2, r3) lo st h k n = some S') (hk : S'.2.2.2.2.1 ≤ R.cells) (hn : S'.2.2.2.2.2 ≤ R.slots) (Z : y_Z κ D A s nL α tys ws H locs ls lv sv lo st h)
    (kk : ∀ α' tys' ws' H' locs' ls' lv' sv', α <+: α' → y_Z κ D A s nL α' tys' ws' H' locs' ls' lv' sv' S'.2.1 S'.2.2.1 S'.2.2.2.1 → W p l e R s m args below meth c H' locs' S'.2.2.2.2.1 S'.2.2.2.2.2 Q (F0 m S'.1 ls' sv')) : W p l e R s m args below meth c H locs k n Q (F0 m pc ls sv) := by
  obtain ⟨hx, hb, hml, hown, hts, hyn, hAO, hA, hRf, hRl, hsc⟩ := C
  obtain ⟨hh, hl, hst, hls, hP, hK, hD, hS⟩ := Z
  unfold y_okop y_okin at hok
  simp only [Bool.and_eq_true, decide_eq_true_eq] at hok
  obtain ⟨hdg, hok⟩ := hok
  unfold y_step at hs
  dsimp only at hs
  obtain ⟨rfl, hi⟩ := hok
  rw [Nat.add_sub_cancel_left] at hdg
  rcases st with _ | ⟨a | a | _ | a, r⟩
  · cases hs
  · cases hs
  · cases hs
    obtain ⟨ys, rfl, h2⟩ := y_ds_cl hst
    exact lv_lstore hx hb hdg hls hi rfl (fun ls' hls' => kk α tys ws H locs ls' _ _ (List.prefix_refl _) ⟨hh, y_dl_set2 _ hl rfl, h2, hls', hP, hK, hD, hS⟩)
  · cases hs
  · cases hs

set_option maxHeartbeats 4000000 in
set_option maxRecDepth 100000 in
theorem y_st_astoren {i : Fin 4} {nx r1 r2 r3 : Nat} (C : y_ctx κ sc p R s m args meth c cc own yn nL A) (hH : y_H κ hy) (hT : y_T κ tb) (hok : y_okop nL own yn cc (pc, (.astore_n i, nx, r1, r2, r3)) = true) (hs : y_step sc κ.2.2.2 hy tb pc (.astore_n i, nx, r1, r2, r3) lo st h k n = some S') (hk : S'.2.2.2.2.1 ≤ R.cells) (hn : S'.2.2.2.2.2 ≤ R.slots) (Z : y_Z κ D A s nL α tys ws H locs ls lv sv lo st h)
    (kk : ∀ α' tys' ws' H' locs' ls' lv' sv', α <+: α' → y_Z κ D A s nL α' tys' ws' H' locs' ls' lv' sv' S'.2.1 S'.2.2.1 S'.2.2.2.1 → W p l e R s m args below meth c H' locs' S'.2.2.2.2.1 S'.2.2.2.2.2 Q (F0 m S'.1 ls' sv')) : W p l e R s m args below meth c H locs k n Q (F0 m pc ls sv) := by
  obtain ⟨hx, hb, hml, hown, hts, hyn, hAO, hA, hRf, hRl, hsc⟩ := C
  obtain ⟨hh, hl, hst, hls, hP, hK, hD, hS⟩ := Z
  unfold y_okop y_okin at hok
  simp only [Bool.and_eq_true, decide_eq_true_eq] at hok
  obtain ⟨hdg, hok⟩ := hok
  unfold y_step at hs
  dsimp only at hs
  obtain ⟨rfl, hi⟩ := hok
  rw [Nat.add_sub_cancel_left] at hdg
  rcases st with _ | ⟨a | a | _ | a, r⟩
  · cases hs
  · cases hs
  · cases hs
  · cases hs
  · cases hs
    obtain ⟨b, ys, rfl, h1, h2⟩ := y_ds_cr hst
    exact lv_astore_n hx hb hdg rfl hls hi rfl (fun ls' hls' => kk α tys ws H locs ls' _ _ (List.prefix_refl _) ⟨hh, y_dl_set _ hl (Option.map_eq_some_iff.mpr ⟨b, h1, rfl⟩), h2, hls', hP, hK, hD, hS⟩)

set_option maxHeartbeats 4000000 in
set_option maxRecDepth 100000 in
theorem y_st_iinc {i : Nat} {d : Int} {nx r1 r2 r3 : Nat} (C : y_ctx κ sc p R s m args meth c cc own yn nL A) (hH : y_H κ hy) (hT : y_T κ tb) (hok : y_okop nL own yn cc (pc, (.iinc i d, nx, r1, r2, r3)) = true) (hs : y_step sc κ.2.2.2 hy tb pc (.iinc i d, nx, r1, r2, r3) lo st h k n = some S') (hk : S'.2.2.2.2.1 ≤ R.cells) (hn : S'.2.2.2.2.2 ≤ R.slots) (Z : y_Z κ D A s nL α tys ws H locs ls lv sv lo st h)
    (kk : ∀ α' tys' ws' H' locs' ls' lv' sv', α <+: α' → y_Z κ D A s nL α' tys' ws' H' locs' ls' lv' sv' S'.2.1 S'.2.2.1 S'.2.2.2.1 → W p l e R s m args below meth c H' locs' S'.2.2.2.2.1 S'.2.2.2.2.2 Q (F0 m S'.1 ls' sv')) : W p l e R s m args below meth c H locs k n Q (F0 m pc ls sv) := by
  obtain ⟨hx, hb, hml, hown, hts, hyn, hAO, hA, hRf, hRl, hsc⟩ := C
  obtain ⟨hh, hl, hst, hls, hP, hK, hD, hS⟩ := Z
  unfold y_okop y_okin at hok
  simp only [Bool.and_eq_true, decide_eq_true_eq] at hok
  obtain ⟨hdg, hok⟩ := hok
  unfold y_step at hs
  dsimp only at hs
  obtain ⟨rfl, hi, hv⟩ := hok
  rw [Nat.add_sub_cancel_left] at hdg
  cases hg : y_lget lo i with
  | none => rw [hg] at hs; cases hs
  | some v =>
    rw [hg] at hs
    obtain ⟨x, hx1, hx2⟩ := y_dl_get hl hg
    rcases v with (a | a) | a | _ | a
    · cases hs
      cases hx2
      obtain ⟨j, hj⟩ := List.getElem?_of_mem hx1
      refine lv_iinc (v := nI ((a + r1) % 4294967296)) hx hb hdg hls hj ?_ hi rfl (fun ls' hls' => kk α tys ws H locs ls' _ _ (List.prefix_refl _) ⟨hh, y_dl_set _ hl rfl, hst, hls', hP, hK, hD, hS⟩)
      rw [hv, y_nmod]
      exact nI_add a r1
    · cases hs
    · cases hs
    · cases hs
    · cases hs

set_option maxHeartbeats 4000000 in
set_option maxRecDepth 100000 in
theorem y_st_iadd {nx r1 r2 r3 : Nat} (C : y_ctx κ sc p R s m args meth c cc own yn nL A) (hH : y_H κ hy) (hT : y_T κ tb) (hok : y_okop nL own yn cc (pc, (.iadd, nx, r1, r2, r3)) = true) (hs : y_step sc κ.2.2.2 hy tb pc (.iadd, nx, r1, r2, r3) lo st h k n = some S') (hk : S'.2.2.2.2.1 ≤ R.cells) (hn : S'.2.2.2.2.2 ≤ R.slots) (Z : y_Z κ D A s nL α tys ws H locs ls lv sv lo st h)
    (kk : ∀ α' tys' ws' H' locs' ls' lv' sv', α <+: α' → y_Z κ D A s nL α' tys' ws' H' locs' ls' lv' sv' S'.2.1 S'.2.2.1 S'.2.2.2.1 → W p l e R s m args below meth c H' locs' S'.2.2.2.2.1 S'.2.2.2.2.2 Q (F0 m S'.1 ls' sv')) : W p l e R s m args below meth c H locs k n Q (F0 m pc ls sv) := by
  obtain ⟨hx, hb, hml, hown, hts, hyn, hAO, hA, hRf, hRl, hsc⟩ := C
  obtain ⟨hh, hl, hst, hls, hP, hK, hD, hS⟩ := Z
  unfold y_okop y_okin at hok
  simp only [Bool.and_eq_true, decide_eq_true_eq] at hok
  obtain ⟨hdg, hok⟩ := hok
  unfold y_step at hs
  dsimp only at hs
  obtain rfl := hok
  rw [Nat.add_sub_cancel_left] at hdg
  obtain ⟨st', hb2, rfl⟩ := Option.map_eq_some_iff.mp hs
  obtain ⟨x, y, xs, rfl, h9⟩ := y_bin_ok (κ := κ) (op := 99) (fun x y => x + y) (fun x y z hz => by cases hz; rw [y_nmod]; exact nI_add x y) (fun a b v hv => y_no hT hv) hb2 hst
  exact lv_iadd hx hb hdg (kk α tys ws H locs ls lv _ (List.prefix_refl _) ⟨hh, hl, h9, hls, hP, hK, hD, hS⟩)

set_option maxHeartbeats 4000000 in
set_option maxRecDepth 100000 in
theorem y_st_isub {nx r1 r2 r3 : Nat} (C : y_ctx κ sc p R s m args meth c cc own yn nL A) (hH : y_H κ hy) (hT : y_T κ tb) (hok : y_okop nL own yn cc (pc, (.isub, nx, r1, r2, r3)) = true) (hs : y_step sc κ.2.2.2 hy tb pc (.isub, nx, r1, r2, r3) lo st h k n = some S') (hk : S'.2.2.2.2.1 ≤ R.cells) (hn : S'.2.2.2.2.2 ≤ R.slots) (Z : y_Z κ D A s nL α tys ws H locs ls lv sv lo st h)
    (kk : ∀ α' tys' ws' H' locs' ls' lv' sv', α <+: α' → y_Z κ D A s nL α' tys' ws' H' locs' ls' lv' sv' S'.2.1 S'.2.2.1 S'.2.2.2.1 → W p l e R s m args below meth c H' locs' S'.2.2.2.2.1 S'.2.2.2.2.2 Q (F0 m S'.1 ls' sv')) : W p l e R s m args below meth c H locs k n Q (F0 m pc ls sv) := by
  obtain ⟨hx, hb, hml, hown, hts, hyn, hAO, hA, hRf, hRl, hsc⟩ := C
  obtain ⟨hh, hl, hst, hls, hP, hK, hD, hS⟩ := Z
  unfold y_okop y_okin at hok
  simp only [Bool.and_eq_true, decide_eq_true_eq] at hok
  obtain ⟨hdg, hok⟩ := hok
  unfold y_step at hs
  dsimp only at hs
  obtain rfl := hok
  rw [Nat.add_sub_cancel_left] at hdg
  obtain ⟨st', hb2, rfl⟩ := Option.map_eq_some_iff.mp hs
  obtain ⟨x, y, xs, rfl, h9⟩ := y_bin_ok (κ := κ) (op := 99) (fun x y => x - y) (fun x y z hz => by cases hz; exact y_sub_ok x y) (fun a b v hv => y_no hT hv) hb2 hst
  exact lv_isub hx hb hdg (kk α tys ws H locs ls lv _ (List.prefix_refl _) ⟨hh, hl, h9, hls, hP, hK, hD, hS⟩)

set_option maxHeartbeats 4000000 in
set_option maxRecDepth 100000 in
theorem y_st_imul {nx r1 r2 r3 : Nat} (C : y_ctx κ sc p R s m args meth c cc own yn nL A) (hH : y_H κ hy) (hT : y_T κ tb) (hok : y_okop nL own yn cc (pc, (.imul, nx, r1, r2, r3)) = true) (hs : y_step sc κ.2.2.2 hy tb pc (.imul, nx, r1, r2, r3) lo st h k n = some S') (hk : S'.2.2.2.2.1 ≤ R.cells) (hn : S'.2.2.2.2.2 ≤ R.slots) (Z : y_Z κ D A s nL α tys ws H locs ls lv sv lo st h)
    (kk : ∀ α' tys' ws' H' locs' ls' lv' sv', α <+: α' → y_Z κ D A s nL α' tys' ws' H' locs' ls' lv' sv' S'.2.1 S'.2.2.1 S'.2.2.2.1 → W p l e R s m args below meth c H' locs' S'.2.2.2.2.1 S'.2.2.2.2.2 Q (F0 m S'.1 ls' sv')) : W p l e R s m args below meth c H locs k n Q (F0 m pc ls sv) := by
  obtain ⟨hx, hb, hml, hown, hts, hyn, hAO, hA, hRf, hRl, hsc⟩ := C
  obtain ⟨hh, hl, hst, hls, hP, hK, hD, hS⟩ := Z
  unfold y_okop y_okin at hok
  simp only [Bool.and_eq_true, decide_eq_true_eq] at hok
  obtain ⟨hdg, hok⟩ := hok
  unfold y_step at hs
  dsimp only at hs
  obtain rfl := hok
  rw [Nat.add_sub_cancel_left] at hdg
  obtain ⟨st', hb2, rfl⟩ := Option.map_eq_some_iff.mp hs
  obtain ⟨x, y, xs, rfl, h9⟩ := y_bin_ok (κ := κ) (op := 99) (fun x y => x * y) (fun x y z hz => by cases hz; rw [y_nmod]; exact pk_mul x y) (fun a b v hv => y_no hT hv) hb2 hst
  exact lv_imul hx hb hdg (kk α tys ws H locs ls lv _ (List.prefix_refl _) ⟨hh, hl, h9, hls, hP, hK, hD, hS⟩)

set_option maxHeartbeats 4000000 in
set_option maxRecDepth 100000 in
theorem y_st_iand {nx r1 r2 r3 : Nat} (C : y_ctx κ sc p R s m args meth c cc own yn nL A) (hH : y_H κ hy) (hT : y_T κ tb) (hok : y_okop nL own yn cc (pc, (.iand, nx, r1, r2, r3)) = true) (hs : y_step sc κ.2.2.2 hy tb pc (.iand, nx, r1, r2, r3) lo st h k n = some S') (hk : S'.2.2.2.2.1 ≤ R.cells) (hn : S'.2.2.2.2.2 ≤ R.slots) (Z : y_Z κ D A s nL α tys ws H locs ls lv sv lo st h)
    (kk : ∀ α' tys' ws' H' locs' ls' lv' sv', α <+: α' → y_Z κ D A s nL α' tys' ws' H' locs' ls' lv' sv' S'.2.1 S'.2.2.1 S'.2.2.2.1 → W p l e R s m args below meth c H' locs' S'.2.2.2.2.1 S'.2.2.2.2.2 Q (F0 m S'.1 ls' sv')) : W p l e R s m args below meth c H locs k n Q (F0 m pc ls sv) := by
  obtain ⟨hx, hb, hml, hown, hts, hyn, hAO, hA, hRf, hRl, hsc⟩ := C
  obtain ⟨hh, hl, hst, hls, hP, hK, hD, hS⟩ := Z
  unfold y_okop y_okin at hok
  simp only [Bool.and_eq_true, decide_eq_true_eq] at hok
  obtain ⟨hdg, hok⟩ := hok
  unfold y_step at hs
  dsimp only at hs
  obtain rfl := hok
  rw [Nat.add_sub_cancel_left] at hdg
  obtain ⟨st', hb2, rfl⟩ := Option.map_eq_some_iff.mp hs
  obtain ⟨x, y, xs, rfl, h9⟩ := y_bin_ok (κ := κ) (op := 0) (fun x y => x &&& y) (fun x y z hz => by cases hz; exact y_and_ok x y) (fun a b v hv => y_lookT_ok hT hv) hb2 hst
  exact lv_iand hx hb hdg (kk α tys ws H locs ls lv _ (List.prefix_refl _) ⟨hh, hl, h9, hls, hP, hK, hD, hS⟩)

set_option maxHeartbeats 4000000 in
set_option maxRecDepth 100000 in
theorem y_st_ior {nx r1 r2 r3 : Nat} (C : y_ctx κ sc p R s m args meth c cc own yn nL A) (hH : y_H κ hy) (hT : y_T κ tb) (hok : y_okop nL own yn cc (pc, (.ior, nx, r1, r2, r3)) = true) (hs : y_step sc κ.2.2.2 hy tb pc (.ior, nx, r1, r2, r3) lo st h k n = some S') (hk : S'.2.2.2.2.1 ≤ R.cells) (hn : S'.2.2.2.2.2 ≤ R.slots) (Z : y_Z κ D A s nL α tys ws H locs ls lv sv lo st h)
    (kk : ∀ α' tys' ws' H' locs' ls' lv' sv', α <+: α' → y_Z κ D A s nL α' tys' ws' H' locs' ls' lv' sv' S'.2.1 S'.2.2.1 S'.2.2.2.1 → W p l e R s m args below meth c H' locs' S'.2.2.2.2.1 S'.2.2.2.2.2 Q (F0 m S'.1 ls' sv')) : W p l e R s m args below meth c H locs k n Q (F0 m pc ls sv) := by
  obtain ⟨hx, hb, hml, hown, hts, hyn, hAO, hA, hRf, hRl, hsc⟩ := C
  obtain ⟨hh, hl, hst, hls, hP, hK, hD, hS⟩ := Z
  unfold y_okop y_okin at hok
  simp only [Bool.and_eq_true, decide_eq_true_eq] at hok
  obtain ⟨hdg, hok⟩ := hok
  unfold y_step at hs
  dsimp only at hs
  obtain rfl := hok
  rw [Nat.add_sub_cancel_left] at hdg
  obtain ⟨st', hb2, rfl⟩ := Option.map_eq_some_iff.mp hs
  obtain ⟨x, y, xs, rfl, h9⟩ := y_bin_ok (κ := κ) (op := 99) (fun x y => x ||| y) (fun x y z hz => by cases hz; exact y_or_ok x y) (fun a b v hv => y_no hT hv) hb2 hst
  exact lv_ior hx hb hdg (kk α tys ws H locs ls lv _ (List.prefix_refl _) ⟨hh, hl, h9, hls, hP, hK, hD, hS⟩)

set_option maxHeartbeats 4000000 in
set_option maxRecDepth 100000 in
theorem y_st_ishl {nx r1 r2 r3 : Nat} (C : y_ctx κ sc p R s m args meth c cc own yn nL A) (hH : y_H κ hy) (hT : y_T κ tb) (hok : y_okop nL own yn cc (pc, (.ishl, nx, r1, r2, r3)) = true) (hs : y_step sc κ.2.2.2 hy tb pc (.ishl, nx, r1, r2, r3) lo st h k n = some S') (hk : S'.2.2.2.2.1 ≤ R.cells) (hn : S'.2.2.2.2.2 ≤ R.slots) (Z : y_Z κ D A s nL α tys ws H locs ls lv sv lo st h)
    (kk : ∀ α' tys' ws' H' locs' ls' lv' sv', α <+: α' → y_Z κ D A s nL α' tys' ws' H' locs' ls' lv' sv' S'.2.1 S'.2.2.1 S'.2.2.2.1 → W p l e R s m args below meth c H' locs' S'.2.2.2.2.1 S'.2.2.2.2.2 Q (F0 m S'.1 ls' sv')) : W p l e R s m args below meth c H locs k n Q (F0 m pc ls sv) := by
  obtain ⟨hx, hb, hml, hown, hts, hyn, hAO, hA, hRf, hRl, hsc⟩ := C
  obtain ⟨hh, hl, hst, hls, hP, hK, hD, hS⟩ := Z
  unfold y_okop y_okin at hok
  simp only [Bool.and_eq_true, decide_eq_true_eq] at hok
  obtain ⟨hdg, hok⟩ := hok
  unfold y_step at hs
  dsimp only at hs
  obtain rfl := hok
  rw [Nat.add_sub_cancel_left] at hdg
  obtain ⟨st', hb2, rfl⟩ := Option.map_eq_some_iff.mp hs
  obtain ⟨x, y, xs, rfl, h9⟩ := y_bin_ok (κ := κ) (op := 99) (fun x y => x <<< (y &&& 31)) (fun x y z hz => by
    unfold y_shl at hz
    cases hc : Nat.blt y 32 with
    | true => rw [hc] at hz; cases hz; exact y_shl_ok (y_blt.mp hc)
    | false => rw [hc] at hz; cases hz) (fun a b v hv => y_no hT hv) hb2 hst
  exact lv_ishl hx hb hdg (kk α tys ws H locs ls lv _ (List.prefix_refl _) ⟨hh, hl, h9, hls, hP, hK, hD, hS⟩)

set_option maxHeartbeats 4000000 in
set_option maxRecDepth 100000 in
theorem y_st_ishr {nx r1 r2 r3 : Nat} (C : y_ctx κ sc p R s m args meth c cc own yn nL A) (hH : y_H κ hy) (hT : y_T κ tb) (hok : y_okop nL own yn cc (pc, (.ishr, nx, r1, r2, r3)) = true) (hs : y_step sc κ.2.2.2 hy tb pc (.ishr, nx, r1, r2, r3) lo st h k n = some S') (hk : S'.2.2.2.2.1 ≤ R.cells) (hn : S'.2.2.2.2.2 ≤ R.slots) (Z : y_Z κ D A s nL α tys ws H locs ls lv sv lo st h)
    (kk : ∀ α' tys' ws' H' locs' ls' lv' sv', α <+: α' → y_Z κ D A s nL α' tys' ws' H' locs' ls' lv' sv' S'.2.1 S'.2.2.1 S'.2.2.2.1 → W p l e R s m args below meth c H' locs' S'.2.2.2.2.1 S'.2.2.2.2.2 Q (F0 m S'.1 ls' sv')) : W p l e R s m args below meth c H locs k n Q (F0 m pc ls sv) := by
  obtain ⟨hx, hb, hml, hown, hts, hyn, hAO, hA, hRf, hRl, hsc⟩ := C
  obtain ⟨hh, hl, hst, hls, hP, hK, hD, hS⟩ := Z
  unfold y_okop y_okin at hok
  simp only [Bool.and_eq_true, decide_eq_true_eq] at hok
  obtain ⟨hdg, hok⟩ := hok
  unfold y_step at hs
  dsimp only at hs
  obtain rfl := hok
  rw [Nat.add_sub_cancel_left] at hdg
  obtain ⟨st', hb2, rfl⟩ := Option.map_eq_some_iff.mp hs
  obtain ⟨x, y, xs, rfl, h9⟩ := y_bin_ok (κ := κ) (op := 1) (fun x y => x >>> (y &&& 31)) (fun x y z hz => by
    unfold y_shr at hz
    cases hc : (Nat.blt y 32 && Nat.blt x 2147483648) with
    | true =>
      rw [hc] at hz; cases hz
      simp only [Bool.and_eq_true] at hc
      exact pk_shrN (y_blt.mp hc.2) (nI y &&& 31) y (y_sm y (y_blt.mp hc.1))
    | false => rw [hc] at hz; cases hz) (fun a b v hv => y_lookT_ok hT hv) hb2 hst
  exact lv_ishr hx hb hdg (kk α tys ws H locs ls lv _ (List.prefix_refl _) ⟨hh, hl, h9, hls, hP, hK, hD, hS⟩)

set_option maxHeartbeats 4000000 in
set_option maxRecDepth 100000 in
theorem y_st_iushr {nx r1 r2 r3 : Nat} (C : y_ctx κ sc p R s m args meth c cc own yn nL A) (hH : y_H κ hy) (hT : y_T κ tb) (hok : y_okop nL own yn cc (pc, (.iushr, nx, r1, r2, r3)) = true) (hs : y_step sc κ.2.2.2 hy tb pc (.iushr, nx, r1, r2, r3) lo st h k n = some S') (hk : S'.2.2.2.2.1 ≤ R.cells) (hn : S'.2.2.2.2.2 ≤ R.slots) (Z : y_Z κ D A s nL α tys ws H locs ls lv sv lo st h)
    (kk : ∀ α' tys' ws' H' locs' ls' lv' sv', α <+: α' → y_Z κ D A s nL α' tys' ws' H' locs' ls' lv' sv' S'.2.1 S'.2.2.1 S'.2.2.2.1 → W p l e R s m args below meth c H' locs' S'.2.2.2.2.1 S'.2.2.2.2.2 Q (F0 m S'.1 ls' sv')) : W p l e R s m args below meth c H locs k n Q (F0 m pc ls sv) := by
  obtain ⟨hx, hb, hml, hown, hts, hyn, hAO, hA, hRf, hRl, hsc⟩ := C
  obtain ⟨hh, hl, hst, hls, hP, hK, hD, hS⟩ := Z
  unfold y_okop y_okin at hok
  simp only [Bool.and_eq_true, decide_eq_true_eq] at hok
  obtain ⟨hdg, hok⟩ := hok
  unfold y_step at hs
  dsimp only at hs
  obtain rfl := hok
  rw [Nat.add_sub_cancel_left] at hdg
  obtain ⟨st', hb2, rfl⟩ := Option.map_eq_some_iff.mp hs
  obtain ⟨x, y, xs, rfl, h9⟩ := y_bin_ok (κ := κ) (op := 99) (fun x y => (x.toUInt32 >>> (y.toUInt32 &&& Int32.toUInt32 31)).toInt32) (fun x y z hz => by
    unfold y_ushr at hz
    cases hc : (Nat.blt y 32 && Nat.blt x 4294967296) with
    | true =>
      rw [hc] at hz; cases hz
      simp only [Bool.and_eq_true] at hc
      exact pk_ushrN (y_blt.mp hc.2) (nI y) y (y_um y (y_blt.mp hc.1))
    | false => rw [hc] at hz; cases hz) (fun a b v hv => y_no hT hv) hb2 hst
  exact (fun k9 => lv_iushr hx hb hdg rfl k9) (kk α tys ws H locs ls lv _ (List.prefix_refl _) ⟨hh, hl, h9, hls, hP, hK, hD, hS⟩)

set_option maxHeartbeats 4000000 in
set_option maxRecDepth 100000 in
theorem y_st_irem {nx r1 r2 r3 : Nat} (C : y_ctx κ sc p R s m args meth c cc own yn nL A) (hH : y_H κ hy) (hT : y_T κ tb) (hok : y_okop nL own yn cc (pc, (.irem, nx, r1, r2, r3)) = true) (hs : y_step sc κ.2.2.2 hy tb pc (.irem, nx, r1, r2, r3) lo st h k n = some S') (hk : S'.2.2.2.2.1 ≤ R.cells) (hn : S'.2.2.2.2.2 ≤ R.slots) (Z : y_Z κ D A s nL α tys ws H locs ls lv sv lo st h)
    (kk : ∀ α' tys' ws' H' locs' ls' lv' sv', α <+: α' → y_Z κ D A s nL α' tys' ws' H' locs' ls' lv' sv' S'.2.1 S'.2.2.1 S'.2.2.2.1 → W p l e R s m args below meth c H' locs' S'.2.2.2.2.1 S'.2.2.2.2.2 Q (F0 m S'.1 ls' sv')) : W p l e R s m args below meth c H locs k n Q (F0 m pc ls sv) := by
  obtain ⟨hx, hb, hml, hown, hts, hyn, hAO, hA, hRf, hRl, hsc⟩ := C
  obtain ⟨hh, hl, hst, hls, hP, hK, hD, hS⟩ := Z
  unfold y_okop y_okin at hok
  simp only [Bool.and_eq_true, decide_eq_true_eq] at hok
  obtain ⟨hdg, hok⟩ := hok
  unfold y_step at hs
  dsimp only at hs
  obtain rfl := hok
  rw [Nat.add_sub_cancel_left] at hdg
  obtain ⟨st', hb2, rfl⟩ := Option.map_eq_some_iff.mp hs
  rcases st with _ | ⟨(b | b) | b, _ | ⟨(a | a) | a, r⟩⟩
  · cases hb2
  · cases hb2
  · obtain ⟨z, hz, rfl⟩ := Option.map_eq_some_iff.mp hb2
    obtain ⟨ys, rfl, h1⟩ := y_ds_ci hst
    obtain ⟨xs, rfl, h2⟩ := y_ds_ci h1
    unfold y_rem at hz
    cases hc : (Nat.blt 0 b && (Nat.blt b 2147483648 && Nat.blt a 2147483648)) with
    | true =>
      rw [hc] at hz; cases hz
      simp only [Bool.and_eq_true] at hc
      have h3 := y_blt.mp hc.1
      have h4 := y_blt.mp hc.2.1
      have h5 := y_blt.mp hc.2.2
      refine lv_irem hx hb hdg (y_nz h3 h4) (kk α tys ws H locs ls lv _ (List.prefix_refl _) ⟨hh, hl, y_ds_i ?_ h2, hls, hP, hK, hD, hS⟩)
      exact (pk_rem h5 h3 h4).symm
    | false => rw [hc] at hz; cases hz
  · obtain ⟨z, hz, rfl⟩ := Option.map_eq_some_iff.mp hb2
    exact y_no hT hz
  · cases hb2
  · cases hb2
  · obtain ⟨z, hz, rfl⟩ := Option.map_eq_some_iff.mp hb2
    exact y_no hT hz
  · obtain ⟨z, hz, rfl⟩ := Option.map_eq_some_iff.mp hb2
    exact y_no hT hz
  · cases hb2
  · cases hb2
  · cases hb2
  · cases hb2
  · cases hb2

set_option maxHeartbeats 4000000 in
set_option maxRecDepth 100000 in
theorem y_st_i2c {nx r1 r2 r3 : Nat} (C : y_ctx κ sc p R s m args meth c cc own yn nL A) (hH : y_H κ hy) (hT : y_T κ tb) (hok : y_okop nL own yn cc (pc, (.i2c, nx, r1, r2, r3)) = true) (hs : y_step sc κ.2.2.2 hy tb pc (.i2c, nx, r1, r2, r3) lo st h k n = some S') (hk : S'.2.2.2.2.1 ≤ R.cells) (hn : S'.2.2.2.2.2 ≤ R.slots) (Z : y_Z κ D A s nL α tys ws H locs ls lv sv lo st h)
    (kk : ∀ α' tys' ws' H' locs' ls' lv' sv', α <+: α' → y_Z κ D A s nL α' tys' ws' H' locs' ls' lv' sv' S'.2.1 S'.2.2.1 S'.2.2.2.1 → W p l e R s m args below meth c H' locs' S'.2.2.2.2.1 S'.2.2.2.2.2 Q (F0 m S'.1 ls' sv')) : W p l e R s m args below meth c H locs k n Q (F0 m pc ls sv) := by
  obtain ⟨hx, hb, hml, hown, hts, hyn, hAO, hA, hRf, hRl, hsc⟩ := C
  obtain ⟨hh, hl, hst, hls, hP, hK, hD, hS⟩ := Z
  unfold y_okop y_okin at hok
  simp only [Bool.and_eq_true, decide_eq_true_eq] at hok
  obtain ⟨hdg, hok⟩ := hok
  unfold y_step at hs
  dsimp only at hs
  obtain rfl := hok
  rw [Nat.add_sub_cancel_left] at hdg
  rcases st with _ | ⟨a | a | a, r⟩
  · cases hs
  · skip
    obtain ⟨z, hz, h9⟩ := Option.map_eq_some_iff.mp hs
    obtain ⟨v, hv, rfl⟩ := Option.map_eq_some_iff.mp hz
    cases h9
    obtain ⟨ys, rfl, h2⟩ := y_ds_ci hst
    exact lv_i2c hx hb hdg (y_lookT_ok hT hv) (kk α tys ws H locs ls lv _ (List.prefix_refl _) ⟨hh, hl, y_ds_i rfl h2, hls, hP, hK, hD, hS⟩)
  · cases hs
  · cases hs

set_option maxHeartbeats 4000000 in
set_option maxRecDepth 100000 in
theorem y_st_l2i {nx r1 r2 r3 : Nat} (C : y_ctx κ sc p R s m args meth c cc own yn nL A) (hH : y_H κ hy) (hT : y_T κ tb) (hok : y_okop nL own yn cc (pc, (.l2i, nx, r1, r2, r3)) = true) (hs : y_step sc κ.2.2.2 hy tb pc (.l2i, nx, r1, r2, r3) lo st h k n = some S') (hk : S'.2.2.2.2.1 ≤ R.cells) (hn : S'.2.2.2.2.2 ≤ R.slots) (Z : y_Z κ D A s nL α tys ws H locs ls lv sv lo st h)
    (kk : ∀ α' tys' ws' H' locs' ls' lv' sv', α <+: α' → y_Z κ D A s nL α' tys' ws' H' locs' ls' lv' sv' S'.2.1 S'.2.2.1 S'.2.2.2.1 → W p l e R s m args below meth c H' locs' S'.2.2.2.2.1 S'.2.2.2.2.2 Q (F0 m S'.1 ls' sv')) : W p l e R s m args below meth c H locs k n Q (F0 m pc ls sv) := by
  obtain ⟨hx, hb, hml, hown, hts, hyn, hAO, hA, hRf, hRl, hsc⟩ := C
  obtain ⟨hh, hl, hst, hls, hP, hK, hD, hS⟩ := Z
  unfold y_okop y_okin at hok
  simp only [Bool.and_eq_true, decide_eq_true_eq] at hok
  obtain ⟨hdg, hok⟩ := hok
  unfold y_step at hs
  dsimp only at hs
  obtain rfl := hok
  rw [Nat.add_sub_cancel_left] at hdg
  rcases st with _ | ⟨a | a | a, r⟩
  · cases hs
  · cases hs
  · skip
    obtain ⟨z, hz, h9⟩ := Option.map_eq_some_iff.mp hs
    obtain ⟨v, hv, rfl⟩ := Option.map_eq_some_iff.mp hz
    cases h9
    obtain ⟨ys, rfl, h2⟩ := y_ds_cl hst
    exact lv_l2i hx hb hdg (y_lookT_ok hT hv) (kk α tys ws H locs ls lv _ (List.prefix_refl _) ⟨hh, hl, y_ds_i rfl h2, hls, hP, hK, hD, hS⟩)
  · cases hs

set_option maxHeartbeats 4000000 in
set_option maxRecDepth 100000 in
theorem y_st_i2l {nx r1 r2 r3 : Nat} (C : y_ctx κ sc p R s m args meth c cc own yn nL A) (hH : y_H κ hy) (hT : y_T κ tb) (hok : y_okop nL own yn cc (pc, (.i2l, nx, r1, r2, r3)) = true) (hs : y_step sc κ.2.2.2 hy tb pc (.i2l, nx, r1, r2, r3) lo st h k n = some S') (hk : S'.2.2.2.2.1 ≤ R.cells) (hn : S'.2.2.2.2.2 ≤ R.slots) (Z : y_Z κ D A s nL α tys ws H locs ls lv sv lo st h)
    (kk : ∀ α' tys' ws' H' locs' ls' lv' sv', α <+: α' → y_Z κ D A s nL α' tys' ws' H' locs' ls' lv' sv' S'.2.1 S'.2.2.1 S'.2.2.2.1 → W p l e R s m args below meth c H' locs' S'.2.2.2.2.1 S'.2.2.2.2.2 Q (F0 m S'.1 ls' sv')) : W p l e R s m args below meth c H locs k n Q (F0 m pc ls sv) := by
  obtain ⟨hx, hb, hml, hown, hts, hyn, hAO, hA, hRf, hRl, hsc⟩ := C
  obtain ⟨hh, hl, hst, hls, hP, hK, hD, hS⟩ := Z
  unfold y_okop y_okin at hok
  simp only [Bool.and_eq_true, decide_eq_true_eq] at hok
  obtain ⟨hdg, hok⟩ := hok
  unfold y_step at hs
  dsimp only at hs
  obtain rfl := hok
  rw [Nat.add_sub_cancel_left] at hdg
  rcases st with _ | ⟨a | a | a, r⟩
  · cases hs
  · skip
    obtain ⟨z, hz, h9⟩ := Option.map_eq_some_iff.mp hs
    obtain ⟨v, hv, rfl⟩ := Option.map_eq_some_iff.mp hz
    cases h9
    obtain ⟨ys, rfl, h2⟩ := y_ds_ci hst
    exact lv_i2l hx hb hdg (y_lookT_ok hT hv) (kk α tys ws H locs ls lv _ (List.prefix_refl _) ⟨hh, hl, y_ds_l rfl h2, hls, hP, hK, hD, hS⟩)
  · cases hs
  · cases hs

set_option maxHeartbeats 4000000 in
set_option maxRecDepth 100000 in
theorem y_st_land {nx r1 r2 r3 : Nat} (C : y_ctx κ sc p R s m args meth c cc own yn nL A) (hH : y_H κ hy) (hT : y_T κ tb) (hok : y_okop nL own yn cc (pc, (.land, nx, r1, r2, r3)) = true) (hs : y_step sc κ.2.2.2 hy tb pc (.land, nx, r1, r2, r3) lo st h k n = some S') (hk : S'.2.2.2.2.1 ≤ R.cells) (hn : S'.2.2.2.2.2 ≤ R.slots) (Z : y_Z κ D A s nL α tys ws H locs ls lv sv lo st h)
    (kk : ∀ α' tys' ws' H' locs' ls' lv' sv', α <+: α' → y_Z κ D A s nL α' tys' ws' H' locs' ls' lv' sv' S'.2.1 S'.2.2.1 S'.2.2.2.1 → W p l e R s m args below meth c H' locs' S'.2.2.2.2.1 S'.2.2.2.2.2 Q (F0 m S'.1 ls' sv')) : W p l e R s m args below meth c H locs k n Q (F0 m pc ls sv) := by
  obtain ⟨hx, hb, hml, hown, hts, hyn, hAO, hA, hRf, hRl, hsc⟩ := C
  obtain ⟨hh, hl, hst, hls, hP, hK, hD, hS⟩ := Z
  unfold y_okop y_okin at hok
  simp only [Bool.and_eq_true, decide_eq_true_eq] at hok
  obtain ⟨hdg, hok⟩ := hok
  unfold y_step at hs
  dsimp only at hs
  obtain rfl := hok
  rw [Nat.add_sub_cancel_left] at hdg
  obtain ⟨st', hb2, rfl⟩ := Option.map_eq_some_iff.mp hs
  rcases st with _ | ⟨b | b | b, _ | ⟨a | a | a, r⟩⟩ <;> try (cases hb2; done)
  · obtain ⟨v, hv, rfl⟩ := Option.map_eq_some_iff.mp hb2
    obtain ⟨ys, rfl, h1⟩ := y_ds_cl hst
    obtain ⟨zs, rfl, h2⟩ := y_ds_cl h1
    exact lv_land hx hb hdg (kk α tys ws H locs ls lv _ (List.prefix_refl _) ⟨hh, hl, y_ds_l (y_lookT_ok hT hv).symm h2, hls, hP, hK, hD, hS⟩)

set_option maxHeartbeats 4000000 in
set_option maxRecDepth 100000 in
theorem y_st_lor {nx r1 r2 r3 : Nat} (C : y_ctx κ sc p R s m args meth c cc own yn nL A) (hH : y_H κ hy) (hT : y_T κ tb) (hok : y_okop nL own yn cc (pc, (.lor, nx, r1, r2, r3)) = true) (hs : y_step sc κ.2.2.2 hy tb pc (.lor, nx, r1, r2, r3) lo st h k n = some S') (hk : S'.2.2.2.2.1 ≤ R.cells) (hn : S'.2.2.2.2.2 ≤ R.slots) (Z : y_Z κ D A s nL α tys ws H locs ls lv sv lo st h)
    (kk : ∀ α' tys' ws' H' locs' ls' lv' sv', α <+: α' → y_Z κ D A s nL α' tys' ws' H' locs' ls' lv' sv' S'.2.1 S'.2.2.1 S'.2.2.2.1 → W p l e R s m args below meth c H' locs' S'.2.2.2.2.1 S'.2.2.2.2.2 Q (F0 m S'.1 ls' sv')) : W p l e R s m args below meth c H locs k n Q (F0 m pc ls sv) := by
  obtain ⟨hx, hb, hml, hown, hts, hyn, hAO, hA, hRf, hRl, hsc⟩ := C
  obtain ⟨hh, hl, hst, hls, hP, hK, hD, hS⟩ := Z
  unfold y_okop y_okin at hok
  simp only [Bool.and_eq_true, decide_eq_true_eq] at hok
  obtain ⟨hdg, hok⟩ := hok
  unfold y_step at hs
  dsimp only at hs
  obtain rfl := hok
  rw [Nat.add_sub_cancel_left] at hdg
  obtain ⟨st', hb2, rfl⟩ := Option.map_eq_some_iff.mp hs
  rcases st with _ | ⟨b | b | b, _ | ⟨a | a | a, r⟩⟩ <;> try (cases hb2; done)
  · obtain ⟨v, hv, rfl⟩ := Option.map_eq_some_iff.mp hb2
    obtain ⟨ys, rfl, h1⟩ := y_ds_cl hst
    obtain ⟨zs, rfl, h2⟩ := y_ds_cl h1
    exact lv_lor hx hb hdg (kk α tys ws H locs ls lv _ (List.prefix_refl _) ⟨hh, hl, y_ds_l (y_lookT_ok hT hv).symm h2, hls, hP, hK, hD, hS⟩)

set_option maxHeartbeats 4000000 in
set_option maxRecDepth 100000 in
theorem y_st_lcmp {nx r1 r2 r3 : Nat} (C : y_ctx κ sc p R s m args meth c cc own yn nL A) (hH : y_H κ hy) (hT : y_T κ tb) (hok : y_okop nL own yn cc (pc, (.lcmp, nx, r1, r2, r3)) = true) (hs : y_step sc κ.2.2.2 hy tb pc (.lcmp, nx, r1, r2, r3) lo st h k n = some S') (hk : S'.2.2.2.2.1 ≤ R.cells) (hn : S'.2.2.2.2.2 ≤ R.slots) (Z : y_Z κ D A s nL α tys ws H locs ls lv sv lo st h)
    (kk : ∀ α' tys' ws' H' locs' ls' lv' sv', α <+: α' → y_Z κ D A s nL α' tys' ws' H' locs' ls' lv' sv' S'.2.1 S'.2.2.1 S'.2.2.2.1 → W p l e R s m args below meth c H' locs' S'.2.2.2.2.1 S'.2.2.2.2.2 Q (F0 m S'.1 ls' sv')) : W p l e R s m args below meth c H locs k n Q (F0 m pc ls sv) := by
  obtain ⟨hx, hb, hml, hown, hts, hyn, hAO, hA, hRf, hRl, hsc⟩ := C
  obtain ⟨hh, hl, hst, hls, hP, hK, hD, hS⟩ := Z
  unfold y_okop y_okin at hok
  simp only [Bool.and_eq_true, decide_eq_true_eq] at hok
  obtain ⟨hdg, hok⟩ := hok
  unfold y_step at hs
  dsimp only at hs
  obtain rfl := hok
  rw [Nat.add_sub_cancel_left] at hdg
  obtain ⟨st', hb2, rfl⟩ := Option.map_eq_some_iff.mp hs
  rcases st with _ | ⟨b | b | b, _ | ⟨a | a | a, r⟩⟩ <;> try (cases hb2; done)
  · obtain ⟨v, hv, rfl⟩ := Option.map_eq_some_iff.mp hb2
    obtain ⟨ys, rfl, h1⟩ := y_ds_cl hst
    obtain ⟨zs, rfl, h2⟩ := y_ds_cl h1
    exact W.lcmp hx hb hdg (kk α tys ws H locs ls lv _ (List.prefix_refl _) ⟨hh, hl, y_ds_i (y_lookT_ok hT hv).symm h2, hls, hP, hK, hD, hS⟩)

set_option maxHeartbeats 4000000 in
set_option maxRecDepth 100000 in
theorem y_st_lshl {nx r1 r2 r3 : Nat} (C : y_ctx κ sc p R s m args meth c cc own yn nL A) (hH : y_H κ hy) (hT : y_T κ tb) (hok : y_okop nL own yn cc (pc, (.lshl, nx, r1, r2, r3)) = true) (hs : y_step sc κ.2.2.2 hy tb pc (.lshl, nx, r1, r2, r3) lo st h k n = some S') (hk : S'.2.2.2.2.1 ≤ R.cells) (hn : S'.2.2.2.2.2 ≤ R.slots) (Z : y_Z κ D A s nL α tys ws H locs ls lv sv lo st h)
    (kk : ∀ α' tys' ws' H' locs' ls' lv' sv', α <+: α' → y_Z κ D A s nL α' tys' ws' H' locs' ls' lv' sv' S'.2.1 S'.2.2.1 S'.2.2.2.1 → W p l e R s m args below meth c H' locs' S'.2.2.2.2.1 S'.2.2.2.2.2 Q (F0 m S'.1 ls' sv')) : W p l e R s m args below meth c H locs k n Q (F0 m pc ls sv) := by
  obtain ⟨hx, hb, hml, hown, hts, hyn, hAO, hA, hRf, hRl, hsc⟩ := C
  obtain ⟨hh, hl, hst, hls, hP, hK, hD, hS⟩ := Z
  unfold y_okop y_okin at hok
  simp only [Bool.and_eq_true, decide_eq_true_eq] at hok
  obtain ⟨hdg, hok⟩ := hok
  unfold y_step at hs
  dsimp only at hs
  obtain rfl := hok
  rw [Nat.add_sub_cancel_left] at hdg
  obtain ⟨st', hb2, rfl⟩ := Option.map_eq_some_iff.mp hs
  rcases st with _ | ⟨b | b | b, _ | ⟨a | a | a, r⟩⟩ <;> try (cases hb2; done)
  · obtain ⟨v, hv, rfl⟩ := Option.map_eq_some_iff.mp hb2
    obtain ⟨ys, rfl, h1⟩ := y_ds_ci hst
    obtain ⟨zs, rfl, h2⟩ := y_ds_cl h1
    exact lv_lshl hx hb hdg (y_lookT_ok hT hv) (kk α tys ws H locs ls lv _ (List.prefix_refl _) ⟨hh, hl, y_ds_l rfl h2, hls, hP, hK, hD, hS⟩)

set_option maxHeartbeats 4000000 in
set_option maxRecDepth 100000 in
theorem y_st_lushr {nx r1 r2 r3 : Nat} (C : y_ctx κ sc p R s m args meth c cc own yn nL A) (hH : y_H κ hy) (hT : y_T κ tb) (hok : y_okop nL own yn cc (pc, (.lushr, nx, r1, r2, r3)) = true) (hs : y_step sc κ.2.2.2 hy tb pc (.lushr, nx, r1, r2, r3) lo st h k n = some S') (hk : S'.2.2.2.2.1 ≤ R.cells) (hn : S'.2.2.2.2.2 ≤ R.slots) (Z : y_Z κ D A s nL α tys ws H locs ls lv sv lo st h)
    (kk : ∀ α' tys' ws' H' locs' ls' lv' sv', α <+: α' → y_Z κ D A s nL α' tys' ws' H' locs' ls' lv' sv' S'.2.1 S'.2.2.1 S'.2.2.2.1 → W p l e R s m args below meth c H' locs' S'.2.2.2.2.1 S'.2.2.2.2.2 Q (F0 m S'.1 ls' sv')) : W p l e R s m args below meth c H locs k n Q (F0 m pc ls sv) := by
  obtain ⟨hx, hb, hml, hown, hts, hyn, hAO, hA, hRf, hRl, hsc⟩ := C
  obtain ⟨hh, hl, hst, hls, hP, hK, hD, hS⟩ := Z
  unfold y_okop y_okin at hok
  simp only [Bool.and_eq_true, decide_eq_true_eq] at hok
  obtain ⟨hdg, hok⟩ := hok
  unfold y_step at hs
  dsimp only at hs
  obtain rfl := hok
  rw [Nat.add_sub_cancel_left] at hdg
  obtain ⟨st', hb2, rfl⟩ := Option.map_eq_some_iff.mp hs
  rcases st with _ | ⟨b | b | b, _ | ⟨a | a | a, r⟩⟩ <;> try (cases hb2; done)
  · obtain ⟨v, hv, rfl⟩ := Option.map_eq_some_iff.mp hb2
    obtain ⟨ys, rfl, h1⟩ := y_ds_ci hst
    obtain ⟨zs, rfl, h2⟩ := y_ds_cl h1
    exact lv_lushr hx hb hdg (y_lookT_ok hT hv) (kk α tys ws H locs ls lv _ (List.prefix_refl _) ⟨hh, hl, y_ds_l rfl h2, hls, hP, hK, hD, hS⟩)

set_option maxHeartbeats 4000000 in
set_option maxRecDepth 100000 in
theorem y_st_dup {nx r1 r2 r3 : Nat} (C : y_ctx κ sc p R s m args meth c cc own yn nL A) (hH : y_H κ hy) (hT : y_T κ tb) (hok : y_okop nL own yn cc (pc, (.dup, nx, r1, r2, r3)) = true) (hs : y_step sc κ.2.2.2 hy tb pc (.dup, nx, r1, r2, r3) lo st h k n = some S') (hk : S'.2.2.2.2.1 ≤ R.cells) (hn : S'.2.2.2.2.2 ≤ R.slots) (Z : y_Z κ D A s nL α tys ws H locs ls lv sv lo st h)
    (kk : ∀ α' tys' ws' H' locs' ls' lv' sv', α <+: α' → y_Z κ D A s nL α' tys' ws' H' locs' ls' lv' sv' S'.2.1 S'.2.2.1 S'.2.2.2.1 → W p l e R s m args below meth c H' locs' S'.2.2.2.2.1 S'.2.2.2.2.2 Q (F0 m S'.1 ls' sv')) : W p l e R s m args below meth c H locs k n Q (F0 m pc ls sv) := by
  obtain ⟨hx, hb, hml, hown, hts, hyn, hAO, hA, hRf, hRl, hsc⟩ := C
  obtain ⟨hh, hl, hst, hls, hP, hK, hD, hS⟩ := Z
  unfold y_okop y_okin at hok
  simp only [Bool.and_eq_true, decide_eq_true_eq] at hok
  obtain ⟨hdg, hok⟩ := hok
  unfold y_step at hs
  dsimp only at hs
  obtain rfl := hok
  rw [Nat.add_sub_cancel_left] at hdg
  rcases st with _ | ⟨v, r⟩
  · cases hs
  · cases hc : Nat.beq (y_cat v) 1 with
    | true =>
      dsimp only at hs
      rw [hc] at hs; cases hs
      obtain ⟨x, ys, rfl, h1, h2⟩ := y_ds_cons hst
      exact lv_dup hx hb hdg ((y_cat_ok h1).trans (y_beq.mp hc)) (kk α tys ws H locs ls lv _ (List.prefix_refl _) ⟨hh, hl, y_ds_mk h1 (y_ds_mk h1 h2), hls, hP, hK, hD, hS⟩)
    | false => dsimp only at hs; rw [hc] at hs; cases hs

set_option maxHeartbeats 4000000 in
set_option maxRecDepth 100000 in
theorem y_st_pop {nx r1 r2 r3 : Nat} (C : y_ctx κ sc p R s m args meth c cc own yn nL A) (hH : y_H κ hy) (hT : y_T κ tb) (hok : y_okop nL own yn cc (pc, (.pop, nx, r1, r2, r3)) = true) (hs : y_step sc κ.2.2.2 hy tb pc (.pop, nx, r1, r2, r3) lo st h k n = some S') (hk : S'.2.2.2.2.1 ≤ R.cells) (hn : S'.2.2.2.2.2 ≤ R.slots) (Z : y_Z κ D A s nL α tys ws H locs ls lv sv lo st h)
    (kk : ∀ α' tys' ws' H' locs' ls' lv' sv', α <+: α' → y_Z κ D A s nL α' tys' ws' H' locs' ls' lv' sv' S'.2.1 S'.2.2.1 S'.2.2.2.1 → W p l e R s m args below meth c H' locs' S'.2.2.2.2.1 S'.2.2.2.2.2 Q (F0 m S'.1 ls' sv')) : W p l e R s m args below meth c H locs k n Q (F0 m pc ls sv) := by
  obtain ⟨hx, hb, hml, hown, hts, hyn, hAO, hA, hRf, hRl, hsc⟩ := C
  obtain ⟨hh, hl, hst, hls, hP, hK, hD, hS⟩ := Z
  unfold y_okop y_okin at hok
  simp only [Bool.and_eq_true, decide_eq_true_eq] at hok
  obtain ⟨hdg, hok⟩ := hok
  unfold y_step at hs
  dsimp only at hs
  obtain rfl := hok
  rw [Nat.add_sub_cancel_left] at hdg
  rcases st with _ | ⟨v, r⟩
  · cases hs
  · cases hc : Nat.beq (y_cat v) 1 with
    | true =>
      dsimp only at hs
      rw [hc] at hs; cases hs
      obtain ⟨x, ys, rfl, h1, h2⟩ := y_ds_cons hst
      exact lv_pop hx hb hdg ((y_cat_ok h1).trans (y_beq.mp hc)) (kk α tys ws H locs ls lv _ (List.prefix_refl _) ⟨hh, hl, h2, hls, hP, hK, hD, hS⟩)
    | false => dsimp only at hs; rw [hc] at hs; cases hs

set_option maxHeartbeats 4000000 in
set_option maxRecDepth 100000 in
theorem y_st_dup2 {nx r1 r2 r3 : Nat} (C : y_ctx κ sc p R s m args meth c cc own yn nL A) (hH : y_H κ hy) (hT : y_T κ tb) (hok : y_okop nL own yn cc (pc, (.dup2, nx, r1, r2, r3)) = true) (hs : y_step sc κ.2.2.2 hy tb pc (.dup2, nx, r1, r2, r3) lo st h k n = some S') (hk : S'.2.2.2.2.1 ≤ R.cells) (hn : S'.2.2.2.2.2 ≤ R.slots) (Z : y_Z κ D A s nL α tys ws H locs ls lv sv lo st h)
    (kk : ∀ α' tys' ws' H' locs' ls' lv' sv', α <+: α' → y_Z κ D A s nL α' tys' ws' H' locs' ls' lv' sv' S'.2.1 S'.2.2.1 S'.2.2.2.1 → W p l e R s m args below meth c H' locs' S'.2.2.2.2.1 S'.2.2.2.2.2 Q (F0 m S'.1 ls' sv')) : W p l e R s m args below meth c H locs k n Q (F0 m pc ls sv) := by
  obtain ⟨hx, hb, hml, hown, hts, hyn, hAO, hA, hRf, hRl, hsc⟩ := C
  obtain ⟨hh, hl, hst, hls, hP, hK, hD, hS⟩ := Z
  unfold y_okop y_okin at hok
  simp only [Bool.and_eq_true, decide_eq_true_eq] at hok
  obtain ⟨hdg, hok⟩ := hok
  unfold y_step at hs
  dsimp only at hs
  obtain rfl := hok
  rw [Nat.add_sub_cancel_left] at hdg
  rcases st with _ | ⟨v, _ | ⟨u, r⟩⟩
  · cases hs
  · cases hs
  · cases hc : (Nat.beq (y_cat v) 1 && Nat.beq (y_cat u) 1) with
    | true =>
      dsimp only at hs
      rw [hc] at hs; cases hs
      simp only [Bool.and_eq_true] at hc
      obtain ⟨x, ys, rfl, h1, h2⟩ := y_ds_cons hst
      obtain ⟨y, ys, rfl, h3, h4⟩ := y_ds_cons h2
      exact lv_dup2_11 hx hb hdg ((y_cat_ok h1).trans (y_beq.mp hc.1)) ((y_cat_ok h3).trans (y_beq.mp hc.2)) (kk α tys ws H locs ls lv _ (List.prefix_refl _) ⟨hh, hl, y_ds_mk h1 (y_ds_mk h3 (y_ds_mk h1 (y_ds_mk h3 h4))), hls, hP, hK, hD, hS⟩)
    | false => dsimp only at hs; rw [hc] at hs; cases hs

set_option maxHeartbeats 4000000 in
set_option maxRecDepth 100000 in
theorem y_st_goto {off : Int} {nx r1 r2 r3 : Nat} (C : y_ctx κ sc p R s m args meth c cc own yn nL A) (hH : y_H κ hy) (hT : y_T κ tb) (hok : y_okop nL own yn cc (pc, (.goto off, nx, r1, r2, r3)) = true) (hs : y_step sc κ.2.2.2 hy tb pc (.goto off, nx, r1, r2, r3) lo st h k n = some S') (hk : S'.2.2.2.2.1 ≤ R.cells) (hn : S'.2.2.2.2.2 ≤ R.slots) (Z : y_Z κ D A s nL α tys ws H locs ls lv sv lo st h)
    (kk : ∀ α' tys' ws' H' locs' ls' lv' sv', α <+: α' → y_Z κ D A s nL α' tys' ws' H' locs' ls' lv' sv' S'.2.1 S'.2.2.1 S'.2.2.2.1 → W p l e R s m args below meth c H' locs' S'.2.2.2.2.1 S'.2.2.2.2.2 Q (F0 m S'.1 ls' sv')) : W p l e R s m args below meth c H locs k n Q (F0 m pc ls sv) := by
  obtain ⟨hx, hb, hml, hown, hts, hyn, hAO, hA, hRf, hRl, hsc⟩ := C
  obtain ⟨hh, hl, hst, hls, hP, hK, hD, hS⟩ := Z
  unfold y_okop y_okin at hok
  simp only [Bool.and_eq_true, decide_eq_true_eq] at hok
  obtain ⟨hdg, hok⟩ := hok
  unfold y_step at hs
  dsimp only at hs
  obtain ⟨rfl, ht⟩ := hok
  rw [Nat.add_sub_cancel_left] at hdg
  cases hs
  exact lv_goto hx hb hdg ht (kk α tys ws H locs ls lv _ (List.prefix_refl _) ⟨hh, hl, hst, hls, hP, hK, hD, hS⟩)

set_option maxHeartbeats 4000000 in
set_option maxRecDepth 100000 in
theorem y_st_if {q : ClassFile.Cond} {off : Int} {nx r1 r2 r3 : Nat} (C : y_ctx κ sc p R s m args meth c cc own yn nL A) (hH : y_H κ hy) (hT : y_T κ tb) (hok : y_okop nL own yn cc (pc, (.ifCond q off, nx, r1, r2, r3)) = true) (hs : y_step sc κ.2.2.2 hy tb pc (.ifCond q off, nx, r1, r2, r3) lo st h k n = some S') (hk : S'.2.2.2.2.1 ≤ R.cells) (hn : S'.2.2.2.2.2 ≤ R.slots) (Z : y_Z κ D A s nL α tys ws H locs ls lv sv lo st h)
    (kk : ∀ α' tys' ws' H' locs' ls' lv' sv', α <+: α' → y_Z κ D A s nL α' tys' ws' H' locs' ls' lv' sv' S'.2.1 S'.2.2.1 S'.2.2.2.1 → W p l e R s m args below meth c H' locs' S'.2.2.2.2.1 S'.2.2.2.2.2 Q (F0 m S'.1 ls' sv')) : W p l e R s m args below meth c H locs k n Q (F0 m pc ls sv) := by
  obtain ⟨hx, hb, hml, hown, hts, hyn, hAO, hA, hRf, hRl, hsc⟩ := C
  obtain ⟨hh, hl, hst, hls, hP, hK, hD, hS⟩ := Z
  unfold y_okop y_okin at hok
  simp only [Bool.and_eq_true, decide_eq_true_eq] at hok
  obtain ⟨hdg, hok⟩ := hok
  unfold y_step at hs
  dsimp only at hs
  obtain ⟨rfl, ht⟩ := hok
  rw [Nat.add_sub_cancel_left] at hdg
  rcases st with _ | ⟨a | a, r⟩
  · cases hs
  · obtain ⟨t, ht2, rfl⟩ := Option.map_eq_some_iff.mp hs
    have hq := y_cond_ok hH ht2
    obtain ⟨ys, rfl, h2⟩ := y_ds_ci hst
    cases q with
    | eq =>
      refine lv_if_eq hx hb hdg ht (fun hc => ?_) (fun hc => ?_)
      · have e1 : t = true := hq.mp hc
        subst e1
        exact kk α tys ws H locs ls lv _ (List.prefix_refl _) ⟨hh, hl, h2, hls, hP, hK, hD, hS⟩
      · have e1 : t = false := by
          cases t with
          | false => rfl
          | true => exact absurd rfl (fun z => hc (hq.mpr z))
        subst e1
        exact kk α tys ws H locs ls lv _ (List.prefix_refl _) ⟨hh, hl, h2, hls, hP, hK, hD, hS⟩
    | ne =>
      refine lv_if_ne hx hb hdg ht (fun hc => ?_) (fun hc => ?_)
      · have e1 : t = true := hq.mp hc
        subst e1
        exact kk α tys ws H locs ls lv _ (List.prefix_refl _) ⟨hh, hl, h2, hls, hP, hK, hD, hS⟩
      · have e1 : t = false := by
          cases t with
          | false => rfl
          | true => exact absurd rfl (fun z => (hq.mpr z) hc)
        subst e1
        exact kk α tys ws H locs ls lv _ (List.prefix_refl _) ⟨hh, hl, h2, hls, hP, hK, hD, hS⟩
    | lt =>
      refine lv_if_lt hx hb hdg ht (fun hc => ?_) (fun hc => ?_)
      · have e1 : t = true := hq.mp hc
        subst e1
        exact kk α tys ws H locs ls lv _ (List.prefix_refl _) ⟨hh, hl, h2, hls, hP, hK, hD, hS⟩
      · have e1 : t = false := by
          cases t with
          | false => rfl
          | true => exact absurd rfl (fun z => hc (hq.mpr z))
        subst e1
        exact kk α tys ws H locs ls lv _ (List.prefix_refl _) ⟨hh, hl, h2, hls, hP, hK, hD, hS⟩
    | ge =>
      refine lv_if_ge hx hb hdg ht (fun hc => ?_) (fun hc => ?_)
      · have e1 : t = true := hq.mp hc
        subst e1
        exact kk α tys ws H locs ls lv _ (List.prefix_refl _) ⟨hh, hl, h2, hls, hP, hK, hD, hS⟩
      · have e1 : t = false := by
          cases t with
          | false => rfl
          | true => exact absurd rfl (fun z => hc (hq.mpr z))
        subst e1
        exact kk α tys ws H locs ls lv _ (List.prefix_refl _) ⟨hh, hl, h2, hls, hP, hK, hD, hS⟩
    | gt =>
      refine lv_if_gt hx hb hdg ht (fun hc => ?_) (fun hc => ?_)
      · have e1 : t = true := hq.mp hc
        subst e1
        exact kk α tys ws H locs ls lv _ (List.prefix_refl _) ⟨hh, hl, h2, hls, hP, hK, hD, hS⟩
      · have e1 : t = false := by
          cases t with
          | false => rfl
          | true => exact absurd rfl (fun z => hc (hq.mpr z))
        subst e1
        exact kk α tys ws H locs ls lv _ (List.prefix_refl _) ⟨hh, hl, h2, hls, hP, hK, hD, hS⟩
    | le =>
      refine lv_if_le hx hb hdg ht (fun hc => ?_) (fun hc => ?_)
      · have e1 : t = true := hq.mp hc
        subst e1
        exact kk α tys ws H locs ls lv _ (List.prefix_refl _) ⟨hh, hl, h2, hls, hP, hK, hD, hS⟩
      · have e1 : t = false := by
          cases t with
          | false => rfl
          | true => exact absurd rfl (fun z => hc (hq.mpr z))
        subst e1
        exact kk α tys ws H locs ls lv _ (List.prefix_refl _) ⟨hh, hl, h2, hls, hP, hK, hD, hS⟩
  · cases hs

set_option maxHeartbeats 4000000 in
set_option maxRecDepth 100000 in
theorem y_st_icmp {q : ClassFile.Cond} {off : Int} {nx r1 r2 r3 : Nat} (C : y_ctx κ sc p R s m args meth c cc own yn nL A) (hH : y_H κ hy) (hT : y_T κ tb) (hok : y_okop nL own yn cc (pc, (.if_icmp q off, nx, r1, r2, r3)) = true) (hs : y_step sc κ.2.2.2 hy tb pc (.if_icmp q off, nx, r1, r2, r3) lo st h k n = some S') (hk : S'.2.2.2.2.1 ≤ R.cells) (hn : S'.2.2.2.2.2 ≤ R.slots) (Z : y_Z κ D A s nL α tys ws H locs ls lv sv lo st h)
    (kk : ∀ α' tys' ws' H' locs' ls' lv' sv', α <+: α' → y_Z κ D A s nL α' tys' ws' H' locs' ls' lv' sv' S'.2.1 S'.2.2.1 S'.2.2.2.1 → W p l e R s m args below meth c H' locs' S'.2.2.2.2.1 S'.2.2.2.2.2 Q (F0 m S'.1 ls' sv')) : W p l e R s m args below meth c H locs k n Q (F0 m pc ls sv) := by
  obtain ⟨hx, hb, hml, hown, hts, hyn, hAO, hA, hRf, hRl, hsc⟩ := C
  obtain ⟨hh, hl, hst, hls, hP, hK, hD, hS⟩ := Z
  unfold y_okop y_okin at hok
  simp only [Bool.and_eq_true, decide_eq_true_eq] at hok
  obtain ⟨hdg, hok⟩ := hok
  unfold y_step at hs
  dsimp only at hs
  obtain ⟨rfl, ht⟩ := hok
  rw [Nat.add_sub_cancel_left] at hdg
  rcases st with _ | ⟨b | b, _ | ⟨a | a, r⟩⟩
  · cases hs
  · cases hs
  · obtain ⟨t, ht2, rfl⟩ := Option.map_eq_some_iff.mp hs
    have hq := y_cond_ok hH ht2
    obtain ⟨ys, rfl, h1⟩ := y_ds_ci hst
    obtain ⟨zs, rfl, h2⟩ := y_ds_ci h1
    cases q with
    | eq =>
      refine lv_icmp_eq hx hb hdg ht (fun hc => ?_) (fun hc => ?_)
      · have e1 : t = true := hq.mp hc
        subst e1
        exact kk α tys ws H locs ls lv _ (List.prefix_refl _) ⟨hh, hl, h2, hls, hP, hK, hD, hS⟩
      · have e1 : t = false := by
          cases t with
          | false => rfl
          | true => exact absurd rfl (fun z => hc (hq.mpr z))
        subst e1
        exact kk α tys ws H locs ls lv _ (List.prefix_refl _) ⟨hh, hl, h2, hls, hP, hK, hD, hS⟩
    | ne =>
      refine lv_icmp_ne hx hb hdg ht (fun hc => ?_) (fun hc => ?_)
      · have e1 : t = true := hq.mp hc
        subst e1
        exact kk α tys ws H locs ls lv _ (List.prefix_refl _) ⟨hh, hl, h2, hls, hP, hK, hD, hS⟩
      · have e1 : t = false := by
          cases t with
          | false => rfl
          | true => exact absurd rfl (fun z => (hq.mpr z) hc)
        subst e1
        exact kk α tys ws H locs ls lv _ (List.prefix_refl _) ⟨hh, hl, h2, hls, hP, hK, hD, hS⟩
    | lt =>
      refine lv_icmp_lt hx hb hdg ht (fun hc => ?_) (fun hc => ?_)
      · have e1 : t = true := hq.mp hc
        subst e1
        exact kk α tys ws H locs ls lv _ (List.prefix_refl _) ⟨hh, hl, h2, hls, hP, hK, hD, hS⟩
      · have e1 : t = false := by
          cases t with
          | false => rfl
          | true => exact absurd rfl (fun z => hc (hq.mpr z))
        subst e1
        exact kk α tys ws H locs ls lv _ (List.prefix_refl _) ⟨hh, hl, h2, hls, hP, hK, hD, hS⟩
    | ge =>
      refine lv_icmp_ge hx hb hdg ht (fun hc => ?_) (fun hc => ?_)
      · have e1 : t = true := hq.mp hc
        subst e1
        exact kk α tys ws H locs ls lv _ (List.prefix_refl _) ⟨hh, hl, h2, hls, hP, hK, hD, hS⟩
      · have e1 : t = false := by
          cases t with
          | false => rfl
          | true => exact absurd rfl (fun z => hc (hq.mpr z))
        subst e1
        exact kk α tys ws H locs ls lv _ (List.prefix_refl _) ⟨hh, hl, h2, hls, hP, hK, hD, hS⟩
    | gt =>
      refine lv_icmp_gt hx hb hdg ht (fun hc => ?_) (fun hc => ?_)
      · have e1 : t = true := hq.mp hc
        subst e1
        exact kk α tys ws H locs ls lv _ (List.prefix_refl _) ⟨hh, hl, h2, hls, hP, hK, hD, hS⟩
      · have e1 : t = false := by
          cases t with
          | false => rfl
          | true => exact absurd rfl (fun z => hc (hq.mpr z))
        subst e1
        exact kk α tys ws H locs ls lv _ (List.prefix_refl _) ⟨hh, hl, h2, hls, hP, hK, hD, hS⟩
    | le =>
      refine lv_icmp_le hx hb hdg ht (fun hc => ?_) (fun hc => ?_)
      · have e1 : t = true := hq.mp hc
        subst e1
        exact kk α tys ws H locs ls lv _ (List.prefix_refl _) ⟨hh, hl, h2, hls, hP, hK, hD, hS⟩
      · have e1 : t = false := by
          cases t with
          | false => rfl
          | true => exact absurd rfl (fun z => hc (hq.mpr z))
        subst e1
        exact kk α tys ws H locs ls lv _ (List.prefix_refl _) ⟨hh, hl, h2, hls, hP, hK, hD, hS⟩
  · cases hs
  · cases hs
  · cases hs
  · cases hs

theorem y_off_ok {pc t : Nat} {off : Int} (h : y_off pc off = some t) : (pc : Int) + off = (t : Int) := by
  unfold y_off at h
  split at h
  · cases h; omega
  · cases h

set_option maxHeartbeats 4000000 in
set_option maxRecDepth 100000 in
theorem y_st_tsw {d lo1 hi : Int} {offs : Array Int} {nx r1 r2 r3 : Nat} (C : y_ctx κ sc p R s m args meth c cc own yn nL A) (hH : y_H κ hy) (hT : y_T κ tb) (hok : y_okop nL own yn cc (pc, (.tableswitch d lo1 hi offs, nx, r1, r2, r3)) = true) (hs : y_step sc κ.2.2.2 hy tb pc (.tableswitch d lo1 hi offs, nx, r1, r2, r3) lo st h k n = some S') (hk : S'.2.2.2.2.1 ≤ R.cells) (hn : S'.2.2.2.2.2 ≤ R.slots) (Z : y_Z κ D A s nL α tys ws H locs ls lv sv lo st h)
    (kk : ∀ α' tys' ws' H' locs' ls' lv' sv', α <+: α' → y_Z κ D A s nL α' tys' ws' H' locs' ls' lv' sv' S'.2.1 S'.2.2.1 S'.2.2.2.1 → W p l e R s m args below meth c H' locs' S'.2.2.2.2.1 S'.2.2.2.2.2 Q (F0 m S'.1 ls' sv')) : W p l e R s m args below meth c H locs k n Q (F0 m pc ls sv) := by
  obtain ⟨hx, hb, hml, hown, hts, hyn, hAO, hA, hRf, hRl, hsc⟩ := C
  obtain ⟨hh, hl, hst, hls, hP, hK, hD, hS⟩ := Z
  unfold y_okop y_okin at hok
  simp only [Bool.and_eq_true, decide_eq_true_eq] at hok
  obtain ⟨hdg, hok⟩ := hok
  unfold y_step at hs
  dsimp only at hs
  rcases st with _ | ⟨(a | a) | a, r⟩
  · cases hs
  · obtain ⟨t, ht2, rfl⟩ := Option.map_eq_some_iff.mp hs
    obtain ⟨ys, rfl, h2⟩ := y_ds_ci hst
    unfold y_swT at ht2
    dsimp only at ht2
    split at ht2
    · next hc =>
      exact lv_tableOut hx hb hdg (by rw [← y_int] at hc; exact hc) (y_off_ok ht2) (kk α tys ws H locs ls lv _ (List.prefix_refl _) ⟨hh, hl, h2, hls, hP, hK, hD, hS⟩)
    · next hc =>
      split at ht2
      · next o ho =>
        rw [← y_int] at hc ho
        exact lv_tableIn hx hb hdg (fun z => hc (Or.inl z)) (fun z => hc (Or.inr z)) ho (y_off_ok ht2) (kk α tys ws H locs ls lv _ (List.prefix_refl _) ⟨hh, hl, h2, hls, hP, hK, hD, hS⟩)
      · cases ht2
  · obtain ⟨t, ht2, rfl⟩ := Option.map_eq_some_iff.mp hs
    obtain ⟨ys, rfl, h2⟩ := y_ds_ci hst
    unfold y_swT at ht2
    dsimp only at ht2
    split at ht2
    · next hc =>
      refine lv_tableOut hx hb hdg ?_ (y_off_ok ht2) (kk α tys ws H locs ls lv _ (List.prefix_refl _) ⟨hh, hl, h2, hls, hP, hK, hD, hS⟩)
      rcases hc with ⟨h5, h6, h7⟩ | ⟨h5, h6, h7⟩
      · left
        have h8 : y_i κ (.inr a) < nI (lo1 % 4294967296).toNat := (y_look_ok hH h5).mpr rfl
        rw [Int32.lt_iff_toInt_lt, y_int] at h8
        unfold y_sg at h8
        omega
      · right
        have h8 : nI (hi % 4294967296).toNat < y_i κ (.inr a) := (y_look_ok hH h5).mpr rfl
        rw [Int32.lt_iff_toInt_lt, y_int] at h8
        unfold y_sg at h8
        omega
    · cases ht2
  · cases hs

set_option maxHeartbeats 4000000 in
set_option maxRecDepth 100000 in
theorem y_st_lsw {d : Int} {ps : Array (Int × Int)} {nx r1 r2 r3 : Nat} (C : y_ctx κ sc p R s m args meth c cc own yn nL A) (hH : y_H κ hy) (hT : y_T κ tb) (hok : y_okop nL own yn cc (pc, (.lookupswitch d ps, nx, r1, r2, r3)) = true) (hs : y_step sc κ.2.2.2 hy tb pc (.lookupswitch d ps, nx, r1, r2, r3) lo st h k n = some S') (hk : S'.2.2.2.2.1 ≤ R.cells) (hn : S'.2.2.2.2.2 ≤ R.slots) (Z : y_Z κ D A s nL α tys ws H locs ls lv sv lo st h)
    (kk : ∀ α' tys' ws' H' locs' ls' lv' sv', α <+: α' → y_Z κ D A s nL α' tys' ws' H' locs' ls' lv' sv' S'.2.1 S'.2.2.1 S'.2.2.2.1 → W p l e R s m args below meth c H' locs' S'.2.2.2.2.1 S'.2.2.2.2.2 Q (F0 m S'.1 ls' sv')) : W p l e R s m args below meth c H locs k n Q (F0 m pc ls sv) := by
  obtain ⟨hx, hb, hml, hown, hts, hyn, hAO, hA, hRf, hRl, hsc⟩ := C
  obtain ⟨hh, hl, hst, hls, hP, hK, hD, hS⟩ := Z
  unfold y_okop y_okin at hok
  simp only [Bool.and_eq_true, decide_eq_true_eq] at hok
  obtain ⟨hdg, hok⟩ := hok
  unfold y_step at hs
  dsimp only at hs
  rcases st with _ | ⟨(a | a) | a, r⟩
  · cases hs
  · obtain ⟨t, ht2, rfl⟩ := Option.map_eq_some_iff.mp hs
    obtain ⟨ys, rfl, h2⟩ := y_ds_ci hst
    rw [← y_int] at ht2
    exact lv_lookup hx hb hdg hok rfl (y_off_ok ht2) (kk α tys ws H locs ls lv _ (List.prefix_refl _) ⟨hh, hl, h2, hls, hP, hK, hD, hS⟩)
  · cases hs
  · cases hs

end YSTEP
end
section

theorem y_in {a n : Nat} (h1 : a < n) (h2 : a < 2147483648) : vp_in (nI a) n := by
  intro h
  rcases h with h | h
  · exact nI_pos h2 h
  · rw [nI_clamp h2] at h
    omega
theorem y_pv_ok {κ : yK} {α : List Nat} {r3 : Nat} {v : yV} {x : Value} {ty : FieldType} (h1 : y_pv r3 v = true) (h2 : y_pk r3 (some ty) = true) (h3 : y_d κ α v = some x) : narrow ty x = x ∧ fits ty x = true := by
  cases ty with
  | int =>
    have e := y_beq.mp h2
    subst e
    rcases v with a | a | a
    · cases h3; exact ⟨rfl, rfl⟩
    · cases h1
    · cases h1
  | boolean =>
    have e := y_beq.mp h2
    subst e
    rcases v with (a | a) | a | a
    · have e2 := y_ble.mp h1
      cases h3
      have e3 : a = 0 ∨ a = 1 := by omega
      rcases e3 with rfl | rfl
      · exact ⟨(by decide : narrow .boolean (.int (nI 0)) = .int (nI 0)), (by decide : fits .boolean (.int (nI 0)) = true)⟩
      · exact ⟨(by decide : narrow .boolean (.int (nI 1)) = .int (nI 1)), (by decide : fits .boolean (.int (nI 1)) = true)⟩
    · cases h1
    · cases h1
    · cases h1
  | object C =>
    have e := y_beq.mp h2
    subst e
    rcases v with a | a | _ | a
    · cases h1
    · cases h1
    · cases h3; exact ⟨rfl, rfl⟩
    · obtain ⟨b, -, rfl⟩ := Option.map_eq_some_iff.mp h3
      exact ⟨rfl, rfl⟩
  | array C =>
    have e := y_beq.mp h2
    subst e
    rcases v with a | a | _ | a
    · cases h1
    · cases h1
    · cases h3; exact ⟨rfl, rfl⟩
    · obtain ⟨b, -, rfl⟩ := Option.map_eq_some_iff.mp h3
      exact ⟨rfl, rfl⟩
  | byte => cases h2
  | char => cases h2
  | double => cases h2
  | float => cases h2
  | long => cases h2
  | short => cases h2
theorem y_get_upd {κ : yK} {n a : Nat} {f : Nat → Int32} {m : List (Nat × yI)} {v : yI} {x : Int32} (hx : y_i κ v = x) (h : ∀ i, i < n → f i = y_i κ (y_get m i)) : ∀ i, i < n → upd f a x i = y_i κ (y_get ((a, v) :: m) i) := by
  intro i hi
  show _ = y_i κ (bif Nat.beq a i then v else y_get m i)
  cases hc : Nat.beq a i with
  | true =>
    have e := y_beq.mp hc
    subst e
    rw [pk_us, ← hx]
    rfl
  | false =>
    have e : i ≠ a := fun z => by rw [z, Nat.beq_refl] at hc; cases hc
    rw [pk_un e]
    exact h i hi
theorem y_get_map (i dp : Nat) (g : Nat → yI) (m : List (Nat × yI)) : ∀ L : List Nat, (∀ x, x ∈ L → dp + x ≠ i) → y_get (L.map (fun x => (dp + x, g x)) ++ m) i = y_get m i := by
  intro L
  induction L with
  | nil => intro _; rfl
  | cons x L ih =>
    intro h
    show (bif Nat.beq (dp + x) i then g x else y_get (L.map (fun x => (dp + x, g x)) ++ m) i) = _
    have e : Nat.beq (dp + x) i = false := by
      cases hc : Nat.beq (dp + x) i with
      | false => rfl
      | true => exact absurd (y_beq.mp hc) (h x List.mem_cons_self)
    rw [e]
    exact ih (fun x hx => h x (List.mem_cons_of_mem _ hx))
theorem y_get_in (i dp : Nat) (g : Nat → yI) (m : List (Nat × yI)) : ∀ L : List Nat, (∃ x, x ∈ L ∧ dp + x = i) → y_get (L.map (fun x => (dp + x, g x)) ++ m) i = g (i - dp) := by
  intro L
  induction L with
  | nil => rintro ⟨x, hx, -⟩; cases hx
  | cons x L ih =>
    intro h
    show (bif Nat.beq (dp + x) i then g x else y_get (L.map (fun x => (dp + x, g x)) ++ m) i) = _
    cases hc : Nat.beq (dp + x) i with
    | true =>
      have e := y_beq.mp hc
      subst e
      show g x = g (dp + x - dp)
      rw [Nat.add_sub_cancel_left]
    | false =>
      obtain ⟨y, hy, hyi⟩ := h
      rcases List.mem_cons.mp hy with rfl | hy
      · rw [hyi, Nat.beq_refl] at hc; cases hc
      · exact ih ⟨y, hy, hyi⟩
theorem y_get_cpy {κ : yK} {n0 n1 sp dp k : Nat} {f g : Nat → Int32} {m0 m1 : List (Nat × yI)} (h0 : ∀ i, i < n0 → f i = y_i κ (y_get m0 i)) (h1 : ∀ i, i < n1 → g i = y_i κ (y_get m1 i)) (hs : sp + k ≤ n0) :
    ∀ i, i < n1 → va_cpy f g sp dp k i = y_i κ (y_get ((List.range k).map (fun x => (dp + x, y_get m0 (sp + x))) ++ m1) i) := by
  intro i hi
  by_cases hc : dp ≤ i ∧ i < dp + k
  · rw [y_get_in i dp (fun x => y_get m0 (sp + x)) m1 _ ⟨i - dp, List.mem_range.mpr (by omega), by omega⟩, pk_cpy_in hc.1 hc.2]
    exact h0 _ (by omega)
  · rw [y_get_map i dp (fun x => y_get m0 (sp + x)) m1 _ (fun x hx => by have := List.mem_range.mp hx; omega), pk_cpy_out (by omega)]
    exact h1 i hi
theorem y_nar (x : Int32) : vp_nar .char x = (x.toUInt32 % 65536).toInt32 := by
  rw [vp_nar_char]
  congr 1
theorem y_nbool {b : Nat} (h : b ≤ 1) : vp_nar .boolean (nI b) = nI b := by
  have e3 : b = 0 ∨ b = 1 := by omega
  rcases e3 with rfl | rfl
  · decide
  · decide
theorem y_cl {κ : yK} {n : Nat} (h : n < 2147483648) : (y_i κ (.inl n)).toNatClampNeg = n := nI_clamp h
theorem y_sub1_ok {κ : yK} {tb : yT} (hT : y_T κ tb) (j : Nat) : y_i κ (y_sub1 tb j) = κ.1 j := by
  unfold y_sub1
  cases hc : y_lookT tb 20 (.inr j) (.inr j) with
  | none => rfl
  | some r => exact (y_lookT_ok hT hc).symm
theorem y_new_ref {κ : yK} {α : List Nat} {h : List yC} (q : Nat) (e : α.length = h.length) : y_d κ (α ++ [q]) (.inr (.inr (some (h.length + 1)))) = some (.ref q) := by
  show ((α ++ [q])[h.length]?).map Value.ref = _
  rw [← e]
  simp
section YHEAP
variable {p : Program} {l : Launch} {e : Env} {R : Room} {s : State} {m : MethodId} {args : Array Value} {below : List Frame} {meth : Method} {c : Code} {H : Heap} {locs : List Loc} {Q : State → Prop} {ls : Array Slot}
variable {κ : yK} {D : va_G} {A : Nat → Prop} {α : List Nat} {tys : List (ClassId × FieldType)} {ws : va_W} {lv : List (Nat × Value)} {sv : List Value} {lo : yL} {st : List yV} {h : List yC} {cc : ByteArray} {own yn : String} {nL : Nat} {hy : yF} {tb : yT} {sc : Bool} {pc k n : Nat} {S' : yS}

set_option maxHeartbeats 4000000 in
set_option maxRecDepth 100000 in
theorem y_st_getf {i : Nat} {nx r1 r2 r3 : Nat} (C : y_ctx κ sc p R s m args meth c cc own yn nL A) (hH : y_H κ hy) (hT : y_T κ tb) (hok : y_okop nL own yn cc (pc, (.getfield i, nx, r1, r2, r3)) = true) (hs : y_step sc κ.2.2.2 hy tb pc (.getfield i, nx, r1, r2, r3) lo st h k n = some S') (hk : S'.2.2.2.2.1 ≤ R.cells) (hn : S'.2.2.2.2.2 ≤ R.slots) (Z : y_Z κ D A s nL α tys ws H locs ls lv sv lo st h)
    (kk : ∀ α' tys' ws' H' locs' ls' lv' sv', α <+: α' → y_Z κ D A s nL α' tys' ws' H' locs' ls' lv' sv' S'.2.1 S'.2.2.1 S'.2.2.2.1 → W p l e R s m args below meth c H' locs' S'.2.2.2.2.1 S'.2.2.2.2.2 Q (F0 m S'.1 ls' sv')) : W p l e R s m args below meth c H locs k n Q (F0 m pc ls sv) := by
  obtain ⟨hx, hb, hml, hown, hts, hyn, hAO, hA, hRf, hRl, hsc⟩ := C
  obtain ⟨hh, hl, hst, hls, hP, hK, hD, hS⟩ := Z
  unfold y_okop y_okin at hok
  simp only [Bool.and_eq_true, decide_eq_true_eq] at hok
  obtain ⟨hdg, hok⟩ := hok
  unfold y_step at hs
  dsimp only at hs
  obtain ⟨rfl, hfl⟩ := hok
  rw [Nat.add_sub_cancel_left] at hdg
  rcases st with _ | ⟨a | a | _ | _ | j, r⟩ <;> try (cases hs; done)
  · cases hg : h[j]? with
    | none => dsimp only at hs; rw [hg] at hs; cases hs
    | some c0 =>
      try dsimp only at hs
      rw [hg] at hs
      rcases c0 with ⟨ci, fs⟩ | c0
      · try dsimp only at hs
        cases hc : Nat.beq ci r1 with
        | false => rw [hc] at hs; cases hs
        | true =>
          rw [hc] at hs
          cases hf : fs[r2]? with
          | none => rw [hf] at hs; cases hs
          | some v =>
            rw [hf] at hs
            cases hs
            have e1 := y_beq.mp hc
            subst e1
            obtain ⟨b, ys, rfl, hb1, h2⟩ := y_ds_cr hst
            obtain ⟨b', e', g1, g2, vs, g3, rfl⟩ := hh.2.2 j _ hg
            have e2 : b' = b := Option.some.inj (g1.symm.trans hb1)
            subst e2
            obtain ⟨x, hx1, hx2⟩ := y_ds_get g3 hf
            unfold y_fl at hfl
            cases hr : vwCl[ci]? with
            | none => rw [hr] at hfl; cases hfl
            | some rr =>
              rw [hr] at hfl
              simp only [Bool.and_eq_true, decide_eq_true_eq] at hfl
              obtain ⟨C1, T1, N1⟩ := rr
              exact va_get hx hb hts (y_cls_ok hr).1 hown hK hP j g2 hr r2 hfl.1 (hts _ (yM_ok hfl.2)) (fun _ z => z) hx1 hdg (kk α tys ws H locs ls lv _ (List.prefix_refl _) ⟨hh, hl, y_ds_mk hx2 h2, hls, hP, hK, hD, hS⟩)
      · cases hs

set_option maxHeartbeats 4000000 in
set_option maxRecDepth 100000 in
theorem y_st_putf {i : Nat} {nx r1 r2 r3 : Nat} (C : y_ctx κ sc p R s m args meth c cc own yn nL A) (hH : y_H κ hy) (hT : y_T κ tb) (hok : y_okop nL own yn cc (pc, (.putfield i, nx, r1, r2, r3)) = true) (hs : y_step sc κ.2.2.2 hy tb pc (.putfield i, nx, r1, r2, r3) lo st h k n = some S') (hk : S'.2.2.2.2.1 ≤ R.cells) (hn : S'.2.2.2.2.2 ≤ R.slots) (Z : y_Z κ D A s nL α tys ws H locs ls lv sv lo st h)
    (kk : ∀ α' tys' ws' H' locs' ls' lv' sv', α <+: α' → y_Z κ D A s nL α' tys' ws' H' locs' ls' lv' sv' S'.2.1 S'.2.2.1 S'.2.2.2.1 → W p l e R s m args below meth c H' locs' S'.2.2.2.2.1 S'.2.2.2.2.2 Q (F0 m S'.1 ls' sv')) : W p l e R s m args below meth c H locs k n Q (F0 m pc ls sv) := by
  obtain ⟨hx, hb, hml, hown, hts, hyn, hAO, hA, hRf, hRl, hsc⟩ := C
  obtain ⟨hh, hl, hst, hls, hP, hK, hD, hS⟩ := Z
  unfold y_okop y_okin at hok
  simp only [Bool.and_eq_true, decide_eq_true_eq] at hok
  obtain ⟨hdg, hok⟩ := hok
  unfold y_step at hs
  dsimp only at hs
  obtain ⟨rfl, hfl, hpf⟩ := hok
  rw [Nat.add_sub_cancel_left] at hdg
  rcases st with _ | ⟨v, _ | ⟨a | a | _ | _ | j, r⟩⟩ <;> try (cases hs; done)
  · cases hg : h[j]? with
    | none => dsimp only at hs; rw [hg] at hs; cases hs
    | some c0 =>
      try dsimp only at hs
      rw [hg] at hs
      rcases c0 with ⟨ci, fs⟩ | c0
      · try dsimp only at hs
        cases hc : (Nat.beq ci r1 && (Nat.blt r2 fs.length && y_pv r3 v)) with
        | false => rw [hc] at hs; cases hs
        | true =>
          rw [hc] at hs
          cases hs
          simp only [Bool.and_eq_true] at hc
          obtain ⟨hc1, hc2, hc3⟩ := hc
          have e1 := y_beq.mp hc1
          subst e1
          obtain ⟨x, ys0, rfl, hx2, h1⟩ := y_ds_cons hst
          obtain ⟨b, ys, rfl, hb1, h2⟩ := y_ds_cr h1
          obtain ⟨b', e', g1, g2, vs, g3, rfl⟩ := hh.2.2 j _ hg
          have e2 : b' = b := Option.some.inj (g1.symm.trans hb1)
          subst e2
          unfold y_fl at hfl
          unfold y_pf at hpf
          cases hr : vwCl[ci]? with
          | none => rw [hr] at hfl; cases hfl
          | some rr =>
            rw [hr] at hfl hpf
            simp only [Bool.and_eq_true, decide_eq_true_eq, Bool.or_eq_true, Bool.not_eq_true'] at hfl hpf
            obtain ⟨C1, T1, N1⟩ := rr
            obtain ⟨k1, k2, k3⟩ := y_cls_ok hr
            have hty := k2 r2 hfl.1
            have hpk := hpf.1
            rw [hty] at hpk
            obtain ⟨n1, n2⟩ := y_pv_ok hc3 hpk hx2
            have hlen : r2 < vs.length := by rw [← y_ds_len g3]; exact y_blt.mp hc2
            have hc0 : y_c κ α tys (.inl (ci, fs.set r2 v)) (.inr (ci, vs.set r2 x)) := ⟨vs.set r2 x, y_ds_set r2 g3 hx2, rfl⟩
            have hnew := y_h_set hh hg g1 hc0
            cases hfin : (T1 r2).2.2.2 with
            | false =>
              exact va_put hx hb hts k1 _ k2 k3 hown hK hP hD hS j g2 hr r2 hfl.1 (hts _ (yM_ok hfl.2)) (fun _ z => z) hfin hty n1 n2 hlen hdg (fun H1 locs1 hP1 hD1 hS1 => kk α tys _ H1 locs1 ls lv _ (List.prefix_refl _) ⟨hnew, hl, h2, hls, hP1, hK, hD1, hS1⟩)
            | true =>
              rcases hpf.2 with hf | hf
              · rw [hfin] at hf; cases hf
              · exact va_putF hx hb hts k1 _ k2 k3 hown hK hP hD hS j g2 hr r2 hfl.1 (hts _ (yM_ok hfl.2)) (fun _ z => z) hfin (hyn hf.1) hf.2 hty n1 n2 hlen hdg (fun H1 locs1 hP1 hD1 hS1 => kk α tys _ H1 locs1 ls lv _ (List.prefix_refl _) ⟨hnew, hl, h2, hls, hP1, hK, hD1, hS1⟩)
      · cases hs

set_option maxHeartbeats 4000000 in
set_option maxRecDepth 100000 in
theorem y_st_iald {nx r1 r2 r3 : Nat} (C : y_ctx κ sc p R s m args meth c cc own yn nL A) (hH : y_H κ hy) (hT : y_T κ tb) (hok : y_okop nL own yn cc (pc, (.iaload, nx, r1, r2, r3)) = true) (hs : y_step sc κ.2.2.2 hy tb pc (.iaload, nx, r1, r2, r3) lo st h k n = some S') (hk : S'.2.2.2.2.1 ≤ R.cells) (hn : S'.2.2.2.2.2 ≤ R.slots) (Z : y_Z κ D A s nL α tys ws H locs ls lv sv lo st h)
    (kk : ∀ α' tys' ws' H' locs' ls' lv' sv', α <+: α' → y_Z κ D A s nL α' tys' ws' H' locs' ls' lv' sv' S'.2.1 S'.2.2.1 S'.2.2.2.1 → W p l e R s m args below meth c H' locs' S'.2.2.2.2.1 S'.2.2.2.2.2 Q (F0 m S'.1 ls' sv')) : W p l e R s m args below meth c H locs k n Q (F0 m pc ls sv) := by
  obtain ⟨hx, hb, hml, hown, hts, hyn, hAO, hA, hRf, hRl, hsc⟩ := C
  obtain ⟨hh, hl, hst, hls, hP, hK, hD, hS⟩ := Z
  unfold y_okop y_okin at hok
  simp only [Bool.and_eq_true, decide_eq_true_eq] at hok
  obtain ⟨hdg, hok⟩ := hok
  unfold y_step at hs
  dsimp only at hs
  obtain rfl := hok
  rw [Nat.add_sub_cancel_left] at hdg
  rcases st with _ | ⟨(x0 | x0) | x0, _ | ⟨a | a | _ | _ | j, r⟩⟩ <;> try (cases hs; done)
  · try dsimp only at hs
    cases hc : (sc && (Nat.blt x0 κ.2.2.2 && Nat.blt x0 2147483648)) with
    | false => rw [hc] at hs; cases hs
    | true =>
      rw [hc] at hs
      cases hs
      simp only [Bool.and_eq_true] at hc
      obtain ⟨hc1, hc2, hc3⟩ := hc
      obtain ⟨hX, hbl, hbA⟩ := hsc hc1
      obtain ⟨ys, rfl, h1⟩ := y_ds_ci hst
      obtain ⟨b, zs, rfl, hb1, h2⟩ := y_ds_cr h1
      cases hb1
      have h3 := y_blt.mp hc3
      exact va_sld hx hb hX hbl hbA hS (y_in (y_blt.mp hc2) h3) hdg (kk α tys ws H locs ls lv _ (List.prefix_refl _) ⟨hh, hl, y_ds_i (by rw [show y_i κ (.inl x0) = nI x0 from rfl, nI_clamp h3]; exact y_sub1_ok hT x0) h2, hls, hP, hK, hD, hS⟩)
  · cases hg : h[j]? with
    | none => dsimp only at hs; rw [hg] at hs; cases hs
    | some c0 =>
      try dsimp only at hs
      rw [hg] at hs
      rcases c0 with ⟨ci, fs⟩ | ⟨_ | kd, len, m0⟩ | c0 <;> try (cases hs; done)
      · replace hs : (bif Nat.blt x0 len && Nat.blt x0 2147483648 then some (pc + 1, lo, .inl (y_get m0 x0) :: r, h, k, n) else none) = some S' := hs
        cases hc : (Nat.blt x0 len && Nat.blt x0 2147483648) with
        | false => rw [hc] at hs; cases hs
        | true =>
          rw [hc] at hs
          cases hs
          simp only [Bool.and_eq_true] at hc
          have h3 := y_blt.mp hc.1
          have h4 := y_blt.mp hc.2
          obtain ⟨ys, rfl, h1⟩ := y_ds_ci hst
          obtain ⟨b, zs, rfl, hb1, h2⟩ := y_ds_cr h1
          obtain ⟨b', e', g1, g2, cA, t0, f, g3, g4, rfl⟩ := hh.2.2 j _ hg
          have e2 : b' = b := Option.some.inj (g1.symm.trans hb1)
          subst e2
          exact va_iald hx hb hK hP j t0 g2 g3 (y_in h3 h4) hdg (kk α tys ws H locs ls lv _ (List.prefix_refl _) ⟨hh, hl, y_ds_i (by rw [show y_i κ (.inl x0) = nI x0 from rfl, nI_clamp h4]; exact (g4 x0 h3).symm) h2, hls, hP, hK, hD, hS⟩)

set_option maxHeartbeats 4000000 in
set_option maxRecDepth 100000 in
theorem y_st_bald {nx r1 r2 r3 : Nat} (C : y_ctx κ sc p R s m args meth c cc own yn nL A) (hH : y_H κ hy) (hT : y_T κ tb) (hok : y_okop nL own yn cc (pc, (.baload, nx, r1, r2, r3)) = true) (hs : y_step sc κ.2.2.2 hy tb pc (.baload, nx, r1, r2, r3) lo st h k n = some S') (hk : S'.2.2.2.2.1 ≤ R.cells) (hn : S'.2.2.2.2.2 ≤ R.slots) (Z : y_Z κ D A s nL α tys ws H locs ls lv sv lo st h)
    (kk : ∀ α' tys' ws' H' locs' ls' lv' sv', α <+: α' → y_Z κ D A s nL α' tys' ws' H' locs' ls' lv' sv' S'.2.1 S'.2.2.1 S'.2.2.2.1 → W p l e R s m args below meth c H' locs' S'.2.2.2.2.1 S'.2.2.2.2.2 Q (F0 m S'.1 ls' sv')) : W p l e R s m args below meth c H locs k n Q (F0 m pc ls sv) := by
  obtain ⟨hx, hb, hml, hown, hts, hyn, hAO, hA, hRf, hRl, hsc⟩ := C
  obtain ⟨hh, hl, hst, hls, hP, hK, hD, hS⟩ := Z
  unfold y_okop y_okin at hok
  simp only [Bool.and_eq_true, decide_eq_true_eq] at hok
  obtain ⟨hdg, hok⟩ := hok
  unfold y_step at hs
  dsimp only at hs
  obtain rfl := hok
  rw [Nat.add_sub_cancel_left] at hdg
  rcases st with _ | ⟨(x0 | x0) | x0, _ | ⟨a | a | _ | _ | j, r⟩⟩ <;> try (cases hs; done)
  · cases hg : h[j]? with
    | none => dsimp only at hs; rw [hg] at hs; cases hs
    | some c0 =>
      try dsimp only at hs
      rw [hg] at hs
      rcases c0 with ⟨ci, fs⟩ | ⟨_ | _ | kd, len, m0⟩ | c0 <;> try (cases hs; done)
      · replace hs : (bif Nat.blt x0 len && Nat.blt x0 2147483648 then some (pc + 1, lo, .inl (y_get m0 x0) :: r, h, k, n) else none) = some S' := hs
        cases hc : (Nat.blt x0 len && Nat.blt x0 2147483648) with
        | false => rw [hc] at hs; cases hs
        | true =>
          rw [hc] at hs
          cases hs
          simp only [Bool.and_eq_true] at hc
          have h3 := y_blt.mp hc.1
          have h4 := y_blt.mp hc.2
          obtain ⟨ys, rfl, h1⟩ := y_ds_ci hst
          obtain ⟨b, zs, rfl, hb1, h2⟩ := y_ds_cr h1
          obtain ⟨b', e', g1, g2, cA, t0, f, g3, g4, rfl⟩ := hh.2.2 j _ hg
          have e2 : b' = b := Option.some.inj (g1.symm.trans hb1)
          subst e2
          exact va_zald hx hb hK hP j t0 g2 g3 (y_in h3 h4) hdg (kk α tys ws H locs ls lv _ (List.prefix_refl _) ⟨hh, hl, y_ds_i (by rw [show y_i κ (.inl x0) = nI x0 from rfl, nI_clamp h4]; exact (g4 x0 h3).symm) h2, hls, hP, hK, hD, hS⟩)

set_option maxHeartbeats 4000000 in
set_option maxRecDepth 100000 in
theorem y_st_aald {nx r1 r2 r3 : Nat} (C : y_ctx κ sc p R s m args meth c cc own yn nL A) (hH : y_H κ hy) (hT : y_T κ tb) (hok : y_okop nL own yn cc (pc, (.aaload, nx, r1, r2, r3)) = true) (hs : y_step sc κ.2.2.2 hy tb pc (.aaload, nx, r1, r2, r3) lo st h k n = some S') (hk : S'.2.2.2.2.1 ≤ R.cells) (hn : S'.2.2.2.2.2 ≤ R.slots) (Z : y_Z κ D A s nL α tys ws H locs ls lv sv lo st h)
    (kk : ∀ α' tys' ws' H' locs' ls' lv' sv', α <+: α' → y_Z κ D A s nL α' tys' ws' H' locs' ls' lv' sv' S'.2.1 S'.2.2.1 S'.2.2.2.1 → W p l e R s m args below meth c H' locs' S'.2.2.2.2.1 S'.2.2.2.2.2 Q (F0 m S'.1 ls' sv')) : W p l e R s m args below meth c H locs k n Q (F0 m pc ls sv) := by
  obtain ⟨hx, hb, hml, hown, hts, hyn, hAO, hA, hRf, hRl, hsc⟩ := C
  obtain ⟨hh, hl, hst, hls, hP, hK, hD, hS⟩ := Z
  unfold y_okop y_okin at hok
  simp only [Bool.and_eq_true, decide_eq_true_eq] at hok
  obtain ⟨hdg, hok⟩ := hok
  unfold y_step at hs
  dsimp only at hs
  obtain rfl := hok
  rw [Nat.add_sub_cancel_left] at hdg
  rcases st with _ | ⟨(x0 | x0) | x0, _ | ⟨a | a | _ | _ | j, r⟩⟩ <;> try (cases hs; done)
  · cases hg : h[j]? with
    | none => dsimp only at hs; rw [hg] at hs; cases hs
    | some c0 =>
      try dsimp only at hs
      rw [hg] at hs
      rcases c0 with ⟨ci, fs⟩ | ⟨kd, len, m0⟩ | ⟨ci, len, m0⟩ <;> try (cases hs; done)
      · try dsimp only at hs
        cases hc : (Nat.blt x0 len && Nat.blt x0 2147483648) with
        | false => rw [hc] at hs; cases hs
        | true =>
          rw [hc] at hs
          cases hs
          simp only [Bool.and_eq_true] at hc
          have h3 := y_blt.mp hc.1
          have h4 := y_blt.mp hc.2
          obtain ⟨ys, rfl, h1⟩ := y_ds_ci hst
          obtain ⟨b, zs, rfl, hb1, h2⟩ := y_ds_cr h1
          obtain ⟨b', e', g1, g2, cA, t0, rr, f, g0, g3, g4, rfl⟩ := hh.2.2 j _ hg
          have e2 : b' = b := Option.some.inj (g1.symm.trans hb1)
          subst e2
          refine va_aldq hx hb hK hP j t0 g2 g3 (y_in h3 h4) hdg (kk α tys ws H locs ls lv _ (List.prefix_refl _) ⟨hh, hl, y_ds_mk ?_ h2, hls, hP, hK, hD, hS⟩)
          rw [show y_i κ (.inl x0) = nI x0 from rfl, nI_clamp h4]
          have g5 := g4 x0 h3
          cases hm : y_getr m0 x0 with
          | none => rw [hm] at g5; rw [show f x0 = none from g5]; rfl
          | some j2 =>
            rw [hm] at g5
            obtain ⟨a2, g6, g7⟩ := g5
            rw [g7]
            exact Option.map_eq_some_iff.mpr ⟨a2, g6, rfl⟩

set_option maxHeartbeats 4000000 in
set_option maxRecDepth 100000 in
theorem y_st_iast {nx r1 r2 r3 : Nat} (C : y_ctx κ sc p R s m args meth c cc own yn nL A) (hH : y_H κ hy) (hT : y_T κ tb) (hok : y_okop nL own yn cc (pc, (.iastore, nx, r1, r2, r3)) = true) (hs : y_step sc κ.2.2.2 hy tb pc (.iastore, nx, r1, r2, r3) lo st h k n = some S') (hk : S'.2.2.2.2.1 ≤ R.cells) (hn : S'.2.2.2.2.2 ≤ R.slots) (Z : y_Z κ D A s nL α tys ws H locs ls lv sv lo st h)
    (kk : ∀ α' tys' ws' H' locs' ls' lv' sv', α <+: α' → y_Z κ D A s nL α' tys' ws' H' locs' ls' lv' sv' S'.2.1 S'.2.2.1 S'.2.2.2.1 → W p l e R s m args below meth c H' locs' S'.2.2.2.2.1 S'.2.2.2.2.2 Q (F0 m S'.1 ls' sv')) : W p l e R s m args below meth c H locs k n Q (F0 m pc ls sv) := by
  obtain ⟨hx, hb, hml, hown, hts, hyn, hAO, hA, hRf, hRl, hsc⟩ := C
  obtain ⟨hh, hl, hst, hls, hP, hK, hD, hS⟩ := Z
  unfold y_okop y_okin at hok
  simp only [Bool.and_eq_true, decide_eq_true_eq] at hok
  obtain ⟨hdg, hok⟩ := hok
  unfold y_step at hs
  dsimp only at hs
  obtain rfl := hok
  rw [Nat.add_sub_cancel_left] at hdg
  rcases st with _ | ⟨v | v, _ | ⟨(x0 | x0) | x0, _ | ⟨a | a | _ | _ | j, r⟩⟩⟩ <;> try (cases hs; done)
  · cases hg : h[j]? with
    | none => dsimp only at hs; rw [hg] at hs; cases hs
    | some c0 =>
      try dsimp only at hs
      rw [hg] at hs
      rcases c0 with ⟨ci, fs⟩ | ⟨_ | kd, len, m0⟩ | c0 <;> try (cases hs; done)
      · replace hs : (bif Nat.blt x0 len && Nat.blt x0 2147483648 then some (pc + 1, lo, r, h.set j (.inr (.inl (0, len, (x0, v) :: m0))), k, n) else none) = some S' := hs
        cases hc : (Nat.blt x0 len && Nat.blt x0 2147483648) with
        | false => rw [hc] at hs; cases hs
        | true =>
          rw [hc] at hs
          cases hs
          simp only [Bool.and_eq_true] at hc
          have h3 := y_blt.mp hc.1
          have h4 := y_blt.mp hc.2
          obtain ⟨xs, rfl, h0⟩ := y_ds_ci hst
          obtain ⟨ys, rfl, h1⟩ := y_ds_ci h0
          obtain ⟨b, zs, rfl, hb1, h2⟩ := y_ds_cr h1
          obtain ⟨b', e', g1, g2, cA, t0, f, g3, g4, rfl⟩ := hh.2.2 j _ hg
          have e2 : b' = b := Option.some.inj (g1.symm.trans hb1)
          subst e2
          refine va_iast hx hb hK hP hD hS j t0 g2 g3 (y_in h3 h4) hdg (fun H1 locs1 hP1 hD1 hS1 => ?_)
          rw [show y_i κ (.inl x0) = nI x0 from rfl, nI_clamp h4] at hP1 hD1
          exact kk α tys _ H1 locs1 ls lv _ (List.prefix_refl _) ⟨y_h_set hh hg g1 ⟨cA, t0, _, g3, y_get_upd rfl g4, rfl⟩, hl, h2, hls, hP1, hK, hD1, hS1⟩

set_option maxHeartbeats 4000000 in
set_option maxRecDepth 100000 in
theorem y_st_bast {nx r1 r2 r3 : Nat} (C : y_ctx κ sc p R s m args meth c cc own yn nL A) (hH : y_H κ hy) (hT : y_T κ tb) (hok : y_okop nL own yn cc (pc, (.bastore, nx, r1, r2, r3)) = true) (hs : y_step sc κ.2.2.2 hy tb pc (.bastore, nx, r1, r2, r3) lo st h k n = some S') (hk : S'.2.2.2.2.1 ≤ R.cells) (hn : S'.2.2.2.2.2 ≤ R.slots) (Z : y_Z κ D A s nL α tys ws H locs ls lv sv lo st h)
    (kk : ∀ α' tys' ws' H' locs' ls' lv' sv', α <+: α' → y_Z κ D A s nL α' tys' ws' H' locs' ls' lv' sv' S'.2.1 S'.2.2.1 S'.2.2.2.1 → W p l e R s m args below meth c H' locs' S'.2.2.2.2.1 S'.2.2.2.2.2 Q (F0 m S'.1 ls' sv')) : W p l e R s m args below meth c H locs k n Q (F0 m pc ls sv) := by
  obtain ⟨hx, hb, hml, hown, hts, hyn, hAO, hA, hRf, hRl, hsc⟩ := C
  obtain ⟨hh, hl, hst, hls, hP, hK, hD, hS⟩ := Z
  unfold y_okop y_okin at hok
  simp only [Bool.and_eq_true, decide_eq_true_eq] at hok
  obtain ⟨hdg, hok⟩ := hok
  unfold y_step at hs
  dsimp only at hs
  obtain rfl := hok
  rw [Nat.add_sub_cancel_left] at hdg
  rcases st with _ | ⟨(v | v) | v, _ | ⟨(x0 | x0) | x0, _ | ⟨a | a | _ | _ | j, r⟩⟩⟩ <;> try (cases hs; done)
  · cases hg : h[j]? with
    | none => dsimp only at hs; rw [hg] at hs; cases hs
    | some c0 =>
      try dsimp only at hs
      rw [hg] at hs
      rcases c0 with ⟨ci, fs⟩ | ⟨_ | _ | kd, len, m0⟩ | c0 <;> try (cases hs; done)
      · replace hs : (bif Nat.ble v 1 && (Nat.blt x0 len && Nat.blt x0 2147483648) then some (pc + 1, lo, r, h.set j (.inr (.inl (1, len, (x0, .inl v) :: m0))), k, n) else none) = some S' := hs
        cases hc : (Nat.ble v 1 && (Nat.blt x0 len && Nat.blt x0 2147483648)) with
        | false => rw [hc] at hs; cases hs
        | true =>
          rw [hc] at hs
          cases hs
          simp only [Bool.and_eq_true] at hc
          have h5 := y_ble.mp hc.1
          have h3 := y_blt.mp hc.2.1
          have h4 := y_blt.mp hc.2.2
          obtain ⟨xs, rfl, h0⟩ := y_ds_ci hst
          obtain ⟨ys, rfl, h1⟩ := y_ds_ci h0
          obtain ⟨b, zs, rfl, hb1, h2⟩ := y_ds_cr h1
          obtain ⟨b', e', g1, g2, cA, t0, f, g3, g4, rfl⟩ := hh.2.2 j _ hg
          have e2 : b' = b := Option.some.inj (g1.symm.trans hb1)
          subst e2
          refine va_zast hx hb hK hP hD hS j t0 g2 g3 (y_in h3 h4) hdg (fun H1 locs1 hP1 hD1 hS1 => ?_)
          rw [show y_i κ (.inl x0) = nI x0 from rfl, nI_clamp h4, show y_i κ (.inl v) = nI v from rfl, y_nbool h5] at hP1 hD1
          exact kk α tys _ H1 locs1 ls lv _ (List.prefix_refl _) ⟨y_h_set hh hg g1 ⟨cA, t0, _, g3, y_get_upd rfl g4, rfl⟩, hl, h2, hls, hP1, hK, hD1, hS1⟩

set_option maxHeartbeats 4000000 in
set_option maxRecDepth 100000 in
theorem y_st_cast {nx r1 r2 r3 : Nat} (C : y_ctx κ sc p R s m args meth c cc own yn nL A) (hH : y_H κ hy) (hT : y_T κ tb) (hok : y_okop nL own yn cc (pc, (.castore, nx, r1, r2, r3)) = true) (hs : y_step sc κ.2.2.2 hy tb pc (.castore, nx, r1, r2, r3) lo st h k n = some S') (hk : S'.2.2.2.2.1 ≤ R.cells) (hn : S'.2.2.2.2.2 ≤ R.slots) (Z : y_Z κ D A s nL α tys ws H locs ls lv sv lo st h)
    (kk : ∀ α' tys' ws' H' locs' ls' lv' sv', α <+: α' → y_Z κ D A s nL α' tys' ws' H' locs' ls' lv' sv' S'.2.1 S'.2.2.1 S'.2.2.2.1 → W p l e R s m args below meth c H' locs' S'.2.2.2.2.1 S'.2.2.2.2.2 Q (F0 m S'.1 ls' sv')) : W p l e R s m args below meth c H locs k n Q (F0 m pc ls sv) := by
  obtain ⟨hx, hb, hml, hown, hts, hyn, hAO, hA, hRf, hRl, hsc⟩ := C
  obtain ⟨hh, hl, hst, hls, hP, hK, hD, hS⟩ := Z
  unfold y_okop y_okin at hok
  simp only [Bool.and_eq_true, decide_eq_true_eq] at hok
  obtain ⟨hdg, hok⟩ := hok
  unfold y_step at hs
  dsimp only at hs
  obtain rfl := hok
  rw [Nat.add_sub_cancel_left] at hdg
  rcases st with _ | ⟨v | v, _ | ⟨(x0 | x0) | x0, _ | ⟨a | a | _ | _ | j, r⟩⟩⟩ <;> try (cases hs; done)
  · cases hg : h[j]? with
    | none => dsimp only at hs; rw [hg] at hs; cases hs
    | some c0 =>
      try dsimp only at hs
      rw [hg] at hs
      rcases c0 with ⟨ci, fs⟩ | ⟨_ | _ | _ | kd, len, m0⟩ | c0 <;> try (cases hs; done)
      · replace hs : (match y_lookT tb 2 v v with | some w => (bif Nat.blt x0 len && Nat.blt x0 2147483648 then some (pc + 1, lo, r, h.set j (.inr (.inl (2, len, (x0, w) :: m0))), k, n) else none) | none => none) = some S' := hs
        cases hw : y_lookT tb 2 v v with
        | none => rw [hw] at hs; cases hs
        | some u =>
        rw [hw] at hs
        dsimp only at hs
        cases hc : (Nat.blt x0 len && Nat.blt x0 2147483648) with
        | false => rw [hc] at hs; cases hs
        | true =>
          rw [hc] at hs
          cases hs
          simp only [Bool.and_eq_true] at hc
          have h3 := y_blt.mp hc.1
          have h4 := y_blt.mp hc.2
          obtain ⟨xs, rfl, h0⟩ := y_ds_ci hst
          obtain ⟨ys, rfl, h1⟩ := y_ds_ci h0
          obtain ⟨b, zs, rfl, hb1, h2⟩ := y_ds_cr h1
          obtain ⟨b', e', g1, g2, cA, t0, f, g3, g4, rfl⟩ := hh.2.2 j _ hg
          have e2 : b' = b := Option.some.inj (g1.symm.trans hb1)
          subst e2
          have hu : ((y_i κ v).toUInt32 % 65536).toInt32 = y_i κ u := y_lookT_ok hT hw
          refine va_cast hx hb hK hP hD hS j t0 g2 g3 (y_in h3 h4) hdg (fun H1 locs1 hP1 hD1 hS1 => ?_)
          rw [show y_i κ (.inl x0) = nI x0 from rfl, nI_clamp h4, y_nar, hu] at hP1 hD1
          exact kk α tys _ H1 locs1 ls lv _ (List.prefix_refl _) ⟨y_h_set hh hg g1 ⟨cA, t0, _, g3, y_get_upd rfl g4, rfl⟩, hl, h2, hls, hP1, hK, hD1, hS1⟩

set_option maxHeartbeats 4000000 in
set_option maxRecDepth 100000 in
theorem y_st_aast {nx r1 r2 r3 : Nat} (C : y_ctx κ sc p R s m args meth c cc own yn nL A) (hH : y_H κ hy) (hT : y_T κ tb) (hok : y_okop nL own yn cc (pc, (.aastore, nx, r1, r2, r3)) = true) (hs : y_step sc κ.2.2.2 hy tb pc (.aastore, nx, r1, r2, r3) lo st h k n = some S') (hk : S'.2.2.2.2.1 ≤ R.cells) (hn : S'.2.2.2.2.2 ≤ R.slots) (Z : y_Z κ D A s nL α tys ws H locs ls lv sv lo st h)
    (kk : ∀ α' tys' ws' H' locs' ls' lv' sv', α <+: α' → y_Z κ D A s nL α' tys' ws' H' locs' ls' lv' sv' S'.2.1 S'.2.2.1 S'.2.2.2.1 → W p l e R s m args below meth c H' locs' S'.2.2.2.2.1 S'.2.2.2.2.2 Q (F0 m S'.1 ls' sv')) : W p l e R s m args below meth c H locs k n Q (F0 m pc ls sv) := by
  obtain ⟨hx, hb, hml, hown, hts, hyn, hAO, hA, hRf, hRl, hsc⟩ := C
  obtain ⟨hh, hl, hst, hls, hP, hK, hD, hS⟩ := Z
  unfold y_okop y_okin at hok
  simp only [Bool.and_eq_true, decide_eq_true_eq] at hok
  obtain ⟨hdg, hok⟩ := hok
  unfold y_step at hs
  dsimp only at hs
  obtain rfl := hok
  rw [Nat.add_sub_cancel_left] at hdg
  rcases st with _ | ⟨v0 | v0 | _ | _ | v, _ | ⟨(x0 | x0) | x0, _ | ⟨a | a | _ | _ | j, r⟩⟩⟩ <;> try (cases hs; done)
  · cases hg : h[j]? with
    | none => dsimp only at hs; rw [hg] at hs; cases hs
    | some c0 =>
      try dsimp only at hs
      rw [hg] at hs
      rcases c0 with ⟨ci, fs⟩ | ⟨kd, len, m0⟩ | ⟨ci, len, m0⟩ <;> try (cases hs; done)
      · try dsimp only at hs
        cases hw : h[v]? with
        | none => rw [hw] at hs; cases hs
        | some c1 =>
        rw [hw] at hs
        rcases c1 with ⟨cv, fv⟩ | c1
        · try dsimp only at hs
          cases hc : (Nat.beq cv ci && (Nat.blt x0 len && Nat.blt x0 2147483648)) with
          | false => rw [hc] at hs; cases hs
          | true =>
            rw [hc] at hs
            cases hs
            simp only [Bool.and_eq_true] at hc
            have h5 := y_beq.mp hc.1
            subst h5
            have h3 := y_blt.mp hc.2.1
            have h4 := y_blt.mp hc.2.2
            obtain ⟨va, xs, rfl, hv1, h0⟩ := y_ds_cr hst
            obtain ⟨ys, rfl, h1⟩ := y_ds_ci h0
            obtain ⟨b, zs, rfl, hb1, h2⟩ := y_ds_cr h1
            obtain ⟨b', e', g1, g2, cA, t0, rr, f, g0, g3, g4, rfl⟩ := hh.2.2 j _ hg
            have e2 : b' = b := Option.some.inj (g1.symm.trans hb1)
            subst e2
            obtain ⟨v', e3, f1, f2, vs, f3, rfl⟩ := hh.2.2 v _ hw
            have e4 : v' = va := Option.some.inj (f1.symm.trans hv1)
            subst e4
            refine va_astq hx hb hK hP hD hS j t0 v cv g2 g3 f2 g0 (y_in h3 h4) hdg (fun H1 locs1 hP1 hD1 hS1 => ?_)
            rw [show y_i κ (.inl x0) = nI x0 from rfl, nI_clamp h4] at hP1 hD1
            refine kk α tys _ H1 locs1 ls lv _ (List.prefix_refl _) ⟨y_h_set hh hg g1 ⟨cA, t0, rr, _, g0, g3, fun i hi => ?_, rfl⟩, hl, h2, hls, hP1, hK, hD1, hS1⟩
            have e5 : y_getr ((x0, some (v + 1)) :: m0) i = (bif Nat.beq x0 i then some (v + 1) else y_getr m0 i) := rfl
            rw [e5]
            cases hq : Nat.beq x0 i with
            | true =>
              have e6 := y_beq.mp hq
              subst e6
              exact ⟨v', hv1, by show (if x0 = x0 then some v' else f x0) = some v'; rw [if_pos rfl]⟩
            | false =>
              have e6 : ¬ i = x0 := fun z => by rw [z, Nat.beq_refl] at hq; cases hq
              have e7 : va_up f x0 (some v') i = f i := if_neg e6
              have g5 := g4 i hi
              show match y_getr m0 i with | none => va_up f x0 (some v') i = none | some j2 => ∃ a, y_r κ α j2 = some a ∧ va_up f x0 (some v') i = some a
              rw [e7]
              exact g5
        · cases hs

set_option maxHeartbeats 4000000 in
set_option maxRecDepth 100000 in
theorem y_st_alen {nx r1 r2 r3 : Nat} (C : y_ctx κ sc p R s m args meth c cc own yn nL A) (hH : y_H κ hy) (hT : y_T κ tb) (hok : y_okop nL own yn cc (pc, (.arraylength, nx, r1, r2, r3)) = true) (hs : y_step sc κ.2.2.2 hy tb pc (.arraylength, nx, r1, r2, r3) lo st h k n = some S') (hk : S'.2.2.2.2.1 ≤ R.cells) (hn : S'.2.2.2.2.2 ≤ R.slots) (Z : y_Z κ D A s nL α tys ws H locs ls lv sv lo st h)
    (kk : ∀ α' tys' ws' H' locs' ls' lv' sv', α <+: α' → y_Z κ D A s nL α' tys' ws' H' locs' ls' lv' sv' S'.2.1 S'.2.2.1 S'.2.2.2.1 → W p l e R s m args below meth c H' locs' S'.2.2.2.2.1 S'.2.2.2.2.2 Q (F0 m S'.1 ls' sv')) : W p l e R s m args below meth c H locs k n Q (F0 m pc ls sv) := by
  obtain ⟨hx, hb, hml, hown, hts, hyn, hAO, hA, hRf, hRl, hsc⟩ := C
  obtain ⟨hh, hl, hst, hls, hP, hK, hD, hS⟩ := Z
  unfold y_okop y_okin at hok
  simp only [Bool.and_eq_true, decide_eq_true_eq] at hok
  obtain ⟨hdg, hok⟩ := hok
  unfold y_step at hs
  dsimp only at hs
  obtain rfl := hok
  rw [Nat.add_sub_cancel_left] at hdg
  rcases st with _ | ⟨a | a | _ | _ | j, r⟩ <;> try (cases hs; done)
  · try dsimp only at hs
    cases hc : (sc && Nat.blt κ.2.2.2 2147483648) with
    | false => rw [hc] at hs; cases hs
    | true =>
      rw [hc] at hs
      cases hs
      simp only [Bool.and_eq_true] at hc
      obtain ⟨hX, hbl, hbA⟩ := hsc hc.1
      obtain ⟨b, zs, rfl, hb1, h2⟩ := y_ds_cr hst
      cases hb1
      exact va_slen hx hb hX hbl hbA hS hdg (kk α tys ws H locs ls lv _ (List.prefix_refl _) ⟨hh, hl, y_ds_i rfl h2, hls, hP, hK, hD, hS⟩)
  · cases hg : h[j]? with
    | none => dsimp only at hs; rw [hg] at hs; cases hs
    | some c0 =>
      try dsimp only at hs
      rw [hg] at hs
      rcases c0 with ⟨ci, fs⟩ | ⟨kd, len, m0⟩ | c0 <;> try (cases hs; done)
      · cases hs
        obtain ⟨b, zs, rfl, hb1, h2⟩ := y_ds_cr hst
        obtain ⟨b', e', g1, g2, cA, t0, f, g3, g4, rfl⟩ := hh.2.2 j _ hg
        have e2 : b' = b := Option.some.inj (g1.symm.trans hb1)
        subst e2
        exact va_alen hx hb hK hP j t0 g2 g3 rfl hdg (kk α tys ws H locs ls lv _ (List.prefix_refl _) ⟨hh, hl, y_ds_i rfl h2, hls, hP, hK, hD, hS⟩)

set_option maxHeartbeats 4000000 in
set_option maxRecDepth 100000 in
theorem y_st_new {i : Nat} {nx r1 r2 r3 : Nat} (C : y_ctx κ sc p R s m args meth c cc own yn nL A) (hH : y_H κ hy) (hT : y_T κ tb) (hok : y_okop nL own yn cc (pc, (.new i, nx, r1, r2, r3)) = true) (hs : y_step sc κ.2.2.2 hy tb pc (.new i, nx, r1, r2, r3) lo st h k n = some S') (hk : S'.2.2.2.2.1 ≤ R.cells) (hn : S'.2.2.2.2.2 ≤ R.slots) (Z : y_Z κ D A s nL α tys ws H locs ls lv sv lo st h)
    (kk : ∀ α' tys' ws' H' locs' ls' lv' sv', α <+: α' → y_Z κ D A s nL α' tys' ws' H' locs' ls' lv' sv' S'.2.1 S'.2.2.1 S'.2.2.2.1 → W p l e R s m args below meth c H' locs' S'.2.2.2.2.1 S'.2.2.2.2.2 Q (F0 m S'.1 ls' sv')) : W p l e R s m args below meth c H locs k n Q (F0 m pc ls sv) := by
  obtain ⟨hx, hb, hml, hown, hts, hyn, hAO, hA, hRf, hRl, hsc⟩ := C
  obtain ⟨hh, hl, hst, hls, hP, hK, hD, hS⟩ := Z
  unfold y_okop y_okin at hok
  simp only [Bool.and_eq_true, decide_eq_true_eq] at hok
  obtain ⟨hdg, hok⟩ := hok
  unfold y_step at hs
  dsimp only at hs
  obtain ⟨rfl, hnw⟩ := hok
  rw [Nat.add_sub_cancel_left] at hdg
  cases hs
  unfold y_nw at hnw
  cases hr : vwCl[r1]? with
  | none => rw [hr] at hnw; cases hnw
  | some rr =>
    rw [hr] at hnw
    obtain ⟨C1, T1, N1⟩ := rr
    simp only [Bool.and_eq_true, decide_eq_true_eq, List.all_eq_true, List.mem_range] at hnw
    obtain ⟨e1, q1, q2, q3, q4⟩ := hnw
    subst e1
    obtain ⟨k1, k2, k3⟩ := y_cls_ok hr
    have hds : ∀ α' : List Nat, y_ds κ α' ((List.range N1).map (fun k => bif Nat.testBit r3 k then .inr (.inr none) else .inl (.inl 0))) ((List.range N1).map (fun k => bif Nat.testBit r3 k then Value.null else Value.int 0)) := by
      intro α'
      show List.map _ (List.map _ _) = List.map _ (List.map _ _)
      rw [List.map_map, List.map_map]
      refine List.map_congr_left (fun z _ => ?_)
      show y_d κ α' (bif Nat.testBit r3 z then .inr (.inr none) else .inl (.inl 0)) = some (bif Nat.testBit r3 z then Value.null else Value.int 0)
      cases Nat.testBit r3 z <;> rfl
    refine va_new (fs := (List.range N1).map (fun k => bif Nat.testBit r3 k then Value.null else Value.int 0)) hx hb hts k1 _ k2 hown (hts _ (yM_ok q1)) (hts _ (yM_ok q2)) (hts _ (yM_ok q3)) hK hP hD hS hA hr (fun z hz => ?_) hk hn hdg (fun q H1 hP1 hD1 hS1 => ?_)
    · have hd := q4 z hz
      have e2 : vp_V ((List.range N1).map (fun k => bif Nat.testBit r3 k then Value.null else Value.int 0)) z = (bif Nat.testBit r3 z then Value.null else Value.int 0) := by
        unfold vp_V
        rw [List.getD_eq_getElem?_getD, List.getElem?_map, List.getElem?_range hz]
        rfl
      rw [e2]
      rw [k2 z hz] at hd
      dsimp only at hd ⊢
      generalize (parseFieldDescriptor (T1 z).2.2.1).getD .int = ty at hd ⊢
      cases ty <;> cases hb3 : Nat.testBit r3 z <;> rw [hb3] at hd <;> first | rfl | cases hd
    · exact kk (α ++ [q]) tys _ H1 locs ls lv _ (List.prefix_append _ _) ⟨y_h_push q (List.prefix_refl _) hh ⟨_, hds _, rfl⟩, y_dl_mono (List.prefix_append _ _) hl, y_ds_mk (y_new_ref q hh.1) (y_ds_mono (List.prefix_append _ _) hst), hls, hP1, hK, hD1, hS1⟩

set_option maxHeartbeats 4000000 in
set_option maxRecDepth 100000 in
theorem y_st_newa_int {nx r1 r2 r3 : Nat} (C : y_ctx κ sc p R s m args meth c cc own yn nL A) (hH : y_H κ hy) (hT : y_T κ tb) (hok : y_okop nL own yn cc (pc, (.newarray .int, nx, r1, r2, r3)) = true) (hs : y_step sc κ.2.2.2 hy tb pc (.newarray .int, nx, r1, r2, r3) lo st h k n = some S') (hk : S'.2.2.2.2.1 ≤ R.cells) (hn : S'.2.2.2.2.2 ≤ R.slots) (Z : y_Z κ D A s nL α tys ws H locs ls lv sv lo st h)
    (kk : ∀ α' tys' ws' H' locs' ls' lv' sv', α <+: α' → y_Z κ D A s nL α' tys' ws' H' locs' ls' lv' sv' S'.2.1 S'.2.2.1 S'.2.2.2.1 → W p l e R s m args below meth c H' locs' S'.2.2.2.2.1 S'.2.2.2.2.2 Q (F0 m S'.1 ls' sv')) : W p l e R s m args below meth c H locs k n Q (F0 m pc ls sv) := by
  obtain ⟨hx, hb, hml, hown, hts, hyn, hAO, hA, hRf, hRl, hsc⟩ := C
  obtain ⟨hh, hl, hst, hls, hP, hK, hD, hS⟩ := Z
  unfold y_okop y_okin at hok
  simp only [Bool.and_eq_true, decide_eq_true_eq] at hok
  obtain ⟨hdg, hok⟩ := hok
  unfold y_step at hs
  dsimp only at hs
  obtain ⟨rfl, rfl, hac⟩ := hok
  rw [Nat.add_sub_cancel_left] at hdg
  rcases st with _ | ⟨(x0 | x0) | x0, r⟩ <;> try (cases hs; done)
  · try dsimp only at hs
    cases hc : Nat.ble x0 100000 with
    | false => rw [hc] at hs; cases hs
    | true =>
      rw [hc] at hs
      cases hs
      have h3 := y_ble.mp hc
      obtain ⟨ys, rfl, h1⟩ := y_ds_ci hst
      refine va_newa (atype := .int) (ty := .int) (N' := x0) (a0 := (x0, .inl (fun _ => 0))) hx hb (hts _ (yM_ok hac)) rfl hK hP hD hS hA (fun _ => rfl) (nI_pos (by omega)) (nI_clamp (by omega)) (by show x0 * 4 ≤ 536870912; omega) hk hn hdg (fun q cA H1 hK1 hP1 hD1 hS1 => ?_)
      refine kk (α ++ [q]) _ _ H1 locs ls lv _ (List.prefix_append _ _) ⟨y_h_push q (List.prefix_append _ _) hh ⟨cA, tys.length, fun _ => 0, ?_, fun i hi => nI_0.symm, rfl⟩, y_dl_mono (List.prefix_append _ _) hl, y_ds_mk (y_new_ref q hh.1) (y_ds_mono (List.prefix_append _ _) h1), hls, hP1, hK1, hD1, hS1⟩
      simp [y_ty]

set_option maxHeartbeats 4000000 in
set_option maxRecDepth 100000 in
theorem y_st_newa_boolean {nx r1 r2 r3 : Nat} (C : y_ctx κ sc p R s m args meth c cc own yn nL A) (hH : y_H κ hy) (hT : y_T κ tb) (hok : y_okop nL own yn cc (pc, (.newarray .boolean, nx, r1, r2, r3)) = true) (hs : y_step sc κ.2.2.2 hy tb pc (.newarray .boolean, nx, r1, r2, r3) lo st h k n = some S') (hk : S'.2.2.2.2.1 ≤ R.cells) (hn : S'.2.2.2.2.2 ≤ R.slots) (Z : y_Z κ D A s nL α tys ws H locs ls lv sv lo st h)
    (kk : ∀ α' tys' ws' H' locs' ls' lv' sv', α <+: α' → y_Z κ D A s nL α' tys' ws' H' locs' ls' lv' sv' S'.2.1 S'.2.2.1 S'.2.2.2.1 → W p l e R s m args below meth c H' locs' S'.2.2.2.2.1 S'.2.2.2.2.2 Q (F0 m S'.1 ls' sv')) : W p l e R s m args below meth c H locs k n Q (F0 m pc ls sv) := by
  obtain ⟨hx, hb, hml, hown, hts, hyn, hAO, hA, hRf, hRl, hsc⟩ := C
  obtain ⟨hh, hl, hst, hls, hP, hK, hD, hS⟩ := Z
  unfold y_okop y_okin at hok
  simp only [Bool.and_eq_true, decide_eq_true_eq] at hok
  obtain ⟨hdg, hok⟩ := hok
  unfold y_step at hs
  dsimp only at hs
  obtain ⟨rfl, rfl, hac⟩ := hok
  rw [Nat.add_sub_cancel_left] at hdg
  rcases st with _ | ⟨(x0 | x0) | x0, r⟩ <;> try (cases hs; done)
  · try dsimp only at hs
    cases hc : Nat.ble x0 100000 with
    | false => rw [hc] at hs; cases hs
    | true =>
      rw [hc] at hs
      cases hs
      have h3 := y_ble.mp hc
      obtain ⟨ys, rfl, h1⟩ := y_ds_ci hst
      refine va_newa (atype := .boolean) (ty := .boolean) (N' := x0) (a0 := (x0, .inl (fun _ => 0))) hx hb (hts _ (yM_ok hac)) rfl hK hP hD hS hA (fun _ => rfl) (nI_pos (by omega)) (nI_clamp (by omega)) (by show x0 * 1 ≤ 536870912; omega) hk hn hdg (fun q cA H1 hK1 hP1 hD1 hS1 => ?_)
      refine kk (α ++ [q]) _ _ H1 locs ls lv _ (List.prefix_append _ _) ⟨y_h_push q (List.prefix_append _ _) hh ⟨cA, tys.length, fun _ => 0, ?_, fun i hi => nI_0.symm, rfl⟩, y_dl_mono (List.prefix_append _ _) hl, y_ds_mk (y_new_ref q hh.1) (y_ds_mono (List.prefix_append _ _) h1), hls, hP1, hK1, hD1, hS1⟩
      simp [y_ty]

set_option maxHeartbeats 4000000 in
set_option maxRecDepth 100000 in
theorem y_st_newa_char {nx r1 r2 r3 : Nat} (C : y_ctx κ sc p R s m args meth c cc own yn nL A) (hH : y_H κ hy) (hT : y_T κ tb) (hok : y_okop nL own yn cc (pc, (.newarray .char, nx, r1, r2, r3)) = true) (hs : y_step sc κ.2.2.2 hy tb pc (.newarray .char, nx, r1, r2, r3) lo st h k n = some S') (hk : S'.2.2.2.2.1 ≤ R.cells) (hn : S'.2.2.2.2.2 ≤ R.slots) (Z : y_Z κ D A s nL α tys ws H locs ls lv sv lo st h)
    (kk : ∀ α' tys' ws' H' locs' ls' lv' sv', α <+: α' → y_Z κ D A s nL α' tys' ws' H' locs' ls' lv' sv' S'.2.1 S'.2.2.1 S'.2.2.2.1 → W p l e R s m args below meth c H' locs' S'.2.2.2.2.1 S'.2.2.2.2.2 Q (F0 m S'.1 ls' sv')) : W p l e R s m args below meth c H locs k n Q (F0 m pc ls sv) := by
  obtain ⟨hx, hb, hml, hown, hts, hyn, hAO, hA, hRf, hRl, hsc⟩ := C
  obtain ⟨hh, hl, hst, hls, hP, hK, hD, hS⟩ := Z
  unfold y_okop y_okin at hok
  simp only [Bool.and_eq_true, decide_eq_true_eq] at hok
  obtain ⟨hdg, hok⟩ := hok
  unfold y_step at hs
  dsimp only at hs
  obtain ⟨rfl, rfl, hac⟩ := hok
  rw [Nat.add_sub_cancel_left] at hdg
  rcases st with _ | ⟨(x0 | x0) | x0, r⟩ <;> try (cases hs; done)
  · try dsimp only at hs
    cases hc : Nat.ble x0 100000 with
    | false => rw [hc] at hs; cases hs
    | true =>
      rw [hc] at hs
      cases hs
      have h3 := y_ble.mp hc
      obtain ⟨ys, rfl, h1⟩ := y_ds_ci hst
      refine va_newa (atype := .char) (ty := .char) (N' := x0) (a0 := (x0, .inl (fun _ => 0))) hx hb (hts _ (yM_ok hac)) rfl hK hP hD hS hA (fun _ => rfl) (nI_pos (by omega)) (nI_clamp (by omega)) (by show x0 * 2 ≤ 536870912; omega) hk hn hdg (fun q cA H1 hK1 hP1 hD1 hS1 => ?_)
      refine kk (α ++ [q]) _ _ H1 locs ls lv _ (List.prefix_append _ _) ⟨y_h_push q (List.prefix_append _ _) hh ⟨cA, tys.length, fun _ => 0, ?_, fun i hi => nI_0.symm, rfl⟩, y_dl_mono (List.prefix_append _ _) hl, y_ds_mk (y_new_ref q hh.1) (y_ds_mono (List.prefix_append _ _) h1), hls, hP1, hK1, hD1, hS1⟩
      simp [y_ty]

set_option maxHeartbeats 4000000 in
set_option maxRecDepth 100000 in
theorem y_st_anewa {i : Nat} {nx r1 r2 r3 : Nat} (C : y_ctx κ sc p R s m args meth c cc own yn nL A) (hH : y_H κ hy) (hT : y_T κ tb) (hok : y_okop nL own yn cc (pc, (.anewarray i, nx, r1, r2, r3)) = true) (hs : y_step sc κ.2.2.2 hy tb pc (.anewarray i, nx, r1, r2, r3) lo st h k n = some S') (hk : S'.2.2.2.2.1 ≤ R.cells) (hn : S'.2.2.2.2.2 ≤ R.slots) (Z : y_Z κ D A s nL α tys ws H locs ls lv sv lo st h)
    (kk : ∀ α' tys' ws' H' locs' ls' lv' sv', α <+: α' → y_Z κ D A s nL α' tys' ws' H' locs' ls' lv' sv' S'.2.1 S'.2.2.1 S'.2.2.2.1 → W p l e R s m args below meth c H' locs' S'.2.2.2.2.1 S'.2.2.2.2.2 Q (F0 m S'.1 ls' sv')) : W p l e R s m args below meth c H locs k n Q (F0 m pc ls sv) := by
  obtain ⟨hx, hb, hml, hown, hts, hyn, hAO, hA, hRf, hRl, hsc⟩ := C
  obtain ⟨hh, hl, hst, hls, hP, hK, hD, hS⟩ := Z
  unfold y_okop y_okin at hok
  simp only [Bool.and_eq_true, decide_eq_true_eq] at hok
  obtain ⟨hdg, hok⟩ := hok
  unfold y_step at hs
  dsimp only at hs
  obtain ⟨rfl, han⟩ := hok
  rw [Nat.add_sub_cancel_left] at hdg
  rcases st with _ | ⟨(x0 | x0) | x0, r⟩ <;> try (cases hs; done)
  · try dsimp only at hs
    cases hc : Nat.ble x0 100000 with
    | false => rw [hc] at hs; cases hs
    | true =>
      rw [hc] at hs
      cases hs
      have h3 := y_ble.mp hc
      obtain ⟨ys, rfl, h1⟩ := y_ds_ci hst
      unfold y_an at han
      cases hr : vwCl[r1]? with
      | none => rw [hr] at han; cases han
      | some rr =>
        rw [hr] at han
        obtain ⟨C1, T1, N1⟩ := rr
        simp only [Bool.and_eq_true, decide_eq_true_eq] at han
        obtain ⟨e1, q1⟩ := han
        subst e1
        refine va_newq (N' := x0) hx hb hown (hts _ (yM_ok q1)) hAO.1 hK hP hD hS hA (nI_pos (by omega)) (nI_clamp (by omega)) (by omega) hk hn hdg (fun q cA H1 hK1 hP1 hD1 hS1 => ?_)
        refine kk (α ++ [q]) _ _ H1 locs ls lv _ (List.prefix_append _ _) ⟨y_h_push q (List.prefix_append _ _) hh ⟨cA, tys.length, _, fun _ => none, hr, ?_, fun i hi => rfl, rfl⟩, y_dl_mono (List.prefix_append _ _) hl, y_ds_mk (y_new_ref q hh.1) (y_ds_mono (List.prefix_append _ _) h1), hls, hP1, hK1, hD1, hS1⟩
        simp

set_option maxHeartbeats 4000000 in
set_option maxRecDepth 100000 in
theorem y_st_spec {i : Nat} {nx r1 r2 r3 : Nat} (C : y_ctx κ sc p R s m args meth c cc own yn nL A) (hH : y_H κ hy) (hT : y_T κ tb) (hok : y_okop nL own yn cc (pc, (.invokespecial i, nx, r1, r2, r3)) = true) (hs : y_step sc κ.2.2.2 hy tb pc (.invokespecial i, nx, r1, r2, r3) lo st h k n = some S') (hk : S'.2.2.2.2.1 ≤ R.cells) (hn : S'.2.2.2.2.2 ≤ R.slots) (Z : y_Z κ D A s nL α tys ws H locs ls lv sv lo st h)
    (kk : ∀ α' tys' ws' H' locs' ls' lv' sv', α <+: α' → y_Z κ D A s nL α' tys' ws' H' locs' ls' lv' sv' S'.2.1 S'.2.2.1 S'.2.2.2.1 → W p l e R s m args below meth c H' locs' S'.2.2.2.2.1 S'.2.2.2.2.2 Q (F0 m S'.1 ls' sv')) : W p l e R s m args below meth c H locs k n Q (F0 m pc ls sv) := by
  obtain ⟨hx, hb, hml, hown, hts, hyn, hAO, hA, hRf, hRl, hsc⟩ := C
  obtain ⟨hh, hl, hst, hls, hP, hK, hD, hS⟩ := Z
  unfold y_okop y_okin at hok
  simp only [Bool.and_eq_true, decide_eq_true_eq] at hok
  obtain ⟨hdg, hok⟩ := hok
  unfold y_step at hs
  dsimp only at hs
  obtain ⟨rfl, hoi⟩ := hok
  rw [Nat.add_sub_cancel_left] at hdg
  rcases st with _ | ⟨a | a | _ | _ | j, r⟩ <;> try (cases hs; done)
  · try dsimp only at hs
    cases hc : (Nat.beq r3 99 && Nat.ble (y_cats r) 8) with
    | false => rw [hc] at hs; cases hs
    | true =>
      rw [hc] at hs
      cases hs
      simp only [Bool.and_eq_true] at hc
      simp only [Bool.or_eq_true, Bool.not_eq_true', Bool.and_eq_true] at hoi
      obtain ⟨b, zs, rfl, hb1, h2⟩ := y_ds_cr hst
      rcases hoi with hoi | ⟨q1, q2, q3⟩
      · rw [hc.1] at hoi; cases hoi
      · have h8 : (zs.map fun v => v.category).sum ≤ 8 := by rw [y_cats_ok h2]; exact y_ble.mp hc.2
        have h9 := lv_room (m := m) (pc := pc) (ls := ls) (rest := .ref b :: zs) h8
        refine W.objInit hx hb hown (hts _ (yM_ok q1)) (hts _ (yM_ok q2)) (hts _ (yM_ok q3)) rfl (by rw [hml]; exact hls.1) rfl hdg hRf (by omega) ?_
        refine W.eq (g2 := F0 m (pc + 3) ls zs) rfl ?_
        exact kk α tys ws H locs ls lv _ (List.prefix_refl _) ⟨hh, hl, h2, hls, hP, hK, hD, hS⟩

set_option maxHeartbeats 4000000 in
set_option maxRecDepth 100000 in
theorem y_st_stat {i : Nat} {nx r1 r2 r3 : Nat} (C : y_ctx κ sc p R s m args meth c cc own yn nL A) (hH : y_H κ hy) (hT : y_T κ tb) (hok : y_okop nL own yn cc (pc, (.invokestatic i, nx, r1, r2, r3)) = true) (hs : y_step sc κ.2.2.2 hy tb pc (.invokestatic i, nx, r1, r2, r3) lo st h k n = some S') (hk : S'.2.2.2.2.1 ≤ R.cells) (hn : S'.2.2.2.2.2 ≤ R.slots) (Z : y_Z κ D A s nL α tys ws H locs ls lv sv lo st h)
    (kk : ∀ α' tys' ws' H' locs' ls' lv' sv', α <+: α' → y_Z κ D A s nL α' tys' ws' H' locs' ls' lv' sv' S'.2.1 S'.2.2.1 S'.2.2.2.1 → W p l e R s m args below meth c H' locs' S'.2.2.2.2.1 S'.2.2.2.2.2 Q (F0 m S'.1 ls' sv')) : W p l e R s m args below meth c H locs k n Q (F0 m pc ls sv) := by
  obtain ⟨hx, hb, hml, hown, hts, hyn, hAO, hA, hRf, hRl, hsc⟩ := C
  obtain ⟨hh, hl, hst, hls, hP, hK, hD, hS⟩ := Z
  unfold y_okop y_okin at hok
  simp only [Bool.and_eq_true, decide_eq_true_eq] at hok
  obtain ⟨hdg, hok⟩ := hok
  unfold y_step at hs
  dsimp only at hs
  obtain ⟨rfl, hoi, hmx, hmn⟩ := hok
  rw [Nat.add_sub_cancel_left] at hdg
  cases h98 : Nat.beq r3 98 with
  | true =>
    rw [h98] at hs
    simp only [cond_true] at hs
    rcases st with _ | ⟨(k0 | k0) | k0, _ | ⟨(dp | dp) | dp, _ | ⟨a | a | _ | _ | j, _ | ⟨(sp | sp) | sp, _ | ⟨a2 | a2 | _ | _ | j0, r⟩⟩⟩⟩⟩ <;> try (cases hs; done)
    · try dsimp only at hs
      cases hg0 : h[j0]? with
      | none => rw [hg0] at hs; cases hs
      | some c0 =>
      rw [hg0] at hs
      rcases c0 with ⟨ci, fs⟩ | ⟨_ | kd, n0, m0⟩ | c0 <;> try (cases hs; done)
      · try dsimp only at hs
        cases hg : h[j]? with
        | none => rw [hg] at hs; cases hs
        | some c1 =>
        rw [hg] at hs
        rcases c1 with ⟨ci, fs⟩ | ⟨_ | kd, n1, m1⟩ | c1 <;> try (cases hs; done)
        · replace hs : (bif true && (Nat.ble (y_cats r) 8 && (Nat.ble (sp + k0) n0 && (Nat.ble (dp + k0) n1 && (Nat.blt sp 2147483648 && (Nat.blt dp 2147483648 && Nat.blt k0 2147483648))))) then some (pc + 3, lo, r, h.set j (.inr (.inl (0, n1, (List.range k0).map (fun x => (dp + x, y_get m0 (sp + x))) ++ m1))), k, n) else none) = some S' := hs
          cases hc : (true && (Nat.ble (y_cats r) 8 && (Nat.ble (sp + k0) n0 && (Nat.ble (dp + k0) n1 && (Nat.blt sp 2147483648 && (Nat.blt dp 2147483648 && Nat.blt k0 2147483648)))))) with
          | false => rw [hc] at hs; cases hs
          | true =>
            rw [hc] at hs
            cases hs
            simp only [Bool.and_eq_true] at hc
            obtain ⟨c1, c2, c3, c4, c5, c6, c7⟩ := hc
            have c3 := y_ble.mp c3
            have c4 := y_ble.mp c4
            have c5 := y_blt.mp c5
            have c6 := y_blt.mp c6
            have c7 := y_blt.mp c7
            simp only [Bool.or_eq_true, Bool.not_eq_true', Bool.and_eq_true] at hoi
            obtain ⟨z1, rfl, h1⟩ := y_ds_ci hst
            obtain ⟨z2, rfl, h2⟩ := y_ds_ci h1
            obtain ⟨b, z3, rfl, hb1, h3⟩ := y_ds_cr h2
            obtain ⟨z4, rfl, h4⟩ := y_ds_ci h3
            obtain ⟨b0, z5, rfl, hb0, h5⟩ := y_ds_cr h4
            rcases hoi with hoi | ⟨q1, q2, q3, q4⟩
            · rw [h98] at hoi; cases hoi
            · obtain ⟨b', e', g1, g2, cA, t0, f, g3, g4, rfl⟩ := hh.2.2 j _ hg
              have e2 : b' = b := Option.some.inj (g1.symm.trans hb1)
              subst e2
              obtain ⟨b2, e3, f1, f2, cA0, t1, f0, f3, f4, rfl⟩ := hh.2.2 j0 _ hg0
              have e4 : b2 = b0 := Option.some.inj (f1.symm.trans hb0)
              subst e4
              have h8 : (z5.map fun v => v.category).sum ≤ 8 := by rw [y_cats_ok h5]; exact y_ble.mp c2
              have h9 : nativeFrameWords "java/lang/System" "arraycopy" 5 = 7 := by decide +kernel
              refine va_copyi hx hb (by rw [hml]; exact hls.1.symm) hown (hts _ (yM_ok q1)) (hts _ (yM_ok q2)) (hts _ (yM_ok q3)) (hts _ (yM_ok q4)) hK hP hD hS j0 j t1 t0 f2 g2 f3 g3 rfl (nI_pos c5) (nI_pos c6) (nI_pos c7) ?_ ?_ (fun _ _ => rfl) hRf (by rw [h9]; omega) hdg (fun H1 locs1 hP1 hD1 hS1 => ?_)
              · rw [y_cl c5, y_cl c7]; exact c3
              · rw [y_cl c6, y_cl c7]; exact c4
              · rw [y_cl c5, y_cl c6, y_cl c7] at hP1 hD1
                exact kk α tys _ H1 locs1 ls lv _ (List.prefix_refl _) ⟨y_h_set hh hg g1 ⟨cA, t0, _, g3, y_get_cpy f4 g4 c3, rfl⟩, hl, h5, hls, hP1, hK, hD1, hS1⟩
  | false =>
    rw [h98] at hs
    simp only [cond_false] at hs
    obtain ⟨st', hm, rfl⟩ := Option.map_eq_some_iff.mp hs
    rcases st with _ | ⟨(y | y) | y, _ | ⟨(x | x) | x, r⟩⟩ <;> try (cases hm; done)
    · replace hm : (bif Nat.ble (y_cats r) 8 then (bif Nat.beq r3 96 then some (.inl (.inl (bif y_cmp 2 x y then y else x)) :: r) else bif Nat.beq r3 97 then some (.inl (.inl (bif y_cmp 2 y x then y else x)) :: r) else none) else none) = some st' := hm
      cases hc : Nat.ble (y_cats r) 8 with
      | false => rw [hc] at hm; cases hm
      | true =>
      rw [hc] at hm
      obtain ⟨z1, rfl, h1⟩ := y_ds_ci hst
      obtain ⟨z2, rfl, h2⟩ := y_ds_ci h1
      have h8 : (z2.map fun v => v.category).sum ≤ 8 := by rw [y_cats_ok h2]; exact y_ble.mp hc
      simp only [Bool.or_eq_true, Bool.not_eq_true', Bool.and_eq_true] at hmx hmn
      cases h96 : Nat.beq r3 96 with
      | true =>
        rw [h96] at hm
        cases hm
        rcases hmx with hmx | ⟨q1, q2, q3, q4⟩
        · rw [h96] at hmx; cases hmx
        · refine va_mmax hx hb (by rw [hml]; exact hls.1.symm) hown (hts _ (yM_ok q1)) (hts _ (yM_ok q2)) (hts _ (yM_ok q3)) (hts _ (yM_ok q4)) hRf (by omega) hk hn hdg (kk α tys ws H locs ls lv _ (List.prefix_refl _) ⟨hh, hl, y_ds_i ?_ h2, hls, hP, hK, hD, hS⟩)
          have h9 : nI x < nI y ↔ y_cmp 2 x y = true := y_cmp_ok 2 x y
          show nI (bif y_cmp 2 x y then y else x) = if nI x < nI y then nI y else nI x
          cases hq : y_cmp 2 x y with
          | true => rw [if_pos (h9.mpr hq)]; rfl
          | false => rw [if_neg (fun z => by rw [h9.mp z] at hq; cases hq)]; rfl
      | false =>
        rw [h96] at hm
        simp only [cond_false] at hm
        cases h97 : Nat.beq r3 97 with
        | false => rw [h97] at hm; cases hm
        | true =>
          rw [h97] at hm
          cases hm
          rcases hmn with hmn | ⟨q1, q2, q3, q4⟩
          · rw [h97] at hmn; cases hmn
          · refine va_mmin hx hb (by rw [hml]; exact hls.1.symm) hown (hts _ (yM_ok q1)) (hts _ (yM_ok q2)) (hts _ (yM_ok q3)) (hts _ (yM_ok q4)) hRf (by omega) hk hn hdg (kk α tys ws H locs ls lv _ (List.prefix_refl _) ⟨hh, hl, y_ds_i ?_ h2, hls, hP, hK, hD, hS⟩)
            have h9 : nI y < nI x ↔ y_cmp 2 y x = true := y_cmp_ok 2 y x
            show nI (bif y_cmp 2 y x then y else x) = if nI y < nI x then nI y else nI x
            cases hq : y_cmp 2 y x with
            | true => rw [if_pos (h9.mpr hq)]; rfl
            | false => rw [if_neg (fun z => by rw [h9.mp z] at hq; cases hq)]; rfl

end YHEAP
end
section
set_option maxHeartbeats 8000000 in
set_option maxRecDepth 100000 in
theorem y_step_mono {sc : Bool} {L : Nat} {hy : yF} {tb : yT} {pc k n : Nat} {o : yO} {lo : yL} {st : List yV} {h : List yC} {S' : yS} (hs : y_step sc L hy tb pc o lo st h k n = some S') : k ≤ S'.2.2.2.2.1 ∧ n ≤ S'.2.2.2.2.2 := by
  unfold y_step at hs
  dsimp only at hs
  simp only [Bool.cond_eq_ite] at hs
  split at hs <;> (repeat' split at hs) <;> first
    | (cases hs; done)
    | (cases hs; exact ⟨Nat.le_refl _, Nat.le_refl _⟩)
    | (cases hs; exact ⟨Nat.le_add_right _ _, Nat.le_add_right _ _⟩)
    | (obtain ⟨_, _, rfl⟩ := Option.map_eq_some_iff.mp hs; exact ⟨Nat.le_refl _, Nat.le_refl _⟩)

section YDISP
variable {p : Program} {l : Launch} {e : Env} {R : Room} {s : State} {m : MethodId} {args : Array Value} {below : List Frame} {meth : Method} {c : Code} {H : Heap} {locs : List Loc} {Q : State → Prop} {ls : Array Slot}
variable {κ : yK} {D : va_G} {A : Nat → Prop} {α : List Nat} {tys : List (ClassId × FieldType)} {ws : va_W} {lv : List (Nat × Value)} {sv : List Value} {lo : yL} {st : List yV} {h : List yC} {cc : ByteArray} {own yn : String} {nL : Nat} {hy : yF} {tb : yT} {sc : Bool} {pc k n : Nat} {S' : yS}

set_option maxHeartbeats 8000000 in
set_option maxRecDepth 100000 in
theorem y_step_ok {o : yO} (C : y_ctx κ sc p R s m args meth c cc own yn nL A) (hH : y_H κ hy) (hT : y_T κ tb) (hok : y_okop nL own yn cc (pc, o) = true) (hs : y_step sc κ.2.2.2 hy tb pc o lo st h k n = some S') (hk : S'.2.2.2.2.1 ≤ R.cells) (hn : S'.2.2.2.2.2 ≤ R.slots) (Z : y_Z κ D A s nL α tys ws H locs ls lv sv lo st h)
    (kk : ∀ α' tys' ws' H' locs' ls' lv' sv', α <+: α' → y_Z κ D A s nL α' tys' ws' H' locs' ls' lv' sv' S'.2.1 S'.2.2.1 S'.2.2.2.1 → W p l e R s m args below meth c H' locs' S'.2.2.2.2.1 S'.2.2.2.2.2 Q (F0 m S'.1 ls' sv')) : W p l e R s m args below meth c H locs k n Q (F0 m pc ls sv) := by
  obtain ⟨ins, nx, r1, r2, r3⟩ := o
  cases ins with
  | iconst _ => exact y_st_iconst C hH hT hok hs hk hn Z kk
  | bipush _ => exact y_st_bipush C hH hT hok hs hk hn Z kk
  | sipush _ => exact y_st_sipush C hH hT hok hs hk hn Z kk
  | ldc _ => exact y_st_ldc C hH hT hok hs hk hn Z kk
  | ldc_w _ => exact y_st_ldcw C hH hT hok hs hk hn Z kk
  | lconst _ => exact y_st_lconst C hH hT hok hs hk hn Z kk
  | ldc2_w _ => exact y_st_ldc2 C hH hT hok hs hk hn Z kk
  | iload_n _ => exact y_st_iloadn C hH hT hok hs hk hn Z kk
  | iload _ => exact y_st_iload C hH hT hok hs hk hn Z kk
  | lload_n _ => exact y_st_lloadn C hH hT hok hs hk hn Z kk
  | lload _ => exact y_st_lload C hH hT hok hs hk hn Z kk
  | aload_n _ => exact y_st_aloadn C hH hT hok hs hk hn Z kk
  | aload _ => exact y_st_aload C hH hT hok hs hk hn Z kk
  | istore_n _ => exact y_st_istoren C hH hT hok hs hk hn Z kk
  | istore _ => exact y_st_istore C hH hT hok hs hk hn Z kk
  | lstore_n _ => exact y_st_lstoren C hH hT hok hs hk hn Z kk
  | lstore _ => exact y_st_lstore C hH hT hok hs hk hn Z kk
  | astore_n _ => exact y_st_astoren C hH hT hok hs hk hn Z kk
  | iinc _ _ => exact y_st_iinc C hH hT hok hs hk hn Z kk
  | iadd => exact y_st_iadd C hH hT hok hs hk hn Z kk
  | isub => exact y_st_isub C hH hT hok hs hk hn Z kk
  | imul => exact y_st_imul C hH hT hok hs hk hn Z kk
  | iand => exact y_st_iand C hH hT hok hs hk hn Z kk
  | ior => exact y_st_ior C hH hT hok hs hk hn Z kk
  | ishl => exact y_st_ishl C hH hT hok hs hk hn Z kk
  | ishr => exact y_st_ishr C hH hT hok hs hk hn Z kk
  | iushr => exact y_st_iushr C hH hT hok hs hk hn Z kk
  | irem => exact y_st_irem C hH hT hok hs hk hn Z kk
  | i2c => exact y_st_i2c C hH hT hok hs hk hn Z kk
  | l2i => exact y_st_l2i C hH hT hok hs hk hn Z kk
  | i2l => exact y_st_i2l C hH hT hok hs hk hn Z kk
  | land => exact y_st_land C hH hT hok hs hk hn Z kk
  | lor => exact y_st_lor C hH hT hok hs hk hn Z kk
  | lcmp => exact y_st_lcmp C hH hT hok hs hk hn Z kk
  | lshl => exact y_st_lshl C hH hT hok hs hk hn Z kk
  | lushr => exact y_st_lushr C hH hT hok hs hk hn Z kk
  | dup => exact y_st_dup C hH hT hok hs hk hn Z kk
  | pop => exact y_st_pop C hH hT hok hs hk hn Z kk
  | dup2 => exact y_st_dup2 C hH hT hok hs hk hn Z kk
  | goto _ => exact y_st_goto C hH hT hok hs hk hn Z kk
  | ifCond _ _ => exact y_st_if C hH hT hok hs hk hn Z kk
  | if_icmp _ _ => exact y_st_icmp C hH hT hok hs hk hn Z kk
  | tableswitch _ _ _ _ => exact y_st_tsw C hH hT hok hs hk hn Z kk
  | lookupswitch _ _ => exact y_st_lsw C hH hT hok hs hk hn Z kk
  | getfield _ => exact y_st_getf C hH hT hok hs hk hn Z kk
  | putfield _ => exact y_st_putf C hH hT hok hs hk hn Z kk
  | iaload => exact y_st_iald C hH hT hok hs hk hn Z kk
  | baload => exact y_st_bald C hH hT hok hs hk hn Z kk
  | aaload => exact y_st_aald C hH hT hok hs hk hn Z kk
  | iastore => exact y_st_iast C hH hT hok hs hk hn Z kk
  | bastore => exact y_st_bast C hH hT hok hs hk hn Z kk
  | castore => exact y_st_cast C hH hT hok hs hk hn Z kk
  | aastore => exact y_st_aast C hH hT hok hs hk hn Z kk
  | arraylength => exact y_st_alen C hH hT hok hs hk hn Z kk
  | new _ => exact y_st_new C hH hT hok hs hk hn Z kk
  | anewarray _ => exact y_st_anewa C hH hT hok hs hk hn Z kk
  | invokespecial _ => exact y_st_spec C hH hT hok hs hk hn Z kk
  | invokestatic _ => exact y_st_stat C hH hT hok hs hk hn Z kk
  | newarray ty =>
    cases ty with
    | int => exact y_st_newa_int C hH hT hok hs hk hn Z kk
    | boolean => exact y_st_newa_boolean C hH hT hok hs hk hn Z kk
    | char => exact y_st_newa_char C hH hT hok hs hk hn Z kk
    | _ =>
      unfold y_okop at hok
      simp only [Bool.and_eq_true] at hok
      exact absurd hok.2 (by simp [y_okin])
  | _ => cases hs

end YDISP

/-- a method's answer -/
def y_dr (κ : yK) (α : List Nat) : Option yV → Option Value → Prop
  | none, v => v = none
  | some u, v => ∃ x, v = some x ∧ y_d κ α u = some x
def y_Q (κ : yK) (D : va_G) (α : List Nat) (A : Nat → Prop) (rv : Option yV) (h : List yC) : Array Value → State → Outcome → State → Prop := fun _ st oc t =>
  (∃ (v : Option Value) (α' : List Nat) (tys' : List (ClassId × FieldType)) (ws' : va_W), oc = .returned v ∧ y_dr κ α' rv v ∧ α <+: α' ∧ y_h κ α' tys' h ws' ∧ va_P D vwCl ws' t.heap ∧ va_K D vwCl tys' t ∧ va_D A ws') ∧ va_F A st t
def y_Pc (D : va_G) (tys : List (ClassId × FieldType)) (ws : va_W) (sz : Nat) : State → Prop := fun U =>
  U.heap.size = sz ∧ va_P D vwCl ws U.heap ∧ va_K D vwCl tys U ∧ va_D (fun _ => True) ws ∧ y_aux U
def y_rm (d c n : Nat) : Room := { frames := d + 1, cells := c, slots := n, locals := 60 * (d + 1) }
/-- an entry: what it says of the method is so -/
def y_okc (mt : List yE) (own : String) (o : yO) : Bool := match o.1 with
  | .invokevirtual i => match mt[o.2.2.1]? with
    | none => false
    | some e' => yM (.methodLink own i e'.1) && (yM (.instanceMethod e'.1) && (yM (.selects e'.1.cls e'.1 e'.1) && (yM (.initialized e'.1.cls) && (decide ((parseMethodDescriptor e'.1.desc).map (fun d => d.parameters.length) = some o.2.2.2.1) && (match vwCl[o.2.2.2.2]? with
      | none => false
      | some r => decide (r.1 = e'.1.cls))))))
  | .invokestatic i => bif y_nat o.2.2.2.2 then true else match mt[o.2.2.1]? with
    | none => false
    | some e' => yM (.methodLink own i e'.1) && (yM (.static e'.1) && (yM (.initialized e'.1.cls) && decide ((parseMethodDescriptor e'.1.desc).map (fun d => d.parameters.length) = some o.2.2.2.1)))
  | .invokespecial i => bif Nat.beq o.2.2.2.2 99 then true else match mt[o.2.2.1]? with
    | none => false
    | some e' => (yM (.methodLink own i e'.1) || zN.any (fun q => decide (q.1 = own ∧ q.2.1 = i ∧ q.2.2.1 = e'.1))) && (yM (.instanceMethod e'.1) && (decide (e'.1.name = "<init>") && (decide (e'.2.2.2.1 = none) && (yM (.initialized e'.1.cls) && decide ((parseMethodDescriptor e'.1.desc).map (fun d => d.parameters.length) = some o.2.2.2.1)))))
  | _ => true
def y_okb (mt : List yE) (e : yE) : Bool := e.2.2.2.2.all (fun q => y_okop e.2.2.1 e.1.cls e.1.name e.2.1 q && y_okc mt e.1.cls q.2)
def y_ok (mt : List yE) (e : yE) : Bool := yM (.code e.1 e.2.1 e.2.2.1 e.2.2.2.1) && (plainName e.1.cls && (decide (e.1.cls ≠ "java/lang/invoke/MethodHandle" ∧ e.1.cls ≠ "java/lang/invoke/VarHandle") && (Nat.ble e.2.2.1 40 && y_okb mt e)))
theorem y_find_mem {ps : List (Nat × yO)} {pc : Nat} {o : yO} (h : y_find ps pc = some o) : (pc, o) ∈ ps := by
  induction ps with
  | nil => cases h
  | cons q r ih =>
    unfold y_find at h
    cases hc : Nat.beq q.1 pc with
    | true =>
      rw [hc] at h
      have e1 := y_beq.mp hc
      have e2 : q.2 = o := Option.some.inj h
      rw [← e1, ← e2]
      exact List.mem_cons_self
    | false =>
      rw [hc] at h
      exact List.mem_cons_of_mem _ (ih h)

/-- the words of a method -/
def y_ws (e : yE) : List Cond := Cond.code e.1 e.2.1 e.2.2.1 e.2.2.2.1 :: yCT
/-- what a run of f steps at most says of the machine -/
def y_OK (l : Launch) (mt : List yE) (κ : yK) (D : va_G) (hy : yF) (tb : yT) (f : Nat) : Prop :=
  ∀ (sc : Bool) (d : Nat) (e : yE) (S S' : yS), y_okb mt e = true → y_go mt κ.2.2.2 hy tb f sc d e S = some S' → (S.2.2.2.2.1 ≤ S'.2.2.2.2.1 ∧ S.2.2.2.2.2 ≤ S'.2.2.2.2.2) ∧
    ∀ {p : Program} {en : Env} {R : Room} {s : State} {m : MethodId} {args : Array Value} {below : List Frame} {meth : Method} {c : Code} {H : Heap} {locs : List Loc} {Q : State → Prop} {ls : Array Slot} {A : Nat → Prop} {α : List Nat} {tys : List (ClassId × FieldType)} {ws : va_W} {lv : List (Nat × Value)} {sv : List Value},
      y_ctx κ sc p R s m args meth c e.2.1 e.1.cls e.1.name e.2.2.1 A → d + 1 ≤ R.frames → 60 * (d + 1) ≤ R.locals → S'.2.2.2.2.1 ≤ R.cells → S'.2.2.2.2.2 ≤ R.slots →
      y_Z κ D A s e.2.2.1 α tys ws H locs ls lv sv S.2.1 S.2.2.1 S.2.2.2.1 →
      (∀ α' tys' ws' H' locs' ls' lv' sv', α <+: α' → y_Z κ D A s e.2.2.1 α' tys' ws' H' locs' ls' lv' sv' S'.2.1 S'.2.2.1 S'.2.2.2.1 → W p l en R s m args below meth c H' locs' S'.2.2.2.2.1 S'.2.2.2.2.2 Q (F0 m S'.1 ls' sv')) →
      W p l en R s m args below meth c H locs S.2.2.2.2.1 S.2.2.2.2.2 Q (F0 m S.1 ls sv)
set_option maxHeartbeats 4000000 in
set_option maxRecDepth 100000 in
/-- a method's contract out of its run -/
theorem y_met {l : Launch} {mt : List yE} {κ : yK} {D : va_G} {hy : yF} {tb : yT} {f d : Nat} {e : yE} {av : List yV} {h : List yC} {S' : yS} {rv : Option yV} (hOK : y_OK l mt κ D hy tb f) (he : y_ok mt e = true) (hgo : y_go mt κ.2.2.2 hy tb f false d e (0, y_args 0 av, [], h, 0, 0) = some S') (hend : y_end e S' = some rv) (hav : y_cats av ≤ e.2.2.1)
    {α : List Nat} {tys : List (ClassId × FieldType)} {ws : va_W} {vals : List Value} (sz : Nat) (hh : y_h κ α tys h ws) (hvals : y_ds κ α av vals) :
    Met l e.1 (y_ws e) (y_rm d S'.2.2.2.2.1 S'.2.2.2.2.2) (va_Pc vals (y_Pc D tys ws sz)) (y_Q κ D α (va_A ws sz) rv S'.2.2.2.1) S'.2.2.2.2.1 S'.2.2.2.2.2 (va_A ws sz) := by
  have he0 := he
  unfold y_ok at he
  simp only [Bool.and_eq_true, decide_eq_true_eq] at he
  obtain ⟨e1, e2, e3, e4, e5⟩ := he
  refine Met.ofW (cc := e.2.1) (maxL := e.2.2.1) (ret := e.2.2.2.1) e2 rfl ?_
  intro p en s m args below meth c s₁ B hml hv
  obtain ⟨rfl, hsz, hP, hK, hD0, hAO⟩ := hv
  have hx := B.exec
  have hb := B.bytes
  have hr := B.returns
  have hts := atoms_spec (ws := y_ws e) B.pre
  have hts : ∀ w ∈ yCT, w.before _ s = true := fun w h => hts w (List.mem_cons_of_mem _ h)
  have hown : s.vm.findClass e.1.cls = some m.cls := findClass_of_methodNamed B.named
  have hlocks := B.notSynchronized
  have hin : meth.name = e.1.name := (name_of_methodNamed B.named B.method).1
  subst hsz
  have hD := hD0.self (sz := s.heap.size)
  have hA : ∀ q : Nat, s.heap.size ≤ q → va_A ws s.heap.size q := fun q h => Or.inr h
  have hS : va_S (va_A ws s.heap.size) s.heap s.heap [] := va_S.rf
  have hl := lv_entry vals (n := e.2.2.1) (by rw [y_sl_len hvals]; exact hav)
  rw [lg_entry_eq]
  generalize (lg_sl vals ++ List.replicate (e.2.2.1 - (lg_sl vals).length) Slot.unset).toArray = ls at hl ⊢
  have C : y_ctx κ false p (y_rm d S'.2.2.2.2.1 S'.2.2.2.2.2) s m vals.toArray meth c e.2.1 e.1.cls e.1.name e.2.2.1 (va_A ws s.heap.size) :=
    ⟨hx, hb, hml, hown, hts, fun h => hin.trans h, hAO, hA, by show 1 ≤ d + 1; omega, by show 60 ≤ 60 * (d + 1); omega, fun h => by cases h⟩
  refine (hOK false d e _ _ e5 hgo).2 C (Nat.le_refl _) (Nat.le_refl _) (Nat.le_refl _) (Nat.le_refl _) ⟨hh, y_dl_args 0 hvals, y_ds_0, hl, hP, hK, hD, hS⟩ ?_
  intro α' tys' ws' H' locs' ls' lv' sv' hα ⟨hh', hl', hst', hls', hP', hK', hD', hS'⟩
  obtain ⟨pc', lo', st', h', k', n'⟩ := S'
  dsimp only at *
  unfold y_end at hend
  dsimp only at hend
  cases hf : y_find e.2.2.2.2 pc' with
  | none => rw [hf] at hend; cases hend
  | some o =>
    rw [hf] at hend
    have hmem := List.all_eq_true.mp e5 _ (y_find_mem hf)
    simp only [Bool.and_eq_true] at hmem
    have hop := hmem.1
    obtain ⟨ins, nx, r1, r2, r3⟩ := o
    unfold y_okop y_okin at hop
    simp only [Bool.and_eq_true, decide_eq_true_eq] at hop
    obtain ⟨hdg, hin2⟩ := hop
    have fin : ∀ (v : Option Value), y_dr κ α' rv v → ∀ t : State, t.heap = H' → s.WarmedH t.vm → y_Q κ D α (va_A ws s.heap.size) rv h' vals.toArray s (.returned v) t := fun v hv t ht hW =>
      ⟨⟨v, α', tys', ws', rfl, hv, hα, hh', by rw [ht]; exact hP', va_K.moved hW.alike hK', hD'⟩, hS'.F ht⟩
    dsimp only at hend hdg hin2
    split at hend
    · next a =>
      have hin3 := of_decide_eq_true hin2
      subst hin3
      rw [Nat.add_sub_cancel_left] at hdg
      obtain ⟨ys, rfl, h2⟩ := y_ds_ci hst'
      rw [y_ds_nil h2]
      split at hend
      · next hret =>
        cases hend
        exact W.iret hx hb (hr.trans hret) (fun t ht hW => fin _ ⟨_, rfl, rfl⟩ t ht hW) hS'.2.2 hdg
      · next hret =>
        split at hend
        · next b =>
          cases hc : Nat.ble b 1 with
          | false => rw [hc] at hend; cases hend
          | true =>
            rw [hc] at hend
            cases hend
            have h3 := y_ble.mp hc
            have h4 : b = 0 ∨ b = 1 := by omega
            refine W.zret hx hb (hr.trans hret) ?_ (fun t ht hW => fin _ ⟨_, rfl, rfl⟩ t ht hW) hS'.2.2 hdg
            rcases h4 with rfl | rfl
            · exact (by decide : narrow .boolean (.int (nI 0)) = .int (nI 0))
            · exact (by decide : narrow .boolean (.int (nI 1)) = .int (nI 1))
        · cases hend
      · next hret =>
        split at hend
        · next b =>
          cases hc : Nat.ble b 65535 with
          | false => rw [hc] at hend; cases hend
          | true =>
            rw [hc] at hend
            cases hend
            have h3 := y_ble.mp hc
            exact W.zret hx hb (hr.trans hret) (pk_charN (by omega)).1 (fun t ht hW => fin _ ⟨_, rfl, rfl⟩ t ht hW) hS'.2.2 hdg
        · cases hend
      · cases hend
    · next a =>
      have hin3 := of_decide_eq_true hin2
      subst hin3
      rw [Nat.add_sub_cancel_left] at hdg
      obtain ⟨ys, rfl, h2⟩ := y_ds_cl hst'
      rw [y_ds_nil h2]
      split at hend
      · next hret =>
        cases hend
        exact W.lret hx hb (hr.trans hret) (fun t ht hW => fin _ ⟨_, rfl, rfl⟩ t ht hW) hS'.2.2 hdg
      · cases hend
    · next =>
      have hin3 := of_decide_eq_true hin2
      subst hin3
      rw [Nat.add_sub_cancel_left] at hdg
      rw [y_ds_nil hst']
      split at hend
      · next hret =>
        cases hend
        exact W.vret hx hb (hr.trans hret) (fun t ht hW => fin _ rfl t ht hW) hS'.2.2 hdg
      · cases hend
    · cases hend
end
section
theorem y_split_s {na ci : Nat} {h : List yC} {st av rest : List yV} (hs : y_split 2 na ci h st = some (av, rest)) : na ≤ st.length ∧ av = (st.take na).reverse ∧ rest = st.drop na := by
  unfold y_split at hs
  replace hs : (bif Nat.ble na st.length then some ((st.take na).reverse, st.drop na) else none) = some (av, rest) := hs
  cases hc : Nat.ble na st.length with
  | false => rw [hc] at hs; cases hs
  | true =>
    rw [hc] at hs
    cases hs
    exact ⟨y_ble.mp hc, rfl, rfl⟩
theorem y_split_v {kd na ci : Nat} {h : List yC} {st av rest : List yV} (hk : Nat.beq kd 2 = false) (hs : y_split kd na ci h st = some (av, rest)) :
    ∃ (i : Nat) (fs : List yV), st.drop na = .inr (.inr (some (i + 1))) :: rest ∧ h[i]? = some (.inl (ci, fs)) ∧ av = .inr (.inr (some (i + 1))) :: (st.take na).reverse := by
  unfold y_split at hs
  rw [hk] at hs
  replace hs : (match st.drop na with
    | .inr (.inr (some (i + 1))) :: r => match h[i]? with
      | some (.inl (cj, _)) => bif Nat.beq cj ci then some (.inr (.inr (some (i + 1))) :: (st.take na).reverse, r) else none
      | _ => none
    | _ => none) = some (av, rest) := hs
  split at hs
  · next i r hd =>
    split at hs
    · next cj fs hg =>
      cases hc : Nat.beq cj ci with
      | false => rw [hc] at hs; cases hs
      | true =>
        rw [hc] at hs
        cases hs
        have e := y_beq.mp hc
        subst e
        exact ⟨i, fs, hd, hg, rfl⟩
    · cases hs
  · cases hs
section YALL
variable {p : Program} {l : Launch} {en : Env} {R : Room} {s : State} {m : MethodId} {args : Array Value} {below : List Frame} {meth : Method} {c : Code} {H : Heap} {locs : List Loc} {Q : State → Prop} {ls : Array Slot}
variable {κ : yK} {D : va_G} {A : Nat → Prop} {α : List Nat} {tys : List (ClassId × FieldType)} {ws : va_W}
theorem y_callW {cells slots mc ms pc : Nat} {st0 rest : List Value} {a : Array Value} {rv : Option yV} {h : List yC}
    (hr : va_Run p l en R s m args below meth c H locs cells slots mc ms (F0 m pc ls st0) rest (y_Q κ D α (va_A ws H.size) rv h a) (va_A ws H.size)) (hS : va_S A s.heap H locs) (hA : ∀ q, va_A ws H.size q → A q)
    (kk : ∀ (v : Option Value) (α' : List Nat) (tys' : List (ClassId × FieldType)) (ws' : va_W) (H1 : Heap) (locs1 : List Loc), y_dr κ α' rv v → α <+: α' → y_h κ α' tys' h ws' → va_P D vwCl ws' H1 → va_K D vwCl tys' s → va_D A ws' → va_S A s.heap H1 locs1 →
      W p l en R s m args below meth c H1 locs1 (cells + mc) (slots + ms) Q (F0 m (pc + 3) ls (v.toList ++ rest))) : W p l en R s m args below meth c H locs cells slots Q (F0 m pc ls st0) := by
  intro T hT X
  obtain ⟨v, st₀, t, T', L, h0, X', hL, e1, e2, ⟨⟨v', α', tys', ws', hv, hdr, hα, hh, hP, hK, hD⟩, hz, hk⟩, st⟩ := hr T hT X
  cases hv
  rw [h0] at hz hk
  have hvm : s.vm.Alike t.vm := by rw [← e2]; exact X'.warmed.alike
  obtain ⟨t2, a1, b1⟩ := kk v α' tys' ws' T'.heap (locs ++ L) hdr hα hh (by rw [e1]; exact hP) (va_K.moved hvm.symm hK) (hD.weaken fun k q _ hq => hA q.1 (by rw [h0] at *; exact hq))
    ⟨Nat.le_trans hS.1 (by rw [e1]; exact hz), fun q h1 h2 => by rw [e1, hk q (Nat.lt_of_lt_of_le h1 hS.1) (fun z => h2 (hA q z))]; exact hS.2.1 q h1 h2, fun q hq => by
      rcases List.mem_append.mp hq with h | h
      · exact hS.2.2 q h
      · exact hA _ (hL q h)⟩ T' rfl X'
  exact ⟨t2, st t2 a1, b1⟩
end YALL
theorem y_blind (D : va_G) (tys : List (ClassId × FieldType)) (ws : va_W) (sz : Nat) (vals : List Value) : FrameBlind (va_Pc vals (y_Pc D tys ws sz)) := fun a U g mk q => by
  obtain ⟨q0, q1, qP, qK, qD, qA⟩ := q
  exact ⟨q0, q1, qP, va_K.moved (u := U) (U := U.calling g mk a) (Vm.Alike.refl U.vm) qK, qD, y_aux_call qA⟩
theorem y_good4 {e' : yE} {a b c d : Cond} (hc : yM (.code e'.1 e'.2.1 e'.2.2.1 e'.2.2.2.1) = true) (h1 : yM a = true) (h2 : yM b = true) (h3 : yM c = true) (h4 : yM d = true) : GoodIn yCT ([a, b, c, d] ++ y_ws e') := by
  intro w hw
  rcases List.mem_append.mp hw with h | h
  · simp only [List.mem_cons, List.not_mem_nil, or_false] at h
    rcases h with rfl | rfl | rfl | rfl
    · exact yCT_self _ (yM_ok h1)
    · exact yCT_self _ (yM_ok h2)
    · exact yCT_self _ (yM_ok h3)
    · exact yCT_self _ (yM_ok h4)
  · rcases List.mem_cons.mp h with rfl | h
    · exact yCT_self _ (yM_ok hc)
    · exact yCT_self _ h
theorem y_good3 {e' : yE} {a b c : Cond} (hc : yM (.code e'.1 e'.2.1 e'.2.2.1 e'.2.2.2.1) = true) (h1 : yM a = true) (h2 : yM b = true) (h3 : yM c = true) : GoodIn yCT ([a, b, c] ++ y_ws e') := by
  intro w hw
  rcases List.mem_append.mp hw with h | h
  · simp only [List.mem_cons, List.not_mem_nil, or_false] at h
    rcases h with rfl | rfl | rfl
    · exact yCT_self _ (yM_ok h1)
    · exact yCT_self _ (yM_ok h2)
    · exact yCT_self _ (yM_ok h3)
  · rcases List.mem_cons.mp h with rfl | h
    · exact yCT_self _ (yM_ok hc)
    · exact yCT_self _ h
theorem y_good0 {e' : yE} (hc : yM (.code e'.1 e'.2.1 e'.2.2.1 e'.2.2.2.1) = true) : GoodIn yCT (y_ws e') := by
  intro w h
  rcases List.mem_cons.mp h with rfl | h
  · exact yCT_self _ (yM_ok hc)
  · exact yCT_self _ h
set_option maxHeartbeats 8000000 in
set_option maxRecDepth 100000 in
theorem y_all {l : Launch} {mt : List yE} {κ : yK} {D : va_G} {hy : yF} {tb : yT} (hH : y_H κ hy) (hT : y_T κ tb) (hmt : ∀ e ∈ mt, y_ok mt e = true) : ∀ f : Nat, y_OK l mt κ D hy tb f := by
  intro f
  induction f with
  | zero =>
    intro sc d e S S' he hgo
    cases hgo
  | succ f ih =>
    intro sc d e S S' he hgo
    have he0 := he
    unfold y_okb at he
    have e5 := he
    unfold y_go at hgo
    cases hf : y_find e.2.2.2.2 S.1 with
    | none =>
      rw [hf] at hgo
      cases hgo
      exact ⟨⟨Nat.le_refl _, Nat.le_refl _⟩, fun C h1 h2 h3 h4 Z kk => kk _ _ _ _ _ _ _ _ (List.prefix_refl _) Z⟩
    | some o =>
      rw [hf] at hgo
      dsimp only at hgo
      have hmem := List.all_eq_true.mp e5 _ (y_find_mem hf)
      simp only [Bool.and_eq_true] at hmem
      obtain ⟨hop, hoc⟩ := hmem
      cases hret : y_isRet o with
      | true =>
        rw [hret] at hgo
        cases hgo
        exact ⟨⟨Nat.le_refl _, Nat.le_refl _⟩, fun C h1 h2 h3 h4 Z kk => kk _ _ _ _ _ _ _ _ (List.prefix_refl _) Z⟩
      | false =>
        rw [hret] at hgo
        replace hgo : (bif Nat.beq (y_kind o) 0 then (y_step sc κ.2.2.2 hy tb S.1 o S.2.1 S.2.2.1 S.2.2.2.1 S.2.2.2.2.1 S.2.2.2.2.2).bind (fun S' => y_go mt κ.2.2.2 hy tb f sc d e S') else
          bif Nat.beq d 0 then none else
          (mt[o.2.2.1]?).bind fun e' => (y_split (y_kind o) o.2.2.2.1 o.2.2.2.2 S.2.2.2.1 S.2.2.1).bind fun ar =>
            bif Nat.ble (y_cats ar.2) 8 && Nat.ble (y_cats ar.1) e'.2.2.1 then
              (y_go mt κ.2.2.2 hy tb f false (d - 1) e' (0, y_args 0 ar.1, [], S.2.2.2.1, 0, 0)).bind fun S1 => (y_end e' S1).bind fun rv =>
                y_go mt κ.2.2.2 hy tb f sc d e (o.2.1, S.2.1, y_psh rv ar.2, S1.2.2.2.1, S.2.2.2.2.1 + S1.2.2.2.2.1, S.2.2.2.2.2 + S1.2.2.2.2.2)
            else none) = some S' := hgo
        cases hkd0 : Nat.beq (y_kind o) 0 with
        | true =>
          rw [hkd0] at hgo
          obtain ⟨S1, hst, hgo⟩ := Option.bind_eq_some_iff.mp hgo
          obtain ⟨⟨m1, m2⟩, r1⟩ := ih sc d e S1 S' he0 hgo
          obtain ⟨g1, g2⟩ := y_step_mono hst
          refine ⟨⟨Nat.le_trans g1 m1, Nat.le_trans g2 m2⟩, fun C h1 h2 h3 h4 Z kk => ?_⟩
          exact y_step_ok C hH hT hop hst (Nat.le_trans m1 h3) (Nat.le_trans m2 h4) Z (fun α' tys' ws' H' locs' ls' lv' sv' hα Z' => r1 C h1 h2 h3 h4 Z' (fun α2 tys2 ws2 H2 locs2 ls2 lv2 sv2 hα2 Z2 => kk α2 tys2 ws2 H2 locs2 ls2 lv2 sv2 (List.IsPrefix.trans hα hα2) Z2))
        | false =>
          rw [hkd0] at hgo
          obtain ⟨kd, hkd⟩ : ∃ kd, y_kind o = kd + 1 := by
            cases hk : y_kind o with
            | zero => rw [hk] at hkd0; cases hkd0
            | succ kd => exact ⟨kd, rfl⟩
          cases hd0 : Nat.beq d 0 with
          | true => rw [hd0] at hgo; cases hgo
          | false =>
          rw [hd0] at hgo
          obtain ⟨d', rfl⟩ : ∃ d', d = d' + 1 := by
            cases d with
            | zero => cases hd0
            | succ d' => exact ⟨d', rfl⟩
          obtain ⟨e', hm, hgo⟩ := Option.bind_eq_some_iff.mp hgo
          obtain ⟨⟨av, rest⟩, hsp, hgo⟩ := Option.bind_eq_some_iff.mp hgo
          rw [hkd] at hsp
          cases hcc : (Nat.ble (y_cats rest) 8 && Nat.ble (y_cats av) e'.2.2.1) with
          | false => dsimp only at hgo; rw [hcc] at hgo; cases hgo
          | true =>
          dsimp only at hgo
          rw [hcc] at hgo
          simp only [Bool.and_eq_true] at hcc
          have hc8 := y_ble.mp hcc.1
          have hcav := y_ble.mp hcc.2
          obtain ⟨S1, hg1, hgo⟩ := Option.bind_eq_some_iff.mp hgo
          obtain ⟨rv, hend, hgo⟩ := Option.bind_eq_some_iff.mp hgo
          rw [Nat.add_sub_cancel] at hg1
          obtain ⟨⟨m1, m2⟩, r1⟩ := ih sc (d' + 1) e _ S' he0 hgo
          dsimp only at m1 m2 r1
          refine ⟨⟨by omega, by omega⟩, fun {p en R s m args below meth c H locs Q ls A α tys ws lv sv} C h1 h2 h3 h4 Z kk => ?_⟩
          have C0 := C
          obtain ⟨hx, hb, hml, hown, hts, hyn, hAO, hA, hRf, hRl, hsc⟩ := C
          obtain ⟨hh, hl, hst, hls, hP, hK, hD, hS⟩ := Z
          have he' := hmt e' (List.mem_of_getElem? hm)
          have he'' := he'
          unfold y_ok at he''
          simp only [Bool.and_eq_true, decide_eq_true_eq] at he''
          obtain ⟨f1, f2, f3, f4, f5⟩ := he''
          have f4 := y_ble.mp f4
          have hAA : ∀ q, va_A ws H.size q → A q := by
            intro q hq
            rcases hq with ⟨k, e0, hk⟩ | hq
            · exact hD.2 k (q, e0) hk
            · exact hA q (Nat.le_trans hS.1 hq)
          have hR : (y_rm d' S1.2.2.2.2.1 S1.2.2.2.2.2).frames + 1 ≤ R.frames ∧ 8 + (e'.2.2.1 + 11) + (y_rm d' S1.2.2.2.2.1 S1.2.2.2.2.2).locals ≤ R.locals := by
            refine ⟨h1, ?_⟩
            show 8 + (e'.2.2.1 + 11) + 60 * (d' + 1) ≤ R.locals
            omega
          have hpre : ∀ vals : List Value, ∀ U : State, U.heap = H → s.WarmedH U.vm → va_Pc vals (y_Pc D tys ws H.size) vals.toArray U := fun vals U hU hW => ⟨rfl, by rw [hU], by rw [hU]; exact hP, va_K.moved hW.alike hK, hD.weaken (fun _ _ _ _ => trivial), y_aux_warm hW hAO⟩
          have go : ∀ (v : Option Value) (ys : List Value), y_ds κ α rest ys → ∀ (α' : List Nat) (tys' : List (ClassId × FieldType)) (ws' : va_W) (H1 : Heap) (locs1 : List Loc), y_dr κ α' rv v → α <+: α' → y_h κ α' tys' S1.2.2.2.1 ws' → va_P D vwCl ws' H1 → va_K D vwCl tys' s → va_D A ws' → va_S A s.heap H1 locs1 →
              W p l en R s m args below meth c H1 locs1 (S.2.2.2.2.1 + S1.2.2.2.2.1) (S.2.2.2.2.2 + S1.2.2.2.2.2) Q (F0 m o.2.1 ls (v.toList ++ ys)) := by
            intro v ys hys α' tys' ws' H1 locs1 hdr hα hh1 hP1 hK1 hD1 hS1
            refine r1 C0 h1 h2 h3 h4 ⟨hh1, y_dl_mono hα hl, ?_, hls, hP1, hK1, hD1, hS1⟩ (fun α2 tys2 ws2 H2 locs2 ls2 lv2 sv2 hα2 Z2 => kk α2 tys2 ws2 H2 locs2 ls2 lv2 sv2 (List.IsPrefix.trans hα hα2) Z2)
            cases rv with
            | none =>
              have e9 : v = none := hdr
              subst e9
              exact y_ds_mono hα hys
            | some u =>
              obtain ⟨x, rfl, hx2⟩ := hdr
              exact y_ds_mk hx2 (y_ds_mono hα hys)
          obtain ⟨ins, nx, q1, q2, q3⟩ := o
          dsimp only at hm hsp go hgo r1
          unfold y_okop y_okin at hop
          simp only [Bool.and_eq_true, decide_eq_true_eq] at hop
          obtain ⟨hdg, hin2⟩ := hop
          try dsimp only at hdg hin2
          cases ins with
          | invokevirtual i =>
            have hkd1 : kd = 0 := (Nat.succ.inj hkd).symm
            subst hkd1
            have hin3 := of_decide_eq_true hin2
            subst hin3
            rw [Nat.add_sub_cancel_left] at hdg
            obtain ⟨j, fs, hd1, hd2, rfl⟩ := y_split_v rfl hsp
            have hdrop := y_ds_drop q2 hst
            rw [hd1] at hdrop
            obtain ⟨b, ys, hd3, hb1, hys⟩ := y_ds_cr hdrop
            obtain ⟨b', e9, g1, g2, vs, g3, rfl⟩ := hh.2.2 j _ hd2
            have e10 : b' = b := Option.some.inj (g1.symm.trans hb1)
            subst e10
            unfold y_okc at hoc
            dsimp only at hoc
            rw [hm] at hoc
            simp only [Bool.and_eq_true, decide_eq_true_eq] at hoc
            obtain ⟨w1, w2, w3, w4, w5, w6⟩ := hoc
            cases hr : vwCl[q3]? with
            | none => rw [hr] at w6; cases w6
            | some rr =>
            rw [hr] at w6
            have w6 := of_decide_eq_true w6
            have hvals : y_ds κ α (.inr (.inr (some (j + 1))) :: (S.2.2.1.take q2).reverse) (.ref b' :: (sv.take q2).reverse) := y_ds_mk (Option.map_eq_some_iff.mpr ⟨b', hb1, rfl⟩) (y_ds_rev (y_ds_take q2 hst))
            have hM := y_met ih he' hg1 hend hcav H.size hh hvals
            have hlen : (sv.take q2).length = q2 := by
              rw [List.length_take]
              have h9 : (sv.drop q2).length = (Value.ref b' :: ys).length := by rw [hd3]
              rw [List.length_drop, List.length_cons] at h9
              omega
            have hstk : sv = (sv.take q2).reverse.reverse ++ .ref b' :: ys := by
              rw [List.reverse_reverse, ← hd3, List.take_append_drop]
            have hrecv := va_recv hK hP hr g2
            rw [w6] at hrecv
            refine y_callW (va_runV (As := (sv.take q2).reverse) (rest := ys) ⟨hx, hb, hml, hown, hts⟩ hM (cwV q2 hts (y_good4 f1 w1 w2 w3 w4) rfl rfl rfl ⟨rfl, f3.1, f3.2, w5⟩ hR) ⟨y_blind D tys ws H.size _, hrecv, hpre _⟩ rfl (by rw [List.length_reverse]; exact hlen) hls.1 hstk (lv_room (by rw [y_cats_ok hys]; exact hc8)) hdg ⟨by omega, by omega⟩) hS hAA (fun v α' tys' ws' H1 locs1 a1 a2 a3 a4 a5 a6 a7 => go v ys hys α' tys' ws' H1 locs1 a1 a2 a3 a4 a5 a6 a7)
          | invokestatic i =>
            have h98 : y_nat q3 = false := by
              cases h98 : y_nat q3 with
              | false => rfl
              | true =>
                have hk2 : (bif y_nat q3 then 0 else 2) = kd + 1 := hkd
                rw [h98] at hk2
                cases hk2
            have hkd1 : kd = 1 := by
              have hk2 : (bif y_nat q3 then 0 else 2) = kd + 1 := hkd
              rw [h98] at hk2
              exact (Nat.succ.inj hk2).symm
            subst hkd1
            simp only [Bool.and_eq_true] at hin2
            have hin3 := of_decide_eq_true hin2.1
            subst hin3
            rw [Nat.add_sub_cancel_left] at hdg
            obtain ⟨hlen0, rfl, rfl⟩ := y_split_s hsp
            unfold y_okc at hoc
            dsimp only at hoc
            rw [h98, hm] at hoc
            simp only [cond_false, Bool.and_eq_true, decide_eq_true_eq] at hoc
            obtain ⟨w1, w2, w3, w5⟩ := hoc
            have hvals := y_ds_rev (y_ds_take q2 hst)
            have hM := y_met ih he' hg1 hend hcav H.size hh hvals
            have hlen : (sv.take q2).length = q2 := by
              rw [List.length_take, ← y_ds_len hst]
              omega
            have hstk : sv = (sv.take q2).reverse.reverse ++ sv.drop q2 := by
              rw [List.reverse_reverse, List.take_append_drop]
            have hys := y_ds_drop q2 hst
            refine y_callW (va_runS (As := (sv.take q2).reverse) (rest := sv.drop q2) ⟨hx, hb, hml, hown, hts⟩ hM (va_cwS q2 hts (y_good3 f1 w1 w2 w3) rfl rfl rfl ⟨f3.1, f3.2, w5⟩ hR) ⟨y_blind D tys ws H.size _, hpre _⟩ rfl (by rw [List.length_reverse]; exact hlen) hls.1 hstk (lv_room (by rw [y_cats_ok hys]; exact hc8)) hdg ⟨by omega, by omega⟩) hS hAA (fun v α' tys' ws' H1 locs1 a1 a2 a3 a4 a5 a6 a7 => go v _ hys α' tys' ws' H1 locs1 a1 a2 a3 a4 a5 a6 a7)
          | invokespecial i =>
            have h99 : Nat.beq q3 99 = false := by
              cases h99 : Nat.beq q3 99 with
              | false => rfl
              | true =>
                have hk2 : (bif Nat.beq q3 99 then 0 else 3) = kd + 1 := hkd
                rw [h99] at hk2
                cases hk2
            have hkd1 : kd = 2 := by
              have hk2 : (bif Nat.beq q3 99 then 0 else 3) = kd + 1 := hkd
              rw [h99] at hk2
              exact (Nat.succ.inj hk2).symm
            subst hkd1
            simp only [Bool.and_eq_true] at hin2
            have hin3 := of_decide_eq_true hin2.1
            subst hin3
            rw [Nat.add_sub_cancel_left] at hdg
            obtain ⟨j, fs, hd1, hd2, rfl⟩ := y_split_v rfl hsp
            have hdrop := y_ds_drop q2 hst
            rw [hd1] at hdrop
            obtain ⟨b, ys, hd3, hb1, hys⟩ := y_ds_cr hdrop
            unfold y_okc at hoc
            dsimp only at hoc
            rw [h99, hm] at hoc
            simp only [cond_false, Bool.and_eq_true, Bool.or_eq_true, decide_eq_true_eq] at hoc
            obtain ⟨w1, w2, w3, w4, w5, w6⟩ := hoc
            have hvals : y_ds κ α (.inr (.inr (some (j + 1))) :: (S.2.2.1.take q2).reverse) (.ref b :: (sv.take q2).reverse) := y_ds_mk (Option.map_eq_some_iff.mpr ⟨b, hb1, rfl⟩) (y_ds_rev (y_ds_take q2 hst))
            have hM := y_met ih he' hg1 hend hcav H.size hh hvals
            have hlen : (sv.take q2).length = q2 := by
              rw [List.length_take]
              have h9 : (sv.drop q2).length = (Value.ref b :: ys).length := by rw [hd3]
              rw [List.length_drop, List.length_cons] at h9
              omega
            have hstk : sv = (sv.take q2).reverse.reverse ++ .ref b :: ys := by
              rw [List.reverse_reverse, ← hd3, List.take_append_drop]
            have hcw := y_good0 f1
            unfold y_ws at hcw hM
            rw [w4] at hcw hM
            rcases w1 with w1 | w1
            · refine y_callW (va_runI (As := (sv.take q2).reverse) (rest := ys) ⟨hx, hb, hml, hown, hts⟩ hM (cwI q2 hts hcw rfl rfl rfl (hts _ (yM_ok w5)) (hts _ (yM_ok w1)) (hts _ (yM_ok w2)) w3 ⟨f3.1, f3.2, w6⟩ hR) ⟨y_blind D tys ws H.size _, hpre _⟩ rfl (by rw [List.length_reverse]; exact hlen) hls.1 hstk (lv_room (by rw [y_cats_ok hys]; exact hc8)) hdg ⟨by omega, by omega⟩) hS hAA (fun v α' tys' ws' H1 locs1 a1 a2 a3 a4 a5 a6 a7 => go v ys hys α' tys' ws' H1 locs1 a1 a2 a3 a4 a5 a6 a7)
            · obtain ⟨q, hq, hqe⟩ := List.any_eq_true.mp w1
              obtain ⟨z1, z2, z3⟩ := of_decide_eq_true hqe
              have hnw := hAO.2 q hq
              rw [z1, z2, z3] at hnw
              refine y_callW (va_runIN (As := (sv.take q2).reverse) (rest := ys) ⟨hx, hb, hml, hown, hts⟩ hM ⟨va_cnB q2 hts hcw rfl rfl rfl hnw (hts _ (yM_ok w5)) ⟨f3.1, f3.2, w6⟩ hR, w3, hts _ (yM_ok w2)⟩ ⟨y_blind D tys ws H.size _, hpre _⟩ rfl (by rw [List.length_reverse]; exact hlen) hls.1 hstk (lv_room (by rw [y_cats_ok hys]; exact hc8)) hdg ⟨by omega, by omega⟩) hS hAA (fun v α' tys' ws' H1 locs1 a1 a2 a3 a4 a5 a6 a7 => go v ys hys α' tys' ws' H1 locs1 a1 a2 a3 a4 a5 a6 a7)
          | _ => cases hkd
end
section
/-! the methods that a call on a fresh object reaches, as the symbolic run has them -/
def zX8_init : yE := (yX8_init, cX8_init, 1, none, [(0, .aload_n 0, 1, 0, 0, 0), (1, .invokespecial 3, 4, 0, 0, 99), (4, .aload_n 0, 5, 0, 0, 0), (5, .new 9, 8, 2, 7, 124), (8, .dup, 9, 0, 0, 0), (9, .invokespecial 11, 12, 34, 0, 2), (12, .putfield 12, 15, 7, 0, 2), (15, .aload_n 0, 16, 0, 0, 0), (16, .new 16, 19, 0, 3, 1), (19, .dup, 20, 0, 0, 0), (20, .invokespecial 18, 23, 27, 0, 0), (23, .putfield 19, 26, 7, 1, 2), (26, .aload_n 0, 27, 0, 0, 0), (27, .iconst 2, 28, 2, 0, 0), (28, .anewarray 9, 31, 2, 0, 0), (31, .dup, 32, 0, 0, 0), (32, .iconst 0, 33, 0, 0, 0), (33, .new 9, 36, 2, 7, 124), (36, .dup, 37, 0, 0, 0), (37, .invokespecial 11, 40, 34, 0, 2), (40, .aastore, 41, 0, 0, 0), (41, .dup, 42, 0, 0, 0), (42, .iconst 1, 43, 1, 0, 0), (43, .new 9, 46, 2, 7, 124), (46, .dup, 47, 0, 0, 0), (47, .invokespecial 11, 50, 34, 0, 2), (50, .aastore, 51, 0, 0, 0), (51, .putfield 23, 54, 7, 2, 2), (54, .aload_n 0, 55, 0, 0, 0), (55, .iconst 2, 56, 2, 0, 0), (56, .newarray .boolean, 58, 1, 0, 0), (58, .putfield 27, 61, 7, 3, 2), (61, .aload_n 0, 62, 0, 0, 0), (62, .new 31, 65, 3, 2, 1), (65, .dup, 66, 0, 0, 0), (66, .invokespecial 33, 69, 49, 0, 3), (69, .putfield 34, 72, 7, 4, 2), (72, .aload_n 0, 73, 0, 0, 0), (73, .new 38, 76, 5, 8, 125), (76, .dup, 77, 0, 0, 0), (77, .invokespecial 40, 80, 58, 0, 5), (80, .putfield 41, 83, 7, 5, 2), (83, .aload_n 0, 84, 0, 0, 0), (84, .new 45, 87, 4, 4, 7), (87, .dup, 88, 0, 0, 0), (88, .invokespecial 47, 91, 53, 0, 4), (91, .putfield 48, 94, 7, 6, 2), (94, .aload_n 0, 95, 0, 0, 0), (95, .new 52, 98, 6, 5, 15), (98, .dup, 99, 0, 0, 0), (99, .invokespecial 54, 102, 60, 0, 6), (102, .putfield 55, 105, 7, 7, 2), (105, .return_, 106, 0, 0, 0)])
def zX8_arc : yE := (yX8_arc, cX8_arc, 5, (some .int), [(0, .aload_n 0, 1, 0, 0, 0), (1, .getfield 19, 4, 7, 1, 0), (4, .aload_n 0, 5, 0, 0, 0), (5, .getfield 12, 8, 7, 0, 0), (8, .invokevirtual 59, 11, 28, 1, 0), (11, .aload_n 0, 12, 0, 0, 0), (12, .getfield 19, 15, 7, 1, 0), (15, .aload_n 0, 16, 0, 0, 0), (16, .getfield 12, 19, 7, 0, 0), (19, .iload_n 1, 20, 0, 0, 0), (20, .iload_n 2, 21, 0, 0, 0), (21, .iload_n 3, 22, 0, 0, 0), (22, .iload 4, 24, 0, 0, 0), (24, .invokevirtual 74, 27, 46, 4, 2), (27, .invokevirtual 67, 30, 29, 1, 0), (30, .ireturn, 31, 0, 0, 0)])
def zX8_bound : yE := (yX8_bound, cX8_bound, 3, (some .int), [(0, .aload_n 0, 1, 0, 0, 0), (1, .getfield 12, 4, 7, 0, 0), (4, .iload_n 1, 5, 0, 0, 0), (5, .invokevirtual 88, 8, 42, 1, 2), (8, .ifCond .ne 5, 11, 13, 0, 0), (11, .iconst (-1), 12, 4294967295, 0, 0), (12, .ireturn, 13, 0, 0, 0), (13, .aload_n 0, 14, 0, 0, 0), (14, .getfield 55, 17, 7, 7, 0), (17, .aload_n 0, 18, 0, 0, 0), (18, .getfield 12, 21, 7, 0, 0), (21, .invokevirtual 197, 24, 63, 1, 6), (24, .aload_n 0, 25, 0, 0, 0), (25, .getfield 55, 28, 7, 7, 0), (28, .getfield 198, 31, 6, 0, 0), (31, .getfield 181, 34, 1, 5, 0), (34, .ifCond .eq 6, 37, 40, 0, 0), (37, .bipush (-4), 39, 4294967292, 0, 0), (39, .ireturn, 40, 0, 0, 0), (40, .aload_n 0, 41, 0, 0, 0), (41, .getfield 55, 44, 7, 7, 0), (44, .iload_n 1, 45, 0, 0, 0), (45, .invokevirtual 205, 48, 65, 1, 6), (48, .istore_n 2, 49, 0, 0, 0), (49, .iload_n 2, 50, 0, 0, 0), (50, .ldc 208, 52, 1073741824, 0, 0), (52, .if_icmp .ne 8, 55, 60, 0, 0), (55, .bipush (-6), 57, 4294967290, 0, 0), (57, .goto 4, 60, 61, 0, 0), (60, .iload_n 2, 61, 0, 0, 0), (61, .ireturn, 62, 0, 0, 0)])
def zX8_carryOut : yE := (yX8_carryOut, cX8_carryOut, 4, (some .int), [(0, .aload_n 0, 1, 0, 0, 0), (1, .getfield 34, 4, 7, 4, 0), (4, .invokevirtual 213, 7, 51, 0, 3), (7, .bipush (-6), 9, 4294967290, 0, 0), (9, .if_icmp .eq 6, 12, 15, 0, 0), (12, .bipush (-3), 14, 4294967293, 0, 0), (14, .ireturn, 15, 0, 0, 0), (15, .aload_n 0, 16, 0, 0, 0), (16, .getfield 19, 19, 7, 1, 0), (19, .aload_n 0, 20, 0, 0, 0), (20, .getfield 12, 23, 7, 0, 0), (23, .invokevirtual 59, 26, 28, 1, 0), (26, .iconst 0, 27, 0, 0, 0), (27, .istore_n 1, 28, 0, 0, 0), (28, .iconst 0, 29, 0, 0, 0), (29, .istore_n 2, 30, 0, 0, 0), (30, .iconst 0, 31, 0, 0, 0), (31, .istore_n 3, 32, 0, 0, 0), (32, .iload_n 3, 33, 0, 0, 0), (33, .bipush 80, 35, 80, 0, 0), (35, .if_icmp .ge 45, 38, 80, 0, 0), (38, .iload_n 2, 39, 0, 0, 0), (39, .aload_n 0, 40, 0, 0, 0), (40, .getfield 34, 43, 7, 4, 0), (43, .getfield 140, 46, 3, 1, 0), (46, .if_icmp .ge 34, 49, 80, 0, 0), (49, .aload_n 0, 50, 0, 0, 0), (50, .iload_n 2, 51, 0, 0, 0), (54, .ifCond .ge 6, 57, 60, 0, 0), (57, .goto 23, 60, 80, 0, 0), (60, .iinc 1 1, 63, 1, 0, 0), (63, .aload_n 0, 64, 0, 0, 0), (64, .getfield 34, 67, 7, 4, 0), (67, .iload_n 2, 68, 0, 0, 0), (71, .iconst 1, 72, 1, 0, 0), (72, .iadd, 73, 0, 0, 0), (73, .istore_n 2, 74, 0, 0, 0), (74, .iinc 3 1, 77, 1, 0, 0), (77, .goto (-45), 80, 32, 0, 0), (80, .aload_n 0, 81, 0, 0, 0), (81, .getfield 34, 84, 7, 4, 0), (84, .iconst 0, 85, 0, 0, 0), (85, .putfield 140, 88, 3, 1, 0), (88, .aload_n 0, 89, 0, 0, 0), (89, .getfield 19, 92, 7, 1, 0), (92, .iload_n 1, 93, 0, 0, 0), (93, .invokevirtual 67, 96, 29, 1, 0), (96, .ireturn, 97, 0, 0, 0)])
def zX8_count : yE := (yX8_count, cX8_count, 2, (some .int), [(0, .iload_n 1, 1, 0, 0, 0), (1, .tableswitch 99 0 6 #[43, 51, 59, 67, 75, 83, 91], 44, 0, 0, 0), (44, .aload_n 0, 45, 0, 0, 0), (45, .getfield 12, 48, 7, 0, 0), (48, .getfield 124, 51, 2, 0, 0), (51, .ireturn, 52, 0, 0, 0), (52, .aload_n 0, 53, 0, 0, 0), (53, .getfield 12, 56, 7, 0, 0), (56, .getfield 128, 59, 2, 1, 0), (59, .ireturn, 60, 0, 0, 0), (60, .aload_n 0, 61, 0, 0, 0), (61, .getfield 12, 64, 7, 0, 0), (64, .invokevirtual 131, 67, 38, 0, 2), (67, .ireturn, 68, 0, 0, 0), (68, .aload_n 0, 69, 0, 0, 0), (69, .getfield 12, 72, 7, 0, 0), (72, .invokevirtual 134, 75, 45, 0, 2), (75, .ireturn, 76, 0, 0, 0), (76, .aload_n 0, 77, 0, 0, 0), (77, .getfield 12, 80, 7, 0, 0), (80, .invokevirtual 137, 83, 37, 0, 2), (83, .ireturn, 84, 0, 0, 0), (84, .aload_n 0, 85, 0, 0, 0), (85, .getfield 34, 88, 7, 4, 0), (88, .getfield 140, 91, 3, 1, 0), (91, .ireturn, 92, 0, 0, 0), (92, .aload_n 0, 93, 0, 0, 0), (93, .getfield 19, 96, 7, 1, 0), (96, .getfield 143, 99, 0, 2, 0), (99, .ireturn, 100, 0, 0, 0), (100, .bipush (-2), 102, 4294967294, 0, 0), (102, .ireturn, 103, 0, 0, 0)])
def zX8_fault : yE := (yX8_fault, cX8_fault, 1, (some .int), [(0, .aload_n 0, 1, 0, 0, 0), (1, .getfield 34, 4, 7, 4, 0), (4, .invokevirtual 213, 7, 51, 0, 3), (7, .ireturn, 8, 0, 0, 0)])
def zX8_fewest : yE := (yX8_fewest, cX8_fewest, 3, (some .int), [(0, .aload_n 0, 1, 0, 0, 0), (1, .getfield 12, 4, 7, 0, 0), (4, .iload_n 1, 5, 0, 0, 0), (5, .invokevirtual 88, 8, 42, 1, 2), (8, .ifCond .ne 5, 11, 13, 0, 0), (11, .iconst (-1), 12, 4294967295, 0, 0), (12, .ireturn, 13, 0, 0, 0), (13, .iload_n 2, 14, 0, 0, 0), (14, .ifCond .lt 10, 17, 24, 0, 0), (17, .iload_n 2, 18, 0, 0, 0), (18, .sipush 9999, 21, 9999, 0, 0), (21, .if_icmp .le 6, 24, 27, 0, 0), (24, .bipush (-2), 26, 4294967294, 0, 0), (26, .ireturn, 27, 0, 0, 0), (27, .aload_n 0, 28, 0, 0, 0), (28, .getfield 48, 31, 7, 6, 0), (31, .aload_n 0, 32, 0, 0, 0), (32, .getfield 12, 35, 7, 0, 0), (35, .invokevirtual 176, 38, 54, 1, 4), (38, .aload_n 0, 39, 0, 0, 0), (39, .getfield 48, 42, 7, 6, 0), (42, .getfield 177, 45, 4, 0, 0), (45, .getfield 181, 48, 1, 5, 0), (48, .ifCond .eq 8, 51, 56, 0, 0), (51, .bipush (-4), 53, 4294967292, 0, 0), (53, .goto 12, 56, 65, 0, 0), (56, .aload_n 0, 57, 0, 0, 0), (57, .getfield 48, 60, 7, 6, 0), (60, .iload_n 1, 61, 0, 0, 0), (61, .iload_n 2, 62, 0, 0, 0), (65, .ireturn, 66, 0, 0, 0)])
def zX8_growth : yE := (yX8_growth, cX8_growth, 2, (some .int), [(0, .iload_n 1, 1, 0, 0, 0), (1, .ifCond .lt 8, 4, 9, 0, 0), (4, .iload_n 1, 5, 0, 0, 0), (5, .iconst 3, 6, 3, 0, 0), (6, .if_icmp .le 6, 9, 12, 0, 0), (9, .bipush (-2), 11, 4294967294, 0, 0), (11, .ireturn, 12, 0, 0, 0), (12, .aload_n 0, 13, 0, 0, 0), (13, .getfield 55, 16, 7, 7, 0), (16, .aload_n 0, 17, 0, 0, 0), (17, .getfield 12, 20, 7, 0, 0), (20, .invokevirtual 197, 23, 63, 1, 6), (23, .aload_n 0, 24, 0, 0, 0), (24, .getfield 55, 27, 7, 7, 0), (27, .getfield 198, 30, 6, 0, 0), (30, .getfield 181, 33, 1, 5, 0), (33, .ifCond .eq 6, 36, 39, 0, 0), (36, .bipush (-4), 38, 4294967292, 0, 0), (38, .ireturn, 39, 0, 0, 0), (39, .iload_n 1, 40, 0, 0, 0), (40, .tableswitch 58 0 2 #[28, 39, 47], 68, 0, 0, 0), (68, .aload_n 0, 69, 0, 0, 0), (69, .getfield 55, 72, 7, 7, 0), (72, .getfield 198, 75, 6, 0, 0), (75, .getfield 187, 78, 1, 4, 0), (78, .ireturn, 79, 0, 0, 0), (79, .aload_n 0, 80, 0, 0, 0), (80, .getfield 55, 83, 7, 7, 0), (83, .invokevirtual 199, 86, 62, 0, 6), (86, .ireturn, 87, 0, 0, 0), (87, .aload_n 0, 88, 0, 0, 0), (88, .getfield 55, 91, 7, 7, 0), (91, .getfield 198, 94, 6, 0, 0), (94, .getfield 191, 97, 1, 6, 0), (97, .ireturn, 98, 0, 0, 0), (98, .aload_n 0, 99, 0, 0, 0), (99, .getfield 55, 102, 7, 7, 0), (102, .getfield 202, 105, 6, 4, 0), (105, .ireturn, 106, 0, 0, 0)])
def zX8_kept : yE := (yX8_kept, cX8_kept, 3, (some .int), [(0, .aload_n 0, 1, 0, 0, 0), (1, .getfield 41, 4, 7, 5, 0), (4, .aload_n 0, 5, 0, 0, 0), (5, .getfield 12, 8, 7, 0, 0), (8, .invokevirtual 158, 11, 59, 1, 5), (11, .iload_n 1, 12, 0, 0, 0), (12, .ifCond .lt 14, 15, 26, 0, 0), (15, .iload_n 1, 16, 0, 0, 0), (16, .aload_n 0, 17, 0, 0, 0), (17, .getfield 41, 20, 7, 5, 0), (20, .getfield 161, 23, 5, 7, 0), (23, .if_icmp .lt 5, 26, 28, 0, 0), (26, .iconst (-1), 27, 4294967295, 0, 0), (27, .ireturn, 28, 0, 0, 0), (28, .iload_n 2, 29, 0, 0, 0), (29, .bipush 8, 31, 8, 0, 0), (31, .if_icmp .ne 19, 34, 50, 0, 0), (34, .aload_n 0, 35, 0, 0, 0), (35, .getfield 41, 38, 7, 5, 0), (38, .iload_n 1, 39, 0, 0, 0), (39, .aload_n 0, 40, 0, 0, 0), (40, .getfield 12, 43, 7, 0, 0), (43, .getfield 92, 46, 2, 2, 0), (49, .ireturn, 50, 0, 0, 0), (50, .aload_n 0, 51, 0, 0, 0), (51, .getfield 12, 54, 7, 0, 0), (54, .iload_n 2, 55, 0, 0, 0), (55, .invokevirtual 88, 58, 42, 1, 2), (58, .ifCond .eq 15, 61, 73, 0, 0), (61, .aload_n 0, 62, 0, 0, 0), (62, .getfield 41, 65, 7, 5, 0), (65, .iload_n 1, 66, 0, 0, 0), (66, .iload_n 2, 67, 0, 0, 0), (70, .goto 5, 73, 75, 0, 0), (73, .bipush (-2), 75, 4294967294, 0, 0), (75, .ireturn, 76, 0, 0, 0)])
def zX8_keptMany : yE := (yX8_keptMany, cX8_keptMany, 1, (some .int), [(0, .aload_n 0, 1, 0, 0, 0), (1, .getfield 41, 4, 7, 5, 0), (4, .aload_n 0, 5, 0, 0, 0), (5, .getfield 12, 8, 7, 0, 0), (8, .invokevirtual 158, 11, 59, 1, 5), (11, .aload_n 0, 12, 0, 0, 0), (12, .getfield 41, 15, 7, 5, 0), (15, .getfield 161, 18, 5, 7, 0), (18, .ireturn, 19, 0, 0, 0)])
def zX8_make : yE := (yX8_make, cX8_make, 2, (some .int), [(0, .aload_n 0, 1, 0, 0, 0), (1, .getfield 19, 4, 7, 1, 0), (4, .aload_n 0, 5, 0, 0, 0), (5, .getfield 12, 8, 7, 0, 0), (8, .invokevirtual 59, 11, 28, 1, 0), (11, .aload_n 0, 12, 0, 0, 0), (12, .getfield 19, 15, 7, 1, 0), (15, .aload_n 0, 16, 0, 0, 0), (16, .getfield 12, 19, 7, 0, 0), (19, .iload_n 1, 20, 0, 0, 0), (20, .invokevirtual 82, 23, 44, 1, 2), (23, .invokevirtual 67, 26, 29, 1, 0), (26, .ireturn, 27, 0, 0, 0)])
def zX8_mean : yE := (yX8_mean, cX8_mean, 4, (some .long), [(0, .iload_n 1, 1, 0, 0, 0), (1, .ifCond .eq 12, 4, 13, 0, 0), (4, .iload_n 1, 5, 0, 0, 0), (5, .iconst 1, 6, 1, 0, 0), (6, .if_icmp .eq 7, 9, 13, 0, 0), (9, .ldc2_w 152, 12, 18446744073709551614, 0, 0), (12, .lreturn, 13, 0, 0, 0), (13, .aload_n 0, 14, 0, 0, 0), (14, .getfield 12, 17, 7, 0, 0), (17, .getfield 124, 20, 2, 0, 0), (20, .ifCond .gt 5, 23, 25, 0, 0), (23, .lconst 0, 24, 0, 0, 0), (24, .lreturn, 25, 0, 0, 0), (25, .aload_n 0, 26, 0, 0, 0), (26, .getfield 12, 29, 7, 0, 0), (29, .invokevirtual 131, 32, 38, 0, 2), (33, .aload_n 0, 34, 0, 0, 0), (34, .getfield 12, 37, 7, 0, 0), (37, .getfield 124, 40, 2, 0, 0), (43, .iload_n 1, 44, 0, 0, 0), (44, .ifCond .ne 7, 47, 51, 0, 0), (48, .goto 8, 51, 56, 0, 0), (59, .lreturn, 60, 0, 0, 0)])
def zX8_move : yE := (yX8_move, cX8_move, 1, (some .int), [(0, .aload_n 0, 1, 0, 0, 0), (1, .getfield 19, 4, 7, 1, 0), (4, .aload_n 0, 5, 0, 0, 0), (5, .getfield 12, 8, 7, 0, 0), (8, .invokevirtual 59, 11, 28, 1, 0), (11, .aload_n 0, 12, 0, 0, 0), (12, .getfield 19, 15, 7, 1, 0), (15, .aload_n 0, 16, 0, 0, 0), (16, .getfield 12, 19, 7, 0, 0), (19, .invokevirtual 70, 22, 35, 0, 2), (22, .invokevirtual 67, 25, 29, 1, 0), (25, .ireturn, 26, 0, 0, 0)])
def zX8_ofArc : yE := (yX8_ofArc, cX8_ofArc, 4, (some .int), [(0, .aload_n 0, 1, 0, 0, 0), (1, .getfield 12, 4, 7, 0, 0), (4, .iload_n 1, 5, 0, 0, 0), (5, .invokevirtual 109, 8, 41, 1, 2), (8, .ifCond .eq 14, 11, 22, 0, 0), (11, .aload_n 0, 12, 0, 0, 0), (12, .getfield 12, 15, 7, 0, 0), (15, .iload_n 2, 16, 0, 0, 0), (16, .invokevirtual 88, 19, 42, 1, 2), (19, .ifCond .ne 5, 22, 24, 0, 0), (22, .iconst (-1), 23, 4294967295, 0, 0), (23, .ireturn, 24, 0, 0, 0), (24, .iload_n 3, 25, 0, 0, 0), (25, .lookupswitch 57 #[(0, 27), (1, 42)], 52, 0, 0, 0), (52, .aload_n 0, 53, 0, 0, 0), (53, .getfield 12, 56, 7, 0, 0), (56, .getfield 96, 59, 2, 5, 0), (59, .iload_n 1, 60, 0, 0, 0), (60, .bipush 8, 62, 8, 0, 0), (62, .imul, 63, 0, 0, 0), (63, .iload_n 2, 64, 0, 0, 0), (64, .iadd, 65, 0, 0, 0), (65, .iaload, 66, 0, 0, 0), (66, .ireturn, 67, 0, 0, 0), (67, .aload_n 0, 68, 0, 0, 0), (68, .getfield 12, 71, 7, 0, 0), (71, .getfield 103, 74, 2, 6, 0), (74, .iload_n 1, 75, 0, 0, 0), (75, .bipush 8, 77, 8, 0, 0), (77, .imul, 78, 0, 0, 0), (78, .iload_n 2, 79, 0, 0, 0), (79, .iadd, 80, 0, 0, 0), (80, .iaload, 81, 0, 0, 0), (81, .ireturn, 82, 0, 0, 0), (82, .bipush (-2), 84, 4294967294, 0, 0), (84, .ireturn, 85, 0, 0, 0)])
def zX8_ofMove : yE := (yX8_ofMove, cX8_ofMove, 3, (some .int), [(0, .aload_n 0, 1, 0, 0, 0), (1, .getfield 12, 4, 7, 0, 0), (4, .iload_n 1, 5, 0, 0, 0), (5, .invokevirtual 109, 8, 41, 1, 2), (8, .ifCond .ne 5, 11, 13, 0, 0), (11, .iconst (-1), 12, 4294967295, 0, 0), (12, .ireturn, 13, 0, 0, 0), (13, .iload_n 2, 14, 0, 0, 0), (14, .tableswitch 105 0 4 #[34, 51, 61, 77, 93], 48, 0, 0, 0), (48, .aload_n 0, 49, 0, 0, 0), (49, .getfield 12, 52, 7, 0, 0), (52, .iload_n 1, 53, 0, 0, 0), (56, .ifCond .eq 7, 59, 63, 0, 0), (59, .iconst 1, 60, 1, 0, 0), (60, .goto 4, 63, 64, 0, 0), (63, .iconst 0, 64, 0, 0, 0), (64, .ireturn, 65, 0, 0, 0), (65, .aload_n 0, 66, 0, 0, 0), (66, .getfield 12, 69, 7, 0, 0), (69, .getfield 115, 72, 2, 4, 0), (72, .iload_n 1, 73, 0, 0, 0), (73, .iaload, 74, 0, 0, 0), (74, .ireturn, 75, 0, 0, 0), (75, .aload_n 0, 76, 0, 0, 0), (76, .getfield 12, 79, 7, 0, 0), (79, .aload_n 0, 80, 0, 0, 0), (80, .getfield 12, 83, 7, 0, 0), (83, .getfield 96, 86, 2, 5, 0), (86, .iload_n 1, 87, 0, 0, 0), (90, .ireturn, 91, 0, 0, 0), (91, .aload_n 0, 92, 0, 0, 0), (92, .getfield 12, 95, 7, 0, 0), (95, .aload_n 0, 96, 0, 0, 0), (96, .getfield 12, 99, 7, 0, 0), (99, .getfield 103, 102, 2, 6, 0), (102, .iload_n 1, 103, 0, 0, 0), (106, .ireturn, 107, 0, 0, 0), (107, .aload_n 0, 108, 0, 0, 0), (108, .getfield 12, 111, 7, 0, 0), (111, .iload_n 1, 112, 0, 0, 0), (115, .bipush 100, 117, 100, 0, 0), (117, .iadd, 118, 0, 0, 0), (118, .ireturn, 119, 0, 0, 0), (119, .bipush (-2), 121, 4294967294, 0, 0), (121, .ireturn, 122, 0, 0, 0)])
def zX8_ofPlace : yE := (yX8_ofPlace, cX8_ofPlace, 3, (some .int), [(0, .aload_n 0, 1, 0, 0, 0), (1, .getfield 12, 4, 7, 0, 0), (4, .iload_n 1, 5, 0, 0, 0), (5, .invokevirtual 88, 8, 42, 1, 2), (8, .ifCond .ne 5, 11, 13, 0, 0), (11, .iconst (-1), 12, 4294967295, 0, 0), (12, .ireturn, 13, 0, 0, 0), (13, .iload_n 2, 14, 0, 0, 0), (14, .tableswitch 82 0 3 #[30, 40, 56, 72], 44, 0, 0, 0), (44, .aload_n 0, 45, 0, 0, 0), (45, .getfield 12, 48, 7, 0, 0), (48, .getfield 92, 51, 2, 2, 0), (51, .iload_n 1, 52, 0, 0, 0), (52, .iaload, 53, 0, 0, 0), (53, .ireturn, 54, 0, 0, 0), (54, .aload_n 0, 55, 0, 0, 0), (55, .getfield 12, 58, 7, 0, 0), (58, .aload_n 0, 59, 0, 0, 0), (59, .getfield 12, 62, 7, 0, 0), (62, .getfield 96, 65, 2, 5, 0), (65, .iload_n 1, 66, 0, 0, 0), (69, .ireturn, 70, 0, 0, 0), (70, .aload_n 0, 71, 0, 0, 0), (71, .getfield 12, 74, 7, 0, 0), (74, .aload_n 0, 75, 0, 0, 0), (75, .getfield 12, 78, 7, 0, 0), (78, .getfield 103, 81, 2, 6, 0), (81, .iload_n 1, 82, 0, 0, 0), (85, .ireturn, 86, 0, 0, 0), (86, .aload_n 0, 87, 0, 0, 0), (87, .getfield 12, 90, 7, 0, 0), (90, .getfield 106, 93, 2, 3, 0), (93, .iload_n 1, 94, 0, 0, 0), (94, .iaload, 95, 0, 0, 0), (95, .ireturn, 96, 0, 0, 0), (96, .bipush (-2), 98, 4294967294, 0, 0), (98, .ireturn, 99, 0, 0, 0)])
def zX8_place : yE := (yX8_place, cX8_place, 2, (some .int), [(0, .aload_n 0, 1, 0, 0, 0), (1, .getfield 19, 4, 7, 1, 0), (4, .aload_n 0, 5, 0, 0, 0), (5, .getfield 12, 8, 7, 0, 0), (8, .invokevirtual 59, 11, 28, 1, 0), (11, .aload_n 0, 12, 0, 0, 0), (12, .getfield 19, 15, 7, 1, 0), (15, .aload_n 0, 16, 0, 0, 0), (16, .getfield 12, 19, 7, 0, 0), (19, .iload_n 1, 20, 0, 0, 0), (20, .invokevirtual 63, 23, 36, 1, 2), (23, .invokevirtual 67, 26, 29, 1, 0), (26, .ireturn, 27, 0, 0, 0)])
def zX8_put : yE := (yX8_put, cX8_put, 3, (some .int), [(0, .aload_n 0, 1, 0, 0, 0), (1, .getfield 34, 4, 7, 4, 0), (4, .lload_n 1, 5, 0, 0, 0), (5, .invokevirtual 209, 8, 50, 1, 3), (8, .ireturn, 9, 0, 0, 0)])
def zX8_reached : yE := (yX8_reached, cX8_reached, 2, (some .int), [(0, .iload_n 1, 1, 0, 0, 0), (1, .ifCond .lt 8, 4, 9, 0, 0), (4, .iload_n 1, 5, 0, 0, 0), (5, .iconst 2, 6, 2, 0, 0), (6, .if_icmp .le 6, 9, 12, 0, 0), (9, .bipush (-2), 11, 4294967294, 0, 0), (11, .ireturn, 12, 0, 0, 0), (12, .aload_n 0, 13, 0, 0, 0), (13, .getfield 48, 16, 7, 6, 0), (16, .aload_n 0, 17, 0, 0, 0), (17, .getfield 12, 20, 7, 0, 0), (20, .invokevirtual 176, 23, 54, 1, 4), (23, .aload_n 0, 24, 0, 0, 0), (24, .getfield 48, 27, 7, 6, 0), (27, .getfield 177, 30, 4, 0, 0), (30, .getfield 181, 33, 1, 5, 0), (33, .ifCond .eq 6, 36, 39, 0, 0), (36, .bipush (-4), 38, 4294967292, 0, 0), (38, .ireturn, 39, 0, 0, 0), (39, .iload_n 1, 40, 0, 0, 0), (40, .lookupswitch 47 #[(0, 28), (1, 39)], 68, 0, 0, 0), (68, .aload_n 0, 69, 0, 0, 0), (69, .getfield 48, 72, 7, 6, 0), (72, .getfield 177, 75, 4, 0, 0), (75, .getfield 187, 78, 1, 4, 0), (78, .ireturn, 79, 0, 0, 0), (79, .aload_n 0, 80, 0, 0, 0), (80, .getfield 48, 83, 7, 6, 0), (83, .getfield 188, 86, 4, 3, 0), (86, .ireturn, 87, 0, 0, 0), (87, .aload_n 0, 88, 0, 0, 0), (88, .getfield 48, 91, 7, 6, 0), (91, .getfield 177, 94, 4, 0, 0), (94, .getfield 191, 97, 1, 6, 0), (97, .ireturn, 98, 0, 0, 0)])
def zX8_restore : yE := (yX8_restore, cX8_restore, 2, (some .int), [(0, .iload_n 1, 1, 0, 0, 0), (1, .ifCond .eq 11, 4, 12, 0, 0), (4, .iload_n 1, 5, 0, 0, 0), (5, .iconst 1, 6, 1, 0, 0), (6, .if_icmp .eq 6, 9, 12, 0, 0), (9, .bipush (-2), 11, 4294967294, 0, 0), (11, .ireturn, 12, 0, 0, 0), (12, .aload_n 0, 13, 0, 0, 0), (13, .getfield 27, 16, 7, 3, 0), (16, .iload_n 1, 17, 0, 0, 0), (17, .baload, 18, 0, 0, 0), (18, .ifCond .ne 6, 21, 24, 0, 0), (21, .bipush (-5), 23, 4294967291, 0, 0), (23, .ireturn, 24, 0, 0, 0), (24, .aload_n 0, 25, 0, 0, 0), (25, .getfield 19, 28, 7, 1, 0), (28, .aload_n 0, 29, 0, 0, 0), (29, .getfield 12, 32, 7, 0, 0), (32, .invokevirtual 59, 35, 28, 1, 0), (35, .aload_n 0, 36, 0, 0, 0), (36, .getfield 12, 39, 7, 0, 0), (39, .aload_n 0, 40, 0, 0, 0), (40, .getfield 23, 43, 7, 2, 0), (43, .iload_n 1, 44, 0, 0, 0), (44, .aaload, 45, 0, 0, 0), (45, .invokevirtual 245, 48, 39, 1, 2), (48, .aload_n 0, 49, 0, 0, 0), (49, .getfield 19, 52, 7, 1, 0), (52, .aload_n 0, 53, 0, 0, 0), (53, .getfield 12, 56, 7, 0, 0), (56, .invokevirtual 131, 59, 38, 0, 2), (59, .invokevirtual 67, 62, 29, 1, 0), (62, .ireturn, 63, 0, 0, 0)])
def zX8_run : yE := (yX8_run, cX8_run, 3, (some .int), [(0, .aload_n 0, 1, 0, 0, 0), (1, .getfield 19, 4, 7, 1, 0), (4, .aload_n 0, 5, 0, 0, 0), (5, .getfield 12, 8, 7, 0, 0), (8, .invokevirtual 59, 11, 28, 1, 0), (11, .aload_n 0, 12, 0, 0, 0), (12, .getfield 19, 15, 7, 1, 0), (15, .aload_n 0, 16, 0, 0, 0), (16, .getfield 12, 19, 7, 0, 0), (19, .iload_n 1, 20, 0, 0, 0), (20, .iload_n 2, 21, 0, 0, 0), (21, .invokevirtual 85, 24, 43, 2, 2), (24, .invokevirtual 67, 27, 29, 1, 0), (27, .ireturn, 28, 0, 0, 0)])
def zX8_save : yE := (yX8_save, cX8_save, 2, (some .int), [(0, .iload_n 1, 1, 0, 0, 0), (1, .ifCond .eq 11, 4, 12, 0, 0), (4, .iload_n 1, 5, 0, 0, 0), (5, .iconst 1, 6, 1, 0, 0), (6, .if_icmp .eq 6, 9, 12, 0, 0), (9, .bipush (-2), 11, 4294967294, 0, 0), (11, .ireturn, 12, 0, 0, 0), (12, .aload_n 0, 13, 0, 0, 0), (13, .getfield 23, 16, 7, 2, 0), (16, .iload_n 1, 17, 0, 0, 0), (17, .aaload, 18, 0, 0, 0), (18, .aload_n 0, 19, 0, 0, 0), (19, .getfield 12, 22, 7, 0, 0), (22, .invokevirtual 245, 25, 39, 1, 2), (25, .aload_n 0, 26, 0, 0, 0), (26, .getfield 27, 29, 7, 3, 0), (29, .iload_n 1, 30, 0, 0, 0), (30, .iconst 1, 31, 1, 0, 0), (31, .bastore, 32, 0, 0, 0), (32, .aload_n 0, 33, 0, 0, 0), (33, .getfield 12, 36, 7, 0, 0), (36, .invokevirtual 131, 39, 38, 0, 2), (39, .ireturn, 40, 0, 0, 0)])
def zX8_share : yE := (yX8_share, cX8_share, 3, (some .int), [(0, .aload_n 0, 1, 0, 0, 0), (1, .getfield 12, 4, 7, 0, 0), (4, .iload_n 1, 5, 0, 0, 0), (5, .invokevirtual 109, 8, 41, 1, 2), (8, .ifCond .ne 5, 11, 13, 0, 0), (11, .iconst (-1), 12, 4294967295, 0, 0), (12, .ireturn, 13, 0, 0, 0), (13, .aload_n 0, 14, 0, 0, 0), (14, .getfield 12, 17, 7, 0, 0), (17, .invokevirtual 137, 20, 37, 0, 2), (20, .istore_n 2, 21, 0, 0, 0), (21, .iload_n 2, 22, 0, 0, 0), (22, .ifCond .gt 6, 25, 28, 0, 0), (25, .bipush (-6), 27, 4294967290, 0, 0), (27, .ireturn, 28, 0, 0, 0), (28, .aload_n 0, 29, 0, 0, 0), (29, .getfield 12, 32, 7, 0, 0), (32, .getfield 115, 35, 2, 4, 0), (35, .iload_n 1, 36, 0, 0, 0), (36, .iaload, 37, 0, 0, 0), (38, .iload_n 2, 39, 0, 0, 0), (45, .ireturn, 46, 0, 0, 0)])
def zX8_tokens : yE := (yX8_tokens, cX8_tokens, 3, (some .int), [(0, .aload_n 0, 1, 0, 0, 0), (1, .getfield 19, 4, 7, 1, 0), (4, .aload_n 0, 5, 0, 0, 0), (5, .getfield 12, 8, 7, 0, 0), (8, .invokevirtual 59, 11, 28, 1, 0), (11, .aload_n 0, 12, 0, 0, 0), (12, .getfield 19, 15, 7, 1, 0), (15, .aload_n 0, 16, 0, 0, 0), (16, .getfield 12, 19, 7, 0, 0), (19, .iload_n 1, 20, 0, 0, 0), (20, .iload_n 2, 21, 0, 0, 0), (21, .invokevirtual 78, 24, 47, 2, 2), (24, .invokevirtual 67, 27, 29, 1, 0), (27, .ireturn, 28, 0, 0, 0)])
def zX8_trap : yE := (yX8_trap, cX8_trap, 3, (some .int), [(0, .iload_n 1, 1, 0, 0, 0), (1, .ifCond .lt 16, 4, 17, 0, 0), (4, .iload_n 1, 5, 0, 0, 0), (5, .iconst 1, 6, 1, 0, 0), (6, .aload_n 0, 7, 0, 0, 0), (7, .getfield 12, 10, 7, 0, 0), (10, .getfield 124, 13, 2, 0, 0), (13, .ishl, 14, 0, 0, 0), (14, .if_icmp .lt 5, 17, 19, 0, 0), (17, .iconst (-1), 18, 4294967295, 0, 0), (18, .ireturn, 19, 0, 0, 0), (19, .iload_n 2, 20, 0, 0, 0), (20, .tableswitch 138 0 3 #[32, 55, 78, 108], 52, 0, 0, 0), (52, .aload_n 0, 53, 0, 0, 0), (53, .getfield 12, 56, 7, 0, 0), (56, .iload_n 1, 57, 0, 0, 0), (57, .aload_n 0, 58, 0, 0, 0), (58, .getfield 12, 61, 7, 0, 0), (61, .getfield 96, 64, 2, 5, 0), (64, .aload_n 0, 65, 0, 0, 0), (65, .getfield 12, 68, 7, 0, 0), (68, .getfield 103, 71, 2, 6, 0), (71, .invokevirtual 169, 74, 40, 3, 2), (74, .ireturn, 75, 0, 0, 0), (75, .aload_n 0, 76, 0, 0, 0), (76, .getfield 12, 79, 7, 0, 0), (79, .iload_n 1, 80, 0, 0, 0), (80, .aload_n 0, 81, 0, 0, 0), (81, .getfield 12, 84, 7, 0, 0), (84, .getfield 103, 87, 2, 6, 0), (87, .aload_n 0, 88, 0, 0, 0), (88, .getfield 12, 91, 7, 0, 0), (91, .getfield 96, 94, 2, 5, 0), (94, .invokevirtual 169, 97, 40, 3, 2), (97, .ireturn, 98, 0, 0, 0), (98, .aload_n 0, 99, 0, 0, 0), (99, .getfield 12, 102, 7, 0, 0), (102, .aload_n 0, 103, 0, 0, 0), (103, .getfield 12, 106, 7, 0, 0), (106, .iload_n 1, 107, 0, 0, 0), (107, .aload_n 0, 108, 0, 0, 0), (108, .getfield 12, 111, 7, 0, 0), (111, .getfield 96, 114, 2, 5, 0), (114, .aload_n 0, 115, 0, 0, 0), (115, .getfield 12, 118, 7, 0, 0), (118, .getfield 103, 121, 2, 6, 0), (121, .invokevirtual 169, 124, 40, 3, 2), (124, .invokevirtual 173, 127, 48, 1, 2), (127, .ireturn, 128, 0, 0, 0), (128, .aload_n 0, 129, 0, 0, 0), (129, .getfield 12, 132, 7, 0, 0), (132, .aload_n 0, 133, 0, 0, 0), (133, .getfield 12, 136, 7, 0, 0), (136, .iload_n 1, 137, 0, 0, 0), (137, .aload_n 0, 138, 0, 0, 0), (138, .getfield 12, 141, 7, 0, 0), (141, .getfield 103, 144, 2, 6, 0), (144, .aload_n 0, 145, 0, 0, 0), (145, .getfield 12, 148, 7, 0, 0), (148, .getfield 96, 151, 2, 5, 0), (151, .invokevirtual 169, 154, 40, 3, 2), (154, .invokevirtual 173, 157, 48, 1, 2), (157, .ireturn, 158, 0, 0, 0), (158, .bipush (-2), 160, 4294967294, 0, 0), (160, .ireturn, 161, 0, 0, 0)])
def zX8_undo : yE := (yX8_undo, cX8_undo, 1, (some .int), [(0, .aload_n 0, 1, 0, 0, 0), (1, .getfield 19, 4, 7, 1, 0), (4, .aload_n 0, 5, 0, 0, 0), (5, .getfield 12, 8, 7, 0, 0), (8, .invokevirtual 241, 11, 30, 1, 0), (11, .ireturn, 12, 0, 0, 0)])
def zX8_wipe : yE := (yX8_wipe, cX8_wipe, 2, (some .int), [(0, .aload_n 0, 1, 0, 0, 0), (1, .getfield 34, 4, 7, 4, 0), (4, .getfield 140, 7, 3, 1, 0), (7, .istore_n 1, 8, 0, 0, 0), (8, .aload_n 0, 9, 0, 0, 0), (9, .getfield 34, 12, 7, 4, 0), (12, .iconst 0, 13, 0, 0, 0), (13, .putfield 140, 16, 3, 1, 0), (16, .iload_n 1, 17, 0, 0, 0), (17, .ireturn, 18, 0, 0, 0)])
def zX1_init : yE := (yX1_init, cX1_init, 2, none, [(0, .aload_n 0, 1, 0, 0, 0), (1, .invokespecial 5, 4, 0, 0, 99), (4, .aload_n 0, 5, 0, 0, 0), (5, .bipush 7, 7, 7, 0, 0), (7, .anewarray 11, 10, 2, 0, 0), (10, .putfield 13, 13, 0, 0, 2), (13, .iconst 0, 14, 0, 0, 0), (14, .istore_n 1, 15, 0, 0, 0), (15, .iload_n 1, 16, 0, 0, 0), (16, .bipush 7, 18, 7, 0, 0), (18, .if_icmp .ge 22, 21, 40, 0, 0), (21, .aload_n 0, 22, 0, 0, 0), (22, .getfield 13, 25, 0, 0, 0), (25, .iload_n 1, 26, 0, 0, 0), (26, .new 11, 29, 2, 7, 124), (29, .dup, 30, 0, 0, 0), (30, .invokespecial 17, 33, 34, 0, 2), (33, .aastore, 34, 0, 0, 0), (34, .iinc 1 1, 37, 1, 0, 0), (37, .goto (-22), 40, 15, 0, 0), (40, .return_, 41, 0, 0, 0)])
def zX1_note : yE := (yX1_note, cX1_note, 2, none, [(0, .aload_n 0, 1, 0, 0, 0), (1, .getfield 13, 4, 0, 0, 0), (4, .aload_n 0, 5, 0, 0, 0), (5, .getfield 18, 8, 0, 1, 0), (8, .aaload, 9, 0, 0, 0), (9, .aload_n 1, 10, 0, 0, 0), (10, .invokevirtual 22, 13, 39, 1, 2), (13, .return_, 14, 0, 0, 0)])
def zX1_settle : yE := (yX1_settle, cX1_settle, 2, (some .int), [(0, .iload_n 1, 1, 0, 0, 0), (1, .ifCond .lt 31, 4, 32, 0, 0), (4, .aload_n 0, 5, 0, 0, 0), (5, .aload_n 0, 6, 0, 0, 0), (6, .getfield 18, 9, 0, 1, 0), (9, .iconst 1, 10, 1, 0, 0), (10, .iadd, 11, 0, 0, 0), (11, .bipush 7, 13, 7, 0, 0), (13, .irem, 14, 0, 0, 0), (14, .putfield 18, 17, 0, 1, 0), (17, .aload_n 0, 18, 0, 0, 0), (18, .aload_n 0, 19, 0, 0, 0), (19, .getfield 26, 22, 0, 2, 0), (22, .iconst 1, 23, 1, 0, 0), (23, .iadd, 24, 0, 0, 0), (24, .bipush 6, 26, 6, 0, 0), (26, .invokestatic 29, 29, 0, 0, 97), (29, .putfield 26, 32, 0, 2, 0), (32, .iload_n 1, 33, 0, 0, 0), (33, .ireturn, 34, 0, 0, 0)])
def zX1_takeBack : yE := (yX1_takeBack, cX1_takeBack, 2, (some .int), [(0, .aload_n 0, 1, 0, 0, 0), (1, .getfield 26, 4, 0, 2, 0), (4, .ifCond .gt 6, 7, 10, 0, 0), (7, .bipush (-5), 9, 4294967291, 0, 0), (9, .ireturn, 10, 0, 0, 0), (10, .aload_n 0, 11, 0, 0, 0), (11, .dup, 12, 0, 0, 0), (12, .getfield 26, 15, 0, 2, 0), (15, .iconst 1, 16, 1, 0, 0), (16, .isub, 17, 0, 0, 0), (17, .putfield 26, 20, 0, 2, 0), (20, .aload_n 0, 21, 0, 0, 0), (21, .aload_n 0, 22, 0, 0, 0), (22, .getfield 18, 25, 0, 1, 0), (25, .bipush 7, 27, 7, 0, 0), (27, .iadd, 28, 0, 0, 0), (28, .iconst 1, 29, 1, 0, 0), (29, .isub, 30, 0, 0, 0), (30, .bipush 7, 32, 7, 0, 0), (32, .irem, 33, 0, 0, 0), (33, .putfield 18, 36, 0, 1, 0), (36, .aload_n 1, 37, 0, 0, 0), (37, .aload_n 0, 38, 0, 0, 0), (38, .getfield 13, 41, 0, 0, 0), (41, .aload_n 0, 42, 0, 0, 0), (42, .getfield 18, 45, 0, 1, 0), (45, .aaload, 46, 0, 0, 0), (46, .invokevirtual 22, 49, 39, 1, 2), (49, .aload_n 0, 50, 0, 0, 0), (50, .getfield 26, 53, 0, 2, 0), (53, .ireturn, 54, 0, 0, 0)])
def zX2_init : yE := (yX2_init, cX2_init, 1, none, [(0, .aload_n 0, 1, 0, 0, 0), (1, .invokespecial 3, 4, 0, 0, 99), (4, .aload_n 0, 5, 0, 0, 0), (5, .new 9, 8, 2, 7, 124), (8, .dup, 9, 0, 0, 0), (9, .invokespecial 11, 12, 34, 0, 2), (12, .putfield 12, 15, 1, 0, 2), (15, .aload_n 0, 16, 0, 0, 0), (16, .sipush 2400, 19, 2400, 0, 0), (19, .newarray .int, 21, 0, 0, 0), (21, .putfield 18, 24, 1, 2, 2), (24, .aload_n 0, 25, 0, 0, 0), (25, .bipush 8, 27, 8, 0, 0), (27, .newarray .int, 29, 0, 0, 0), (29, .putfield 22, 32, 1, 3, 2), (32, .return_, 33, 0, 0, 0)])
def zX2_begins : yE := (yX2_begins, cX2_begins, 2, (some .boolean), [(0, .aload_n 0, 1, 0, 0, 0), (1, .getfield 25, 4, 1, 1, 0), (4, .ifCond .eq 27, 7, 31, 0, 0), (7, .aload_n 0, 8, 0, 0, 0), (8, .getfield 12, 11, 1, 0, 0), (11, .aload_n 1, 12, 0, 0, 0), (15, .ifCond .eq 16, 18, 31, 0, 0), (18, .aload_n 0, 19, 0, 0, 0), (19, .getfield 12, 22, 1, 0, 0), (22, .aload_n 1, 23, 0, 0, 0), (26, .ifCond .eq 5, 29, 31, 0, 0), (29, .iconst 0, 30, 0, 0, 0), (30, .ireturn, 31, 0, 0, 0), (31, .aload_n 0, 32, 0, 0, 0), (32, .getfield 12, 35, 1, 0, 0), (35, .aload_n 1, 36, 0, 0, 0), (36, .invokevirtual 36, 39, 39, 1, 2), (39, .aload_n 0, 40, 0, 0, 0), (40, .iconst 1, 41, 1, 0, 0), (41, .putfield 25, 44, 1, 1, 1), (44, .aload_n 0, 45, 0, 0, 0), (45, .iconst 0, 46, 0, 0, 0), (46, .putfield 40, 49, 1, 4, 0), (49, .aload_n 0, 50, 0, 0, 0), (50, .iconst 0, 51, 0, 0, 0), (51, .putfield 44, 54, 1, 5, 1), (54, .aload_n 0, 55, 0, 0, 0), (55, .iconst 0, 56, 0, 0, 0), (56, .putfield 47, 59, 1, 6, 0), (59, .aload_n 1, 60, 0, 0, 0), (60, .getfield 50, 63, 2, 2, 0), (63, .iconst 0, 64, 0, 0, 0), (64, .aload_n 0, 65, 0, 0, 0), (65, .getfield 22, 68, 1, 3, 0), (68, .iconst 0, 69, 0, 0, 0), (69, .bipush 8, 71, 8, 0, 0), (71, .invokestatic 53, 74, 0, 0, 98), (74, .iconst 1, 75, 1, 0, 0), (75, .ireturn, 76, 0, 0, 0)])
def zX2_takeIn : yE := (yX2_takeIn, cX2_takeIn, 1, (some .boolean), [(0, .aload_n 0, 1, 0, 0, 0), (1, .getfield 40, 4, 1, 4, 0), (4, .sipush 300, 7, 300, 0, 0), (7, .if_icmp .lt 10, 10, 17, 0, 0), (10, .aload_n 0, 11, 0, 0, 0), (11, .iconst 1, 12, 1, 0, 0), (12, .putfield 44, 15, 1, 5, 1), (15, .iconst 0, 16, 0, 0, 0), (16, .ireturn, 17, 0, 0, 0), (17, .aload_n 0, 18, 0, 0, 0), (18, .getfield 22, 21, 1, 3, 0), (21, .iconst 0, 22, 0, 0, 0), (22, .aload_n 0, 23, 0, 0, 0), (23, .getfield 18, 26, 1, 2, 0), (26, .aload_n 0, 27, 0, 0, 0), (27, .getfield 40, 30, 1, 4, 0), (30, .bipush 8, 32, 8, 0, 0), (32, .imul, 33, 0, 0, 0), (33, .bipush 8, 35, 8, 0, 0), (35, .invokestatic 53, 38, 0, 0, 98), (38, .aload_n 0, 39, 0, 0, 0), (39, .dup, 40, 0, 0, 0), (40, .getfield 40, 43, 1, 4, 0), (43, .iconst 1, 44, 1, 0, 0), (44, .iadd, 45, 0, 0, 0), (45, .putfield 40, 48, 1, 4, 0), (48, .iconst 1, 49, 1, 0, 0), (49, .ireturn, 50, 0, 0, 0)])
def zX3_init : yE := (yX3_init, cX3_init, 1, none, [(0, .aload_n 0, 1, 0, 0, 0), (1, .invokespecial 3, 4, 0, 0, 99), (4, .aload_n 0, 5, 0, 0, 0), (5, .bipush 8, 7, 8, 0, 0), (7, .newarray .int, 9, 0, 0, 0), (9, .putfield 9, 12, 2, 2, 2), (12, .aload_n 0, 13, 0, 0, 0), (13, .bipush 8, 15, 8, 0, 0), (15, .newarray .int, 17, 0, 0, 0), (17, .putfield 15, 20, 2, 3, 2), (20, .aload_n 0, 21, 0, 0, 0), (21, .bipush 8, 23, 8, 0, 0), (23, .newarray .int, 25, 0, 0, 0), (25, .putfield 18, 28, 2, 4, 2), (28, .aload_n 0, 29, 0, 0, 0), (29, .bipush 64, 31, 64, 0, 0), (31, .newarray .int, 33, 0, 0, 0), (33, .putfield 21, 36, 2, 5, 2), (36, .aload_n 0, 37, 0, 0, 0), (37, .bipush 64, 39, 64, 0, 0), (39, .newarray .int, 41, 0, 0, 0), (41, .putfield 24, 44, 2, 6, 2), (44, .return_, 45, 0, 0, 0)])
def zX3_addMove : yE := (yX3_addMove, cX3_addMove, 1, (some .int), [(0, .aload_n 0, 1, 0, 0, 0), (1, .getfield 31, 4, 2, 1, 0), (4, .bipush 8, 6, 8, 0, 0), (6, .if_icmp .lt 6, 9, 12, 0, 0), (9, .bipush (-4), 11, 4294967292, 0, 0), (11, .ireturn, 12, 0, 0, 0), (12, .aload_n 0, 13, 0, 0, 0), (13, .dup, 14, 0, 0, 0), (14, .getfield 31, 17, 2, 1, 0), (17, .iconst 1, 18, 1, 0, 0), (18, .iadd, 19, 0, 0, 0), (19, .putfield 31, 22, 2, 1, 0), (22, .aload_n 0, 23, 0, 0, 0), (23, .getfield 31, 26, 2, 1, 0), (26, .iconst 1, 27, 1, 0, 0), (27, .isub, 28, 0, 0, 0), (28, .ireturn, 29, 0, 0, 0)])
def zX3_addPlace : yE := (yX3_addPlace, cX3_addPlace, 2, (some .int), [(0, .iload_n 1, 1, 0, 0, 0), (1, .ifCond .lt 10, 4, 11, 0, 0), (4, .iload_n 1, 5, 0, 0, 0), (5, .sipush 999, 8, 999, 0, 0), (8, .if_icmp .le 6, 11, 14, 0, 0), (11, .bipush (-2), 13, 4294967294, 0, 0), (13, .ireturn, 14, 0, 0, 0), (14, .aload_n 0, 15, 0, 0, 0), (15, .getfield 27, 18, 2, 0, 0), (18, .bipush 8, 20, 8, 0, 0), (20, .if_icmp .lt 6, 23, 26, 0, 0), (23, .bipush (-4), 25, 4294967292, 0, 0), (25, .ireturn, 26, 0, 0, 0), (26, .aload_n 0, 27, 0, 0, 0), (27, .getfield 9, 30, 2, 2, 0), (30, .aload_n 0, 31, 0, 0, 0), (31, .getfield 27, 34, 2, 0, 0), (34, .iload_n 1, 35, 0, 0, 0), (35, .iastore, 36, 0, 0, 0), (36, .aload_n 0, 37, 0, 0, 0), (37, .getfield 15, 40, 2, 3, 0), (40, .aload_n 0, 41, 0, 0, 0), (41, .getfield 27, 44, 2, 0, 0), (44, .iload_n 1, 45, 0, 0, 0), (45, .iastore, 46, 0, 0, 0), (46, .aload_n 0, 47, 0, 0, 0), (47, .dup, 48, 0, 0, 0), (48, .getfield 27, 51, 2, 0, 0), (51, .iconst 1, 52, 1, 0, 0), (52, .iadd, 53, 0, 0, 0), (53, .putfield 27, 56, 2, 0, 0), (56, .aload_n 0, 57, 0, 0, 0), (57, .getfield 27, 60, 2, 0, 0), (60, .iconst 1, 61, 1, 0, 0), (61, .isub, 62, 0, 0, 0), (62, .ireturn, 63, 0, 0, 0)])
def zX3_allMade : yE := (yX3_allMade, cX3_allMade, 3, (some .int), [(0, .iconst 0, 1, 0, 0, 0), (1, .istore_n 1, 2, 0, 0, 0), (2, .iconst 0, 3, 0, 0, 0), (3, .istore_n 2, 4, 0, 0, 0), (4, .iload_n 2, 5, 0, 0, 0), (5, .bipush 8, 7, 8, 0, 0), (7, .if_icmp .ge 18, 10, 25, 0, 0), (10, .iload_n 1, 11, 0, 0, 0), (11, .aload_n 0, 12, 0, 0, 0), (12, .getfield 18, 15, 2, 4, 0), (15, .iload_n 2, 16, 0, 0, 0), (16, .iaload, 17, 0, 0, 0), (17, .iadd, 18, 0, 0, 0), (18, .istore_n 1, 19, 0, 0, 0), (19, .iinc 2 1, 22, 1, 0, 0), (22, .goto (-18), 25, 4, 0, 0), (25, .iload_n 1, 26, 0, 0, 0), (26, .ireturn, 27, 0, 0, 0)])
def zX3_allTokens : yE := (yX3_allTokens, cX3_allTokens, 1, (some .int), [(0, .aload_n 0, 1, 0, 0, 0), (1, .sipush 255, 4, 255, 0, 0), (4, .invokevirtual 91, 7, 48, 1, 2), (7, .ireturn, 8, 0, 0, 0)])
def zX3_copy : yE := (yX3_copy, cX3_copy, 2, none, [(0, .aload_n 0, 1, 0, 0, 0), (1, .aload_n 1, 2, 0, 0, 0), (2, .getfield 27, 5, 2, 0, 0), (5, .putfield 27, 8, 2, 0, 0), (8, .aload_n 0, 9, 0, 0, 0), (9, .aload_n 1, 10, 0, 0, 0), (10, .getfield 31, 13, 2, 1, 0), (13, .putfield 31, 16, 2, 1, 0), (16, .aload_n 1, 17, 0, 0, 0), (17, .getfield 9, 20, 2, 2, 0), (20, .iconst 0, 21, 0, 0, 0), (21, .aload_n 0, 22, 0, 0, 0), (22, .getfield 9, 25, 2, 2, 0), (25, .iconst 0, 26, 0, 0, 0), (26, .bipush 8, 28, 8, 0, 0), (28, .invokestatic 34, 31, 0, 0, 98), (31, .aload_n 1, 32, 0, 0, 0), (32, .getfield 15, 35, 2, 3, 0), (35, .iconst 0, 36, 0, 0, 0), (36, .aload_n 0, 37, 0, 0, 0), (37, .getfield 15, 40, 2, 3, 0), (40, .iconst 0, 41, 0, 0, 0), (41, .bipush 8, 43, 8, 0, 0), (43, .invokestatic 34, 46, 0, 0, 98), (46, .aload_n 1, 47, 0, 0, 0), (47, .getfield 18, 50, 2, 4, 0), (50, .iconst 0, 51, 0, 0, 0), (51, .aload_n 0, 52, 0, 0, 0), (52, .getfield 18, 55, 2, 4, 0), (55, .iconst 0, 56, 0, 0, 0), (56, .bipush 8, 58, 8, 0, 0), (58, .invokestatic 34, 61, 0, 0, 98), (61, .aload_n 1, 62, 0, 0, 0), (62, .getfield 21, 65, 2, 5, 0), (65, .iconst 0, 66, 0, 0, 0), (66, .aload_n 0, 67, 0, 0, 0), (67, .getfield 21, 70, 2, 5, 0), (70, .iconst 0, 71, 0, 0, 0), (71, .bipush 64, 73, 64, 0, 0), (73, .invokestatic 34, 76, 0, 0, 98), (76, .aload_n 1, 77, 0, 0, 0), (77, .getfield 24, 80, 2, 6, 0), (80, .iconst 0, 81, 0, 0, 0), (81, .aload_n 0, 82, 0, 0, 0), (82, .getfield 24, 85, 2, 6, 0), (85, .iconst 0, 86, 0, 0, 0), (86, .bipush 64, 88, 64, 0, 0), (88, .invokestatic 34, 91, 0, 0, 98), (91, .return_, 92, 0, 0, 0)])
def zX3_greatestClosed : yE := (yX3_greatestClosed, cX3_greatestClosed, 8, (some .int), [(0, .iload_n 1, 1, 0, 0, 0), (1, .istore 4, 3, 0, 0, 0), (3, .iconst 0, 4, 0, 0, 0), (4, .istore 5, 6, 0, 0, 0), (6, .iload 5, 8, 0, 0, 0), (8, .bipush 8, 10, 8, 0, 0), (10, .if_icmp .gt 68, 13, 78, 0, 0), (13, .iload 4, 15, 0, 0, 0), (15, .istore 6, 17, 0, 0, 0), (17, .iconst 0, 18, 0, 0, 0), (18, .istore 7, 20, 0, 0, 0), (20, .iload 7, 22, 0, 0, 0), (22, .aload_n 0, 23, 0, 0, 0), (23, .getfield 31, 26, 2, 1, 0), (26, .if_icmp .ge 36, 29, 62, 0, 0), (29, .aload_n 0, 30, 0, 0, 0), (30, .aload_n 3, 31, 0, 0, 0), (31, .iload 7, 33, 0, 0, 0), (36, .iload 4, 38, 0, 0, 0), (38, .iand, 39, 0, 0, 0), (39, .ifCond .ne 17, 42, 56, 0, 0), (42, .iload 4, 44, 0, 0, 0), (44, .aload_n 0, 45, 0, 0, 0), (45, .aload_n 2, 46, 0, 0, 0), (46, .iload 7, 48, 0, 0, 0), (51, .iconst (-1), 52, 4294967295, 0, 0), (53, .iand, 54, 0, 0, 0), (54, .istore 4, 56, 0, 0, 0), (56, .iinc 7 1, 59, 1, 0, 0), (59, .goto (-39), 62, 20, 0, 0), (62, .iload 4, 64, 0, 0, 0), (64, .iload 6, 66, 0, 0, 0), (66, .if_icmp .ne 6, 69, 72, 0, 0), (69, .iload 4, 71, 0, 0, 0), (71, .ireturn, 72, 0, 0, 0), (72, .iinc 5 1, 75, 1, 0, 0), (75, .goto (-69), 78, 6, 0, 0), (78, .iload 4, 80, 0, 0, 0), (80, .ireturn, 81, 0, 0, 0)])
def zX3_hasMove : yE := (yX3_hasMove, cX3_hasMove, 2, (some .boolean), [(0, .iload_n 1, 1, 0, 0, 0), (1, .ifCond .lt 21, 4, 22, 0, 0), (4, .iload_n 1, 5, 0, 0, 0), (5, .aload_n 0, 6, 0, 0, 0), (6, .getfield 31, 9, 2, 1, 0), (9, .if_icmp .ge 13, 12, 22, 0, 0), (12, .iload_n 1, 13, 0, 0, 0), (13, .bipush 8, 15, 8, 0, 0), (15, .if_icmp .ge 7, 18, 22, 0, 0), (18, .iconst 1, 19, 1, 0, 0), (19, .goto 4, 22, 23, 0, 0), (22, .iconst 0, 23, 0, 0, 0), (23, .ireturn, 24, 0, 0, 0)])
def zX3_hasPlace : yE := (yX3_hasPlace, cX3_hasPlace, 2, (some .boolean), [(0, .iload_n 1, 1, 0, 0, 0), (1, .ifCond .lt 21, 4, 22, 0, 0), (4, .iload_n 1, 5, 0, 0, 0), (5, .aload_n 0, 6, 0, 0, 0), (6, .getfield 27, 9, 2, 0, 0), (9, .if_icmp .ge 13, 12, 22, 0, 0), (12, .iload_n 1, 13, 0, 0, 0), (13, .bipush 8, 15, 8, 0, 0), (15, .if_icmp .ge 7, 18, 22, 0, 0), (18, .iconst 1, 19, 1, 0, 0), (19, .goto 4, 22, 23, 0, 0), (22, .iconst 0, 23, 0, 0, 0), (23, .ireturn, 24, 0, 0, 0)])
def zX3_makeBySeed : yE := (yX3_makeBySeed, cX3_makeBySeed, 8, (some .int), [(0, .iload_n 1, 1, 0, 0, 0), (1, .ifCond .lt 14, 4, 15, 0, 0), (4, .iload_n 2, 5, 0, 0, 0), (5, .iconst 1, 6, 1, 0, 0), (6, .if_icmp .lt 9, 9, 15, 0, 0), (9, .iload_n 2, 10, 0, 0, 0), (10, .bipush 99, 12, 99, 0, 0), (12, .if_icmp .le 6, 15, 18, 0, 0), (15, .bipush (-2), 17, 4294967294, 0, 0), (17, .ireturn, 18, 0, 0, 0), (18, .iload_n 1, 19, 0, 0, 0), (19, .i2l, 20, 0, 0, 0), (20, .lstore_n 3, 21, 0, 0, 0), (21, .iconst 0, 22, 0, 0, 0), (22, .istore 5, 24, 0, 0, 0), (24, .iload 5, 26, 0, 0, 0), (26, .iload_n 2, 27, 0, 0, 0), (27, .if_icmp .ge 63, 30, 90, 0, 0), (30, .aload_n 0, 31, 0, 0, 0), (31, .invokevirtual 54, 34, 45, 0, 2), (34, .istore 6, 36, 0, 0, 0), (36, .iload 6, 38, 0, 0, 0), (38, .invokestatic 58, 41, 119, 1, 0), (41, .istore 7, 43, 0, 0, 0), (43, .iload 7, 45, 0, 0, 0), (45, .ifCond .ne 6, 48, 51, 0, 0), (48, .iload 5, 50, 0, 0, 0), (50, .ireturn, 51, 0, 0, 0), (51, .lload_n 3, 52, 0, 0, 0), (52, .ldc2_w 64, 55, 1103515245, 0, 0), (56, .ldc2_w 66, 59, 12345, 0, 0), (60, .ldc2_w 68, 63, 2147483648, 0, 0), (64, .lstore_n 3, 65, 0, 0, 0), (65, .aload_n 0, 66, 0, 0, 0), (66, .iload 6, 68, 0, 0, 0), (68, .lload_n 3, 69, 0, 0, 0), (69, .ldc2_w 70, 72, 65536, 0, 0), (73, .iload 7, 75, 0, 0, 0), (75, .i2l, 76, 0, 0, 0), (77, .l2i, 78, 0, 0, 0), (84, .iinc 5 1, 87, 1, 0, 0), (87, .goto (-63), 90, 24, 0, 0), (90, .iload_n 2, 91, 0, 0, 0), (91, .ireturn, 92, 0, 0, 0)])
def zX3_makeOne : yE := (yX3_makeOne, cX3_makeOne, 2, (some .int), [(0, .aload_n 0, 1, 0, 0, 0), (1, .iload_n 1, 2, 0, 0, 0), (2, .invokevirtual 40, 5, 41, 1, 2), (5, .ifCond .ne 5, 8, 10, 0, 0), (8, .iconst (-1), 9, 4294967295, 0, 0), (9, .ireturn, 10, 0, 0, 0), (10, .aload_n 0, 11, 0, 0, 0), (11, .iload_n 1, 12, 0, 0, 0), (15, .ifCond .ne 6, 18, 21, 0, 0), (18, .bipush (-5), 20, 4294967291, 0, 0), (20, .ireturn, 21, 0, 0, 0), (21, .aload_n 0, 22, 0, 0, 0), (22, .iload_n 1, 23, 0, 0, 0), (26, .aload_n 0, 27, 0, 0, 0), (27, .invokevirtual 54, 30, 45, 0, 2), (30, .invokestatic 58, 33, 119, 1, 0), (33, .ireturn, 34, 0, 0, 0)])
def zX3_possibleMoves : yE := (yX3_possibleMoves, cX3_possibleMoves, 3, (some .int), [(0, .iconst 0, 1, 0, 0, 0), (1, .istore_n 1, 2, 0, 0, 0), (2, .iconst 0, 3, 0, 0, 0), (3, .istore_n 2, 4, 0, 0, 0), (4, .iload_n 2, 5, 0, 0, 0), (5, .aload_n 0, 6, 0, 0, 0), (6, .getfield 31, 9, 2, 1, 0), (9, .if_icmp .ge 23, 12, 32, 0, 0), (12, .aload_n 0, 13, 0, 0, 0), (13, .iload_n 2, 14, 0, 0, 0), (17, .ifCond .eq 9, 20, 26, 0, 0), (20, .iload_n 1, 21, 0, 0, 0), (21, .iconst 1, 22, 1, 0, 0), (22, .iload_n 2, 23, 0, 0, 0), (23, .ishl, 24, 0, 0, 0), (24, .ior, 25, 0, 0, 0), (25, .istore_n 1, 26, 0, 0, 0), (26, .iinc 2 1, 29, 1, 0, 0), (29, .goto (-25), 32, 4, 0, 0), (32, .iload_n 1, 33, 0, 0, 0), (33, .ireturn, 34, 0, 0, 0)])
def zX3_setArc : yE := (yX3_setArc, cX3_setArc, 7, (some .int), [(0, .aload_n 0, 1, 0, 0, 0), (1, .iload_n 1, 2, 0, 0, 0), (2, .invokevirtual 40, 5, 41, 1, 2), (5, .ifCond .eq 11, 8, 16, 0, 0), (8, .aload_n 0, 9, 0, 0, 0), (9, .iload_n 2, 10, 0, 0, 0), (10, .invokevirtual 44, 13, 42, 1, 2), (13, .ifCond .ne 5, 16, 18, 0, 0), (16, .iconst (-1), 17, 4294967295, 0, 0), (17, .ireturn, 18, 0, 0, 0), (18, .iload_n 3, 19, 0, 0, 0), (19, .ifCond .lt 21, 22, 40, 0, 0), (22, .iload_n 3, 23, 0, 0, 0), (23, .bipush 9, 25, 9, 0, 0), (25, .if_icmp .gt 15, 28, 40, 0, 0), (28, .iload 4, 30, 0, 0, 0), (30, .ifCond .lt 10, 33, 40, 0, 0), (33, .iload 4, 35, 0, 0, 0), (35, .bipush 9, 37, 9, 0, 0), (37, .if_icmp .le 6, 40, 43, 0, 0), (40, .bipush (-2), 42, 4294967294, 0, 0), (42, .ireturn, 43, 0, 0, 0), (43, .iload_n 1, 44, 0, 0, 0), (44, .bipush 8, 46, 8, 0, 0), (46, .imul, 47, 0, 0, 0), (47, .iload_n 2, 48, 0, 0, 0), (48, .iadd, 49, 0, 0, 0), (49, .istore 5, 51, 0, 0, 0), (51, .bipush 10, 53, 10, 0, 0), (53, .aload_n 0, 54, 0, 0, 0), (54, .getfield 21, 57, 2, 5, 0), (57, .iload 5, 59, 0, 0, 0), (59, .iaload, 60, 0, 0, 0), (60, .imul, 61, 0, 0, 0), (61, .aload_n 0, 62, 0, 0, 0), (62, .getfield 24, 65, 2, 6, 0), (65, .iload 5, 67, 0, 0, 0), (67, .iaload, 68, 0, 0, 0), (68, .iadd, 69, 0, 0, 0), (69, .istore 6, 71, 0, 0, 0), (71, .aload_n 0, 72, 0, 0, 0), (72, .getfield 21, 75, 2, 5, 0), (75, .iload 5, 77, 0, 0, 0), (77, .iload_n 3, 78, 0, 0, 0), (78, .iastore, 79, 0, 0, 0), (79, .aload_n 0, 80, 0, 0, 0), (80, .getfield 24, 83, 2, 6, 0), (83, .iload 5, 85, 0, 0, 0), (85, .iload 4, 87, 0, 0, 0), (87, .iastore, 88, 0, 0, 0), (88, .iload 6, 90, 0, 0, 0), (90, .ireturn, 91, 0, 0, 0)])
def zX3_setTokens : yE := (yX3_setTokens, cX3_setTokens, 4, (some .int), [(0, .aload_n 0, 1, 0, 0, 0), (1, .iload_n 1, 2, 0, 0, 0), (2, .invokevirtual 44, 5, 42, 1, 2), (5, .ifCond .ne 5, 8, 10, 0, 0), (8, .iconst (-1), 9, 4294967295, 0, 0), (9, .ireturn, 10, 0, 0, 0), (10, .iload_n 2, 11, 0, 0, 0), (11, .ifCond .lt 10, 14, 21, 0, 0), (14, .iload_n 2, 15, 0, 0, 0), (15, .sipush 999, 18, 999, 0, 0), (18, .if_icmp .le 6, 21, 24, 0, 0), (21, .bipush (-2), 23, 4294967294, 0, 0), (23, .ireturn, 24, 0, 0, 0), (24, .aload_n 0, 25, 0, 0, 0), (25, .getfield 9, 28, 2, 2, 0), (28, .iload_n 1, 29, 0, 0, 0), (29, .iaload, 30, 0, 0, 0), (30, .istore_n 3, 31, 0, 0, 0), (31, .aload_n 0, 32, 0, 0, 0), (32, .getfield 9, 35, 2, 2, 0), (35, .iload_n 1, 36, 0, 0, 0), (36, .iload_n 2, 37, 0, 0, 0), (37, .iastore, 38, 0, 0, 0), (38, .aload_n 0, 39, 0, 0, 0), (39, .getfield 15, 42, 2, 3, 0), (42, .iload_n 1, 43, 0, 0, 0), (43, .iload_n 2, 44, 0, 0, 0), (44, .iastore, 45, 0, 0, 0), (45, .iload_n 3, 46, 0, 0, 0), (46, .ireturn, 47, 0, 0, 0)])
def zX3_tokensIn : yE := (yX3_tokensIn, cX3_tokensIn, 4, (some .int), [(0, .iconst 0, 1, 0, 0, 0), (1, .istore_n 2, 2, 0, 0, 0), (2, .iconst 0, 3, 0, 0, 0), (3, .istore_n 3, 4, 0, 0, 0), (4, .iload_n 3, 5, 0, 0, 0), (5, .bipush 8, 7, 8, 0, 0), (7, .if_icmp .ge 26, 10, 33, 0, 0), (10, .iload_n 1, 11, 0, 0, 0), (11, .iload_n 3, 12, 0, 0, 0), (12, .ishr, 13, 0, 0, 0), (13, .iconst 1, 14, 1, 0, 0), (14, .iand, 15, 0, 0, 0), (15, .ifCond .eq 12, 18, 27, 0, 0), (18, .iload_n 2, 19, 0, 0, 0), (19, .aload_n 0, 20, 0, 0, 0), (20, .getfield 9, 23, 2, 2, 0), (23, .iload_n 3, 24, 0, 0, 0), (24, .iaload, 25, 0, 0, 0), (25, .iadd, 26, 0, 0, 0), (26, .istore_n 2, 27, 0, 0, 0), (27, .iinc 3 1, 30, 1, 0, 0), (30, .goto (-26), 33, 4, 0, 0), (33, .iload_n 2, 34, 0, 0, 0), (34, .ireturn, 35, 0, 0, 0)])
def zX4_init : yE := (yX4_init, cX4_init, 1, none, [(0, .aload_n 0, 1, 0, 0, 0), (1, .invokespecial 3, 4, 0, 0, 99), (4, .aload_n 0, 5, 0, 0, 0), (5, .bipush 80, 7, 80, 0, 0), (7, .newarray .char, 9, 2, 0, 0), (9, .putfield 11, 12, 3, 0, 2), (12, .return_, 13, 0, 0, 0)])
def zX4_append : yE := (yX4_append, cX4_append, 8, (some .int), [(0, .lload_n 1, 1, 0, 0, 0), (1, .lstore_n 3, 2, 0, 0, 0), (2, .iconst 0, 3, 0, 0, 0), (3, .istore 5, 5, 0, 0, 0), (5, .iload 5, 7, 0, 0, 0), (7, .bipush 8, 9, 8, 0, 0), (9, .if_icmp .ge 48, 12, 57, 0, 0), (12, .lload_n 3, 13, 0, 0, 0), (13, .lconst 0, 14, 0, 0, 0), (14, .lcmp, 15, 0, 0, 0), (15, .ifCond .eq 42, 18, 57, 0, 0), (18, .lload_n 3, 19, 0, 0, 0), (19, .ldc2_w 15, 22, 255, 0, 0), (22, .land, 23, 0, 0, 0), (23, .lstore 6, 25, 0, 0, 0), (25, .lload 6, 27, 0, 0, 0), (27, .ldc2_w 17, 30, 33, 0, 0), (30, .lcmp, 31, 0, 0, 0), (31, .ifCond .lt 12, 34, 43, 0, 0), (34, .lload 6, 36, 0, 0, 0), (36, .ldc2_w 19, 39, 126, 0, 0), (39, .lcmp, 40, 0, 0, 0), (40, .ifCond .le 6, 43, 46, 0, 0), (43, .bipush (-2), 45, 4294967294, 0, 0), (45, .ireturn, 46, 0, 0, 0), (46, .lload_n 3, 47, 0, 0, 0), (47, .bipush 8, 49, 8, 0, 0), (49, .lushr, 50, 0, 0, 0), (50, .lstore_n 3, 51, 0, 0, 0), (51, .iinc 5 1, 54, 1, 0, 0), (54, .goto (-49), 57, 5, 0, 0), (57, .iload 5, 59, 0, 0, 0), (59, .ifCond .ne 6, 62, 65, 0, 0), (62, .bipush (-2), 64, 4294967294, 0, 0), (64, .ireturn, 65, 0, 0, 0), (65, .aload_n 0, 66, 0, 0, 0), (66, .getfield 21, 69, 3, 1, 0), (69, .iload 5, 71, 0, 0, 0), (71, .iadd, 72, 0, 0, 0), (72, .bipush 80, 74, 80, 0, 0), (74, .if_icmp .le 6, 77, 80, 0, 0), (77, .bipush (-4), 79, 4294967292, 0, 0), (79, .ireturn, 80, 0, 0, 0), (80, .iconst 0, 81, 0, 0, 0), (81, .istore 6, 83, 0, 0, 0), (83, .iload 6, 85, 0, 0, 0), (85, .iload 5, 87, 0, 0, 0), (87, .if_icmp .ge 39, 90, 126, 0, 0), (90, .aload_n 0, 91, 0, 0, 0), (91, .getfield 11, 94, 3, 0, 0), (94, .aload_n 0, 95, 0, 0, 0), (95, .getfield 21, 98, 3, 1, 0), (98, .iload 6, 100, 0, 0, 0), (100, .iadd, 101, 0, 0, 0), (101, .lload_n 1, 102, 0, 0, 0), (102, .bipush 8, 104, 8, 0, 0), (104, .iload 5, 106, 0, 0, 0), (106, .iconst 1, 107, 1, 0, 0), (107, .isub, 108, 0, 0, 0), (108, .iload 6, 110, 0, 0, 0), (110, .isub, 111, 0, 0, 0), (111, .imul, 112, 0, 0, 0), (112, .lushr, 113, 0, 0, 0), (113, .ldc2_w 15, 116, 255, 0, 0), (116, .land, 117, 0, 0, 0), (117, .l2i, 118, 0, 0, 0), (118, .i2c, 119, 0, 0, 0), (119, .castore, 120, 0, 0, 0), (120, .iinc 6 1, 123, 1, 0, 0), (123, .goto (-40), 126, 83, 0, 0), (126, .aload_n 0, 127, 0, 0, 0), (127, .dup, 128, 0, 0, 0), (128, .getfield 21, 131, 3, 1, 0), (131, .iload 5, 133, 0, 0, 0), (133, .iadd, 134, 0, 0, 0), (134, .putfield 21, 137, 3, 1, 0), (137, .aload_n 0, 138, 0, 0, 0), (138, .getfield 21, 141, 3, 1, 0), (141, .ireturn, 142, 0, 0, 0)])
def zX4_firstFault : yE := (yX4_firstFault, cX4_firstFault, 3, (some .int), [(0, .iconst 0, 1, 0, 0, 0), (1, .istore_n 1, 2, 0, 0, 0), (2, .iconst 0, 3, 0, 0, 0), (3, .istore_n 2, 4, 0, 0, 0), (4, .iload_n 2, 5, 0, 0, 0), (5, .aload_n 0, 6, 0, 0, 0), (6, .getfield 21, 9, 3, 1, 0), (9, .if_icmp .ge 31, 12, 40, 0, 0), (12, .iload_n 1, 13, 0, 0, 0), (13, .aload_n 0, 14, 0, 0, 0), (14, .iload_n 2, 15, 0, 0, 0), (18, .aload_n 0, 19, 0, 0, 0), (19, .iload_n 2, 20, 0, 0, 0), (26, .istore_n 1, 27, 0, 0, 0), (27, .iload_n 1, 28, 0, 0, 0), (28, .iconst (-1), 29, 4294967295, 0, 0), (29, .if_icmp .ne 5, 32, 34, 0, 0), (32, .iload_n 2, 33, 0, 0, 0), (33, .ireturn, 34, 0, 0, 0), (34, .iinc 2 1, 37, 1, 0, 0), (37, .goto (-33), 40, 4, 0, 0), (40, .iload_n 1, 41, 0, 0, 0), (41, .invokestatic 41, 44, 52, 1, 0), (44, .ifCond .eq 8, 47, 52, 0, 0), (47, .bipush (-6), 49, 4294967290, 0, 0), (49, .goto 7, 52, 56, 0, 0), (52, .aload_n 0, 53, 0, 0, 0), (53, .getfield 21, 56, 3, 1, 0), (56, .ireturn, 57, 0, 0, 0)])
def zX4_mayEnd : yE := (yX4_mayEnd, cX4_mayEnd, 1, (some .boolean), [(0, .iload_n 0, 1, 0, 0, 0), (1, .tableswitch 65 2 13 #[63, 63, 63, 63, 65, 63, 65, 63, 65, 63, 65, 63], 64, 0, 0, 0), (64, .iconst 1, 65, 1, 0, 0), (65, .ireturn, 66, 0, 0, 0), (66, .iconst 0, 67, 0, 0, 0), (67, .ireturn, 68, 0, 0, 0)])
def zX5_init : yE := (yX5_init, cX5_init, 1, none, [(0, .aload_n 0, 1, 0, 0, 0), (1, .invokespecial 3, 4, 0, 0, 99), (4, .aload_n 0, 5, 0, 0, 0), (5, .new 9, 8, 1, 7, 13), (8, .dup, 9, 0, 0, 0), (9, .invokespecial 11, 12, 31, 0, 1), (12, .putfield 12, 15, 4, 0, 2), (15, .aload_n 0, 16, 0, 0, 0), (16, .sipush 300, 19, 300, 0, 0), (19, .newarray .int, 21, 0, 0, 0), (21, .putfield 18, 24, 4, 1, 2), (24, .aload_n 0, 25, 0, 0, 0), (25, .sipush 1024, 28, 1024, 0, 0), (28, .newarray .int, 30, 0, 0, 0), (30, .putfield 22, 33, 4, 2, 2), (33, .return_, 34, 0, 0, 0)])
def zX5_find : yE := (yX5_find, cX5_find, 3, none, [(0, .aload_n 0, 1, 0, 0, 0), (1, .getfield 12, 4, 4, 0, 0), (4, .aload_n 1, 5, 0, 0, 0), (5, .invokevirtual 25, 8, 32, 1, 1), (8, .ifCond .ne 4, 11, 12, 0, 0), (11, .return_, 12, 0, 0, 0), (12, .aload_n 0, 13, 0, 0, 0), (13, .iconst 0, 14, 0, 0, 0), (14, .putfield 29, 17, 4, 3, 0), (17, .aload_n 0, 18, 0, 0, 0), (18, .getfield 22, 21, 4, 2, 0), (21, .iconst 0, 22, 0, 0, 0), (22, .invokestatic 33, 25, 120, 2, 0), (25, .aload_n 0, 26, 0, 0, 0), (26, .iconst 0, 27, 0, 0, 0), (27, .invokevirtual 39, 30, 57, 1, 4), (30, .iconst 0, 31, 0, 0, 0), (31, .istore_n 2, 32, 0, 0, 0), (32, .iload_n 2, 33, 0, 0, 0), (33, .sipush 300, 36, 300, 0, 0), (36, .if_icmp .ge 35, 39, 71, 0, 0), (39, .iload_n 2, 40, 0, 0, 0), (40, .aload_n 0, 41, 0, 0, 0), (41, .getfield 12, 44, 4, 0, 0), (44, .getfield 43, 47, 1, 4, 0), (47, .if_icmp .ge 24, 50, 71, 0, 0), (50, .aload_n 0, 51, 0, 0, 0), (51, .getfield 12, 54, 4, 0, 0), (54, .getfield 46, 57, 1, 5, 0), (57, .ifCond .ne 14, 60, 71, 0, 0), (60, .aload_n 0, 61, 0, 0, 0), (61, .iload_n 2, 62, 0, 0, 0), (62, .invokevirtual 50, 65, 55, 1, 4), (65, .iinc 2 1, 68, 1, 0, 0), (68, .goto (-36), 71, 32, 0, 0), (71, .return_, 72, 0, 0, 0)])
def zX5_follow : yE := (yX5_follow, cX5_follow, 4, none, [(0, .iconst 1, 1, 1, 0, 0), (1, .istore_n 2, 2, 0, 0, 0), (2, .iconst 0, 3, 0, 0, 0), (3, .istore_n 3, 4, 0, 0, 0), (4, .iload_n 3, 5, 0, 0, 0), (5, .aload_n 0, 6, 0, 0, 0), (6, .getfield 12, 9, 4, 0, 0), (9, .getfield 53, 12, 1, 0, 0), (12, .getfield 57, 15, 2, 1, 0), (15, .if_icmp .ge 37, 18, 52, 0, 0), (18, .aload_n 0, 19, 0, 0, 0), (19, .getfield 12, 22, 4, 0, 0), (22, .iload_n 1, 23, 0, 0, 0), (23, .iload_n 3, 24, 0, 0, 0), (24, .ldc 61, 26, 99999, 0, 0), (29, .ifCond .eq 17, 32, 46, 0, 0), (32, .iconst 0, 33, 0, 0, 0), (33, .istore_n 2, 34, 0, 0, 0), (34, .aload_n 0, 35, 0, 0, 0), (35, .aload_n 0, 36, 0, 0, 0), (36, .getfield 18, 39, 4, 1, 0), (39, .iload_n 1, 40, 0, 0, 0), (40, .iaload, 41, 0, 0, 0), (41, .iconst 1, 42, 1, 0, 0), (42, .iadd, 43, 0, 0, 0), (43, .invokevirtual 39, 46, 57, 1, 4), (46, .iinc 3 1, 49, 1, 0, 0), (49, .goto (-45), 52, 4, 0, 0), (52, .iload_n 2, 53, 0, 0, 0), (53, .ifCond .eq 13, 56, 66, 0, 0), (56, .aload_n 0, 57, 0, 0, 0), (57, .dup, 58, 0, 0, 0), (58, .getfield 29, 61, 4, 3, 0), (61, .iconst 1, 62, 1, 0, 0), (62, .iadd, 63, 0, 0, 0), (63, .putfield 29, 66, 4, 3, 0), (66, .return_, 67, 0, 0, 0)])
def zX5_hash : yE := (yX5_hash, cX5_hash, 3, (some .int), [(0, .iconst 0, 1, 0, 0, 0), (1, .istore_n 1, 2, 0, 0, 0), (2, .iconst 0, 3, 0, 0, 0), (3, .istore_n 2, 4, 0, 0, 0), (4, .iload_n 2, 5, 0, 0, 0), (5, .bipush 8, 7, 8, 0, 0), (7, .if_icmp .ge 18, 10, 25, 0, 0), (10, .iload_n 1, 11, 0, 0, 0), (11, .bipush 31, 13, 31, 0, 0), (13, .imul, 14, 0, 0, 0), (14, .aload_n 0, 15, 0, 0, 0), (15, .iload_n 2, 16, 0, 0, 0), (16, .iaload, 17, 0, 0, 0), (17, .iadd, 18, 0, 0, 0), (18, .istore_n 1, 19, 0, 0, 0), (19, .iinc 2 1, 22, 1, 0, 0), (22, .goto (-18), 25, 4, 0, 0), (25, .iload_n 1, 26, 0, 0, 0), (26, .ldc 81, 28, 2654435769, 0, 0), (28, .imul, 29, 0, 0, 0), (29, .bipush 22, 31, 22, 0, 0), (31, .iushr, 32, 0, 0, 0), (32, .sipush 1023, 35, 1023, 0, 0), (35, .iand, 36, 0, 0, 0), (36, .ireturn, 37, 0, 0, 0)])
def zX5_meet : yE := (yX5_meet, cX5_meet, 4, none, [(0, .aload_n 0, 1, 0, 0, 0), (1, .getfield 12, 4, 4, 0, 0), (4, .getfield 66, 7, 1, 3, 0), (7, .invokestatic 69, 10, 56, 1, 0), (10, .istore_n 2, 11, 0, 0, 0), (11, .iconst 0, 12, 0, 0, 0), (12, .istore_n 3, 13, 0, 0, 0), (13, .iload_n 3, 14, 0, 0, 0), (14, .sipush 1024, 17, 1024, 0, 0), (17, .if_icmp .ge 45, 20, 62, 0, 0), (20, .aload_n 0, 21, 0, 0, 0), (21, .getfield 22, 24, 4, 2, 0), (24, .iload_n 2, 25, 0, 0, 0), (25, .iaload, 26, 0, 0, 0), (26, .ifCond .eq 36, 29, 62, 0, 0), (29, .aload_n 0, 30, 0, 0, 0), (30, .getfield 12, 33, 4, 0, 0), (33, .aload_n 0, 34, 0, 0, 0), (34, .getfield 22, 37, 4, 2, 0), (37, .iload_n 2, 38, 0, 0, 0), (38, .iaload, 39, 0, 0, 0), (39, .iconst 1, 40, 1, 0, 0), (40, .isub, 41, 0, 0, 0), (44, .ifCond .eq 4, 47, 48, 0, 0), (47, .return_, 48, 0, 0, 0), (48, .iload_n 2, 49, 0, 0, 0), (49, .iconst 1, 50, 1, 0, 0), (50, .iadd, 51, 0, 0, 0), (51, .sipush 1023, 54, 1023, 0, 0), (54, .iand, 55, 0, 0, 0), (55, .istore_n 2, 56, 0, 0, 0), (56, .iinc 3 1, 59, 1, 0, 0), (59, .goto (-46), 62, 13, 0, 0), (62, .aload_n 0, 63, 0, 0, 0), (63, .getfield 12, 66, 4, 0, 0), (66, .invokevirtual 77, 69, 33, 0, 1), (69, .ifCond .eq 31, 72, 100, 0, 0), (72, .aload_n 0, 73, 0, 0, 0), (73, .getfield 18, 76, 4, 1, 0), (76, .aload_n 0, 77, 0, 0, 0), (77, .getfield 12, 80, 4, 0, 0), (80, .getfield 43, 83, 1, 4, 0), (83, .iconst 1, 84, 1, 0, 0), (84, .isub, 85, 0, 0, 0), (85, .iload_n 1, 86, 0, 0, 0), (86, .iastore, 87, 0, 0, 0), (87, .aload_n 0, 88, 0, 0, 0), (88, .getfield 22, 91, 4, 2, 0), (91, .iload_n 2, 92, 0, 0, 0), (92, .aload_n 0, 93, 0, 0, 0), (93, .getfield 12, 96, 4, 0, 0), (96, .getfield 43, 99, 1, 4, 0), (99, .iastore, 100, 0, 0, 0), (100, .return_, 101, 0, 0, 0)])
def zX6_init : yE := (yX6_init, cX6_init, 1, none, [(0, .aload_n 0, 1, 0, 0, 0), (1, .invokespecial 3, 4, 0, 0, 99), (4, .aload_n 0, 5, 0, 0, 0), (5, .new 9, 8, 2, 7, 124), (8, .dup, 9, 0, 0, 0), (9, .invokespecial 11, 12, 34, 0, 2), (12, .putfield 12, 15, 5, 0, 2), (15, .aload_n 0, 16, 0, 0, 0), (16, .bipush 64, 18, 64, 0, 0), (18, .newarray .int, 20, 0, 0, 0), (20, .putfield 18, 23, 5, 2, 2), (23, .aload_n 0, 24, 0, 0, 0), (24, .bipush 8, 26, 8, 0, 0), (26, .newarray .int, 28, 0, 0, 0), (28, .putfield 22, 31, 5, 3, 2), (31, .aload_n 0, 32, 0, 0, 0), (32, .bipush 8, 34, 8, 0, 0), (34, .newarray .int, 36, 0, 0, 0), (36, .putfield 25, 39, 5, 4, 2), (39, .aload_n 0, 40, 0, 0, 0), (40, .sipush 256, 43, 256, 0, 0), (43, .newarray .boolean, 45, 1, 0, 0), (45, .putfield 28, 48, 5, 5, 2), (48, .aload_n 0, 49, 0, 0, 0), (49, .bipush 64, 51, 64, 0, 0), (51, .newarray .int, 53, 0, 0, 0), (53, .putfield 32, 56, 5, 6, 2), (56, .return_, 57, 0, 0, 0)])
def zX6_find : yE := (yX6_find, cX6_find, 3, none, [(0, .aload_n 0, 1, 0, 0, 0), (1, .getfield 39, 4, 5, 1, 0), (4, .ifCond .eq 15, 7, 19, 0, 0), (7, .aload_n 0, 8, 0, 0, 0), (8, .getfield 12, 11, 5, 0, 0), (11, .aload_n 1, 12, 0, 0, 0), (15, .ifCond .eq 4, 18, 19, 0, 0), (18, .return_, 19, 0, 0, 0), (19, .aload_n 0, 20, 0, 0, 0), (20, .getfield 12, 23, 5, 0, 0), (23, .aload_n 1, 24, 0, 0, 0), (24, .invokevirtual 47, 27, 39, 1, 2), (27, .aload_n 0, 28, 0, 0, 0), (28, .iconst 1, 29, 1, 0, 0), (29, .putfield 39, 32, 5, 1, 1), (32, .aload_n 0, 33, 0, 0, 0), (33, .iconst 0, 34, 0, 0, 0), (34, .putfield 51, 37, 5, 7, 0), (37, .iconst 0, 38, 0, 0, 0), (38, .istore_n 2, 39, 0, 0, 0), (39, .iload_n 2, 40, 0, 0, 0), (40, .bipush 64, 42, 64, 0, 0), (42, .if_icmp .ge 28, 45, 70, 0, 0), (45, .aload_n 0, 46, 0, 0, 0), (46, .getfield 18, 49, 5, 2, 0), (49, .iload_n 2, 50, 0, 0, 0), (50, .aload_n 1, 51, 0, 0, 0), (51, .getfield 55, 54, 2, 6, 0), (54, .iload_n 2, 55, 0, 0, 0), (55, .iaload, 56, 0, 0, 0), (56, .aload_n 1, 57, 0, 0, 0), (57, .getfield 58, 60, 2, 5, 0), (60, .iload_n 2, 61, 0, 0, 0), (61, .iaload, 62, 0, 0, 0), (62, .isub, 63, 0, 0, 0), (63, .iastore, 64, 0, 0, 0), (64, .iinc 2 1, 67, 1, 0, 0), (67, .goto (-28), 70, 39, 0, 0), (70, .iconst 1, 71, 1, 0, 0), (71, .istore_n 2, 72, 0, 0, 0), (72, .iload_n 2, 73, 0, 0, 0), (73, .iconst 1, 74, 1, 0, 0), (74, .aload_n 1, 75, 0, 0, 0), (75, .getfield 61, 78, 2, 0, 0), (78, .ishl, 79, 0, 0, 0), (79, .if_icmp .ge 35, 82, 114, 0, 0), (82, .aload_n 0, 83, 0, 0, 0), (83, .getfield 28, 86, 5, 5, 0), (86, .iload_n 2, 87, 0, 0, 0), (87, .aload_n 0, 88, 0, 0, 0), (88, .iload_n 2, 89, 0, 0, 0), (92, .bastore, 93, 0, 0, 0), (93, .aload_n 0, 94, 0, 0, 0), (94, .getfield 28, 97, 5, 5, 0), (97, .iload_n 2, 98, 0, 0, 0), (98, .baload, 99, 0, 0, 0), (99, .ifCond .ne 9, 102, 108, 0, 0), (102, .aload_n 0, 103, 0, 0, 0), (103, .iload_n 2, 104, 0, 0, 0), (104, .iconst 0, 105, 0, 0, 0), (108, .iinc 2 1, 111, 1, 0, 0), (111, .goto (-39), 114, 72, 0, 0), (114, .return_, 115, 0, 0, 0)])
def zX7_init : yE := (yX7_init, cX7_init, 1, none, [(0, .aload_n 0, 1, 0, 0, 0), (1, .invokespecial 3, 4, 0, 0, 99), (4, .aload_n 0, 5, 0, 0, 0), (5, .new 9, 8, 1, 7, 13), (8, .dup, 9, 0, 0, 0), (9, .invokespecial 11, 12, 31, 0, 1), (12, .putfield 12, 15, 6, 0, 2), (15, .aload_n 0, 16, 0, 0, 0), (16, .sipush 300, 19, 300, 0, 0), (19, .newarray .int, 21, 0, 0, 0), (21, .putfield 18, 24, 6, 1, 2), (24, .aload_n 0, 25, 0, 0, 0), (25, .sipush 300, 28, 300, 0, 0), (28, .newarray .int, 30, 0, 0, 0), (30, .putfield 22, 33, 6, 2, 2), (33, .aload_n 0, 34, 0, 0, 0), (34, .sipush 300, 37, 300, 0, 0), (37, .newarray .int, 39, 0, 0, 0), (39, .putfield 25, 42, 6, 3, 2), (42, .return_, 43, 0, 0, 0)])
def zX7_add : yE := (yX7_add, cX7_add, 3, none, [(0, .aload_n 0, 1, 0, 0, 0), (1, .getfield 12, 4, 6, 0, 0), (4, .invokevirtual 51, 7, 33, 0, 1), (7, .ifCond .eq 45, 10, 52, 0, 0), (10, .aload_n 0, 11, 0, 0, 0), (11, .getfield 18, 14, 6, 1, 0), (14, .aload_n 0, 15, 0, 0, 0), (15, .getfield 12, 18, 6, 0, 0), (18, .getfield 40, 21, 1, 4, 0), (21, .iconst 1, 22, 1, 0, 0), (22, .isub, 23, 0, 0, 0), (23, .iload_n 1, 24, 0, 0, 0), (24, .iastore, 25, 0, 0, 0), (25, .aload_n 0, 26, 0, 0, 0), (26, .getfield 22, 29, 6, 2, 0), (29, .aload_n 0, 30, 0, 0, 0), (30, .getfield 12, 33, 6, 0, 0), (33, .getfield 40, 36, 1, 4, 0), (36, .iconst 1, 37, 1, 0, 0), (37, .isub, 38, 0, 0, 0), (38, .iload_n 2, 39, 0, 0, 0), (39, .iastore, 40, 0, 0, 0), (40, .aload_n 0, 41, 0, 0, 0), (41, .aload_n 0, 42, 0, 0, 0), (42, .getfield 32, 45, 6, 4, 0), (45, .iload_n 2, 46, 0, 0, 0), (46, .invokestatic 55, 49, 0, 0, 96), (49, .putfield 32, 52, 6, 4, 0), (52, .return_, 53, 0, 0, 0)])
def zX7_endlessPlaces : yE := (yX7_endlessPlaces, cX7_endlessPlaces, 3, (some .int), [(0, .iconst 0, 1, 0, 0, 0), (1, .istore_n 1, 2, 0, 0, 0), (2, .iconst 0, 3, 0, 0, 0), (3, .istore_n 2, 4, 0, 0, 0), (4, .iload_n 2, 5, 0, 0, 0), (5, .bipush 8, 7, 8, 0, 0), (7, .if_icmp .ge 25, 10, 32, 0, 0), (10, .aload_n 0, 11, 0, 0, 0), (11, .iload_n 2, 12, 0, 0, 0), (12, .invokevirtual 90, 15, 65, 1, 6), (15, .ldc 89, 17, 1073741824, 0, 0), (17, .if_icmp .ne 9, 20, 26, 0, 0), (20, .iload_n 1, 21, 0, 0, 0), (21, .iconst 1, 22, 1, 0, 0), (22, .iload_n 2, 23, 0, 0, 0), (23, .ishl, 24, 0, 0, 0), (24, .ior, 25, 0, 0, 0), (25, .istore_n 1, 26, 0, 0, 0), (26, .iinc 2 1, 29, 1, 0, 0), (29, .goto (-25), 32, 4, 0, 0), (32, .iload_n 1, 33, 0, 0, 0), (33, .ireturn, 34, 0, 0, 0)])
def zX7_find : yE := (yX7_find, cX7_find, 3, none, [(0, .aload_n 0, 1, 0, 0, 0), (1, .getfield 12, 4, 6, 0, 0), (4, .aload_n 1, 5, 0, 0, 0), (5, .invokevirtual 28, 8, 32, 1, 1), (8, .ifCond .ne 4, 11, 12, 0, 0), (11, .return_, 12, 0, 0, 0), (12, .aload_n 0, 13, 0, 0, 0), (13, .iconst 0, 14, 0, 0, 0), (14, .putfield 32, 17, 6, 4, 0), (17, .aload_n 0, 18, 0, 0, 0), (18, .iconst 0, 19, 0, 0, 0), (19, .iconst 0, 20, 0, 0, 0), (20, .invokevirtual 36, 23, 61, 2, 6), (23, .iconst 0, 24, 0, 0, 0), (24, .istore_n 2, 25, 0, 0, 0), (25, .iload_n 2, 26, 0, 0, 0), (26, .sipush 300, 29, 300, 0, 0), (29, .if_icmp .ge 35, 32, 64, 0, 0), (32, .iload_n 2, 33, 0, 0, 0), (33, .aload_n 0, 34, 0, 0, 0), (34, .getfield 12, 37, 6, 0, 0), (37, .getfield 40, 40, 1, 4, 0), (40, .if_icmp .ge 24, 43, 64, 0, 0), (43, .aload_n 0, 44, 0, 0, 0), (44, .getfield 12, 47, 6, 0, 0), (47, .getfield 43, 50, 1, 5, 0), (50, .ifCond .ne 14, 53, 64, 0, 0), (53, .aload_n 0, 54, 0, 0, 0), (54, .iload_n 2, 55, 0, 0, 0), (55, .invokevirtual 47, 58, 64, 1, 6), (58, .iinc 2 1, 61, 1, 0, 0), (61, .goto (-36), 64, 25, 0, 0), (64, .return_, 65, 0, 0, 0)])
def zX7_follow : yE := (yX7_follow, cX7_follow, 6, none, [(0, .aload_n 0, 1, 0, 0, 0), (1, .getfield 22, 4, 6, 2, 0), (4, .iload_n 1, 5, 0, 0, 0), (5, .iaload, 6, 0, 0, 0), (6, .istore_n 2, 7, 0, 0, 0), (7, .iload_n 1, 8, 0, 0, 0), (8, .istore_n 3, 9, 0, 0, 0), (9, .iload_n 2, 10, 0, 0, 0), (10, .istore 4, 12, 0, 0, 0), (12, .iload 4, 14, 0, 0, 0), (14, .ifCond .lt 24, 17, 38, 0, 0), (17, .aload_n 0, 18, 0, 0, 0), (18, .getfield 25, 21, 6, 3, 0), (21, .iload 4, 23, 0, 0, 0), (23, .iload_n 3, 24, 0, 0, 0), (24, .iastore, 25, 0, 0, 0), (25, .aload_n 0, 26, 0, 0, 0), (26, .getfield 18, 29, 6, 1, 0), (29, .iload_n 3, 30, 0, 0, 0), (30, .iaload, 31, 0, 0, 0), (31, .istore_n 3, 32, 0, 0, 0), (32, .iinc 4 (-1), 35, 4294967295, 0, 0), (35, .goto (-23), 38, 12, 0, 0), (38, .iconst 0, 39, 0, 0, 0), (39, .istore 4, 41, 0, 0, 0), (41, .iload 4, 43, 0, 0, 0), (43, .iload_n 2, 44, 0, 0, 0), (44, .if_icmp .ge 28, 47, 72, 0, 0), (47, .aload_n 0, 48, 0, 0, 0), (48, .getfield 12, 51, 6, 0, 0), (51, .aload_n 0, 52, 0, 0, 0), (52, .getfield 25, 55, 6, 3, 0), (55, .iload 4, 57, 0, 0, 0), (57, .iaload, 58, 0, 0, 0), (58, .iload_n 1, 59, 0, 0, 0), (62, .ifCond .eq 4, 65, 66, 0, 0), (65, .return_, 66, 0, 0, 0), (66, .iinc 4 1, 69, 1, 0, 0), (69, .goto (-28), 72, 41, 0, 0), (72, .iconst 0, 73, 0, 0, 0), (73, .istore 4, 75, 0, 0, 0), (75, .iload 4, 77, 0, 0, 0), (77, .aload_n 0, 78, 0, 0, 0), (78, .getfield 12, 81, 6, 0, 0), (81, .getfield 65, 84, 1, 0, 0), (84, .getfield 69, 87, 2, 1, 0), (87, .if_icmp .ge 75, 90, 162, 0, 0), (90, .aload_n 0, 91, 0, 0, 0), (91, .getfield 12, 94, 6, 0, 0), (94, .getfield 43, 97, 1, 5, 0), (97, .ifCond .ne 65, 100, 162, 0, 0), (100, .aload_n 0, 101, 0, 0, 0), (101, .getfield 12, 104, 6, 0, 0), (104, .iload_n 1, 105, 0, 0, 0), (105, .iload 4, 107, 0, 0, 0), (107, .ldc 74, 109, 1073741833, 0, 0), (112, .ifCond .eq 44, 115, 156, 0, 0), (115, .iconst 0, 116, 0, 0, 0), (116, .istore 5, 118, 0, 0, 0), (118, .iload 5, 120, 0, 0, 0), (120, .iload_n 2, 121, 0, 0, 0), (121, .if_icmp .gt 27, 124, 148, 0, 0), (124, .aload_n 0, 125, 0, 0, 0), (125, .aload_n 0, 126, 0, 0, 0), (126, .getfield 25, 129, 6, 3, 0), (129, .iload 5, 131, 0, 0, 0), (131, .iaload, 132, 0, 0, 0), (132, .aload_n 0, 133, 0, 0, 0), (133, .getfield 12, 136, 6, 0, 0), (136, .getfield 79, 139, 1, 3, 0), (142, .iinc 5 1, 145, 1, 0, 0), (145, .goto (-27), 148, 118, 0, 0), (148, .aload_n 0, 149, 0, 0, 0), (149, .iload_n 1, 150, 0, 0, 0), (150, .iload_n 2, 151, 0, 0, 0), (151, .iconst 1, 152, 1, 0, 0), (152, .iadd, 153, 0, 0, 0), (153, .invokevirtual 36, 156, 61, 2, 6), (156, .iinc 4 1, 159, 1, 0, 0), (159, .goto (-84), 162, 75, 0, 0), (162, .return_, 163, 0, 0, 0)])
def zX7_mostTokens : yE := (yX7_mostTokens, cX7_mostTokens, 4, (some .int), [(0, .iconst 0, 1, 0, 0, 0), (1, .istore_n 2, 2, 0, 0, 0), (2, .iconst 0, 3, 0, 0, 0), (3, .istore_n 3, 4, 0, 0, 0), (4, .iload_n 3, 5, 0, 0, 0), (5, .aload_n 0, 6, 0, 0, 0), (6, .getfield 12, 9, 6, 0, 0), (9, .getfield 40, 12, 1, 4, 0), (12, .if_icmp .ge 28, 15, 40, 0, 0), (15, .iload_n 2, 16, 0, 0, 0), (16, .aload_n 0, 17, 0, 0, 0), (17, .getfield 12, 20, 6, 0, 0), (20, .getfield 86, 23, 1, 2, 0), (23, .iload_n 3, 24, 0, 0, 0), (24, .bipush 8, 26, 8, 0, 0), (26, .imul, 27, 0, 0, 0), (27, .iload_n 1, 28, 0, 0, 0), (28, .iadd, 29, 0, 0, 0), (29, .iaload, 30, 0, 0, 0), (30, .invokestatic 55, 33, 0, 0, 96), (33, .istore_n 2, 34, 0, 0, 0), (34, .iinc 3 1, 37, 1, 0, 0), (37, .goto (-33), 40, 4, 0, 0), (40, .iload_n 2, 41, 0, 0, 0), (41, .ireturn, 42, 0, 0, 0)])
def zX9_init : yE := (yX9_init, cX9_init, 1, none, [(0, .aload_n 0, 1, 0, 0, 0), (1, .invokespecial 1, 4, 0, 0, 99), (4, .aload_n 0, 5, 0, 0, 0), (5, .sipush 154, 8, 154, 0, 0), (8, .newarray .int, 10, 0, 0, 0), (10, .putfield 7, 13, 8, 0, 2), (13, .aload_n 0, 14, 0, 0, 0), (14, .sipush 924, 17, 924, 0, 0), (17, .newarray .int, 19, 0, 0, 0), (19, .putfield 13, 22, 8, 1, 2), (22, .aload_n 0, 23, 0, 0, 0), (23, .sipush 308, 26, 308, 0, 0), (26, .newarray .int, 28, 0, 0, 0), (28, .putfield 16, 31, 8, 3, 2), (31, .aload_n 0, 32, 0, 0, 0), (32, .iconst 2, 33, 2, 0, 0), (33, .newarray .int, 35, 0, 0, 0), (35, .putfield 19, 38, 8, 4, 2), (38, .aload_n 0, 39, 0, 0, 0), (39, .bipush 80, 41, 80, 0, 0), (41, .newarray .int, 43, 0, 0, 0), (43, .putfield 22, 46, 8, 5, 2), (46, .aload_n 0, 47, 0, 0, 0), (47, .sipush 2408, 50, 2408, 0, 0), (50, .newarray .int, 52, 0, 0, 0), (52, .putfield 25, 55, 8, 7, 2), (55, .aload_n 0, 56, 0, 0, 0), (56, .sipush 301, 59, 301, 0, 0), (59, .newarray .int, 61, 0, 0, 0), (61, .putfield 28, 64, 8, 8, 2), (64, .aload_n 0, 65, 0, 0, 0), (65, .sipush 301, 68, 301, 0, 0), (68, .newarray .int, 70, 0, 0, 0), (70, .putfield 31, 73, 8, 9, 2), (73, .aload_n 0, 74, 0, 0, 0), (74, .bipush 8, 76, 8, 0, 0), (76, .newarray .int, 78, 0, 0, 0), (78, .putfield 34, 81, 8, 11, 2), (81, .aload_n 0, 82, 0, 0, 0), (82, .bipush 8, 84, 8, 0, 0), (84, .newarray .int, 86, 0, 0, 0), (86, .putfield 37, 89, 8, 12, 2), (89, .aload_n 0, 90, 0, 0, 0), (90, .sipush 256, 93, 256, 0, 0), (93, .newarray .boolean, 95, 1, 0, 0), (95, .putfield 40, 98, 8, 13, 2), (98, .aload_n 0, 99, 0, 0, 0), (99, .bipush 10, 101, 10, 0, 0), (101, .newarray .int, 103, 0, 0, 0), (103, .putfield 44, 106, 8, 18, 2), (106, .aload_n 0, 107, 0, 0, 0), (107, .bipush 10, 109, 10, 0, 0), (109, .newarray .int, 111, 0, 0, 0), (111, .putfield 47, 114, 8, 19, 2), (114, .aload_n 0, 115, 0, 0, 0), (115, .getfield 7, 118, 8, 0, 0), (118, .iconst 0, 119, 0, 0, 0), (119, .iconst 0, 120, 0, 0, 0), (120, .iastore, 121, 0, 0, 0), (121, .return_, 122, 0, 0, 0)])
def zX9_allMade : yE := (yX9_allMade, cX9_allMade, 3, (some .int), [(0, .iconst 0, 1, 0, 0, 0), (1, .istore_n 1, 2, 0, 0, 0), (2, .iconst 0, 3, 0, 0, 0), (3, .istore_n 2, 4, 0, 0, 0), (4, .iload_n 2, 5, 0, 0, 0), (5, .aload_n 0, 6, 0, 0, 0), (6, .getfield 7, 9, 8, 0, 0), (9, .iconst 1, 10, 1, 0, 0), (10, .iaload, 11, 0, 0, 0), (11, .if_icmp .ge 21, 14, 32, 0, 0), (14, .iload_n 1, 15, 0, 0, 0), (15, .aload_n 0, 16, 0, 0, 0), (16, .getfield 7, 19, 8, 0, 0), (19, .bipush 18, 21, 18, 0, 0), (21, .iload_n 2, 22, 0, 0, 0), (22, .iadd, 23, 0, 0, 0), (23, .iaload, 24, 0, 0, 0), (24, .iadd, 25, 0, 0, 0), (25, .istore_n 1, 26, 0, 0, 0), (26, .iinc 2 1, 29, 1, 0, 0), (29, .goto (-25), 32, 4, 0, 0), (32, .iload_n 1, 33, 0, 0, 0), (33, .ireturn, 34, 0, 0, 0)])
def zX9_allTokens : yE := (yX9_allTokens, cX9_allTokens, 3, (some .int), [(0, .iconst 0, 1, 0, 0, 0), (1, .istore_n 1, 2, 0, 0, 0), (2, .iconst 0, 3, 0, 0, 0), (3, .istore_n 2, 4, 0, 0, 0), (4, .iload_n 2, 5, 0, 0, 0), (5, .aload_n 0, 6, 0, 0, 0), (6, .getfield 7, 9, 8, 0, 0), (9, .iconst 0, 10, 0, 0, 0), (10, .iaload, 11, 0, 0, 0), (11, .if_icmp .ge 20, 14, 31, 0, 0), (14, .iload_n 1, 15, 0, 0, 0), (15, .aload_n 0, 16, 0, 0, 0), (16, .getfield 7, 19, 8, 0, 0), (19, .iconst 2, 20, 2, 0, 0), (20, .iload_n 2, 21, 0, 0, 0), (21, .iadd, 22, 0, 0, 0), (22, .iaload, 23, 0, 0, 0), (23, .iadd, 24, 0, 0, 0), (24, .istore_n 1, 25, 0, 0, 0), (25, .iinc 2 1, 28, 1, 0, 0), (28, .goto (-24), 31, 4, 0, 0), (31, .iload_n 1, 32, 0, 0, 0), (32, .ireturn, 33, 0, 0, 0)])
def zX9_arc : yE := (yX9_arc, cX9_arc, 6, (some .int), [(0, .aload_n 0, 1, 0, 0, 0), (1, .iload_n 1, 2, 0, 0, 0), (2, .invokevirtual 88, 5, 85, 1, 8), (5, .ifCond .eq 11, 8, 16, 0, 0), (8, .aload_n 0, 9, 0, 0, 0), (9, .iload_n 2, 10, 0, 0, 0), (10, .invokevirtual 92, 13, 86, 1, 8), (13, .ifCond .ne 5, 16, 18, 0, 0), (16, .iconst (-1), 17, 4294967295, 0, 0), (17, .ireturn, 18, 0, 0, 0), (18, .iload_n 3, 19, 0, 0, 0), (19, .iconst 0, 20, 0, 0, 0), (20, .bipush 9, 22, 9, 0, 0), (22, .invokestatic 58, 25, 118, 3, 0), (25, .ifCond .eq 14, 28, 39, 0, 0), (28, .iload 4, 30, 0, 0, 0), (30, .iconst 0, 31, 0, 0, 0), (31, .bipush 9, 33, 9, 0, 0), (33, .invokestatic 58, 36, 118, 3, 0), (36, .ifCond .ne 6, 39, 42, 0, 0), (39, .bipush (-2), 41, 4294967294, 0, 0), (41, .ireturn, 42, 0, 0, 0), (42, .aload_n 0, 43, 0, 0, 0), (43, .invokevirtual 82, 46, 105, 0, 8), (46, .bipush 10, 48, 10, 0, 0), (48, .aload_n 0, 49, 0, 0, 0), (49, .iload_n 1, 50, 0, 0, 0), (50, .iload_n 2, 51, 0, 0, 0), (54, .imul, 55, 0, 0, 0), (55, .aload_n 0, 56, 0, 0, 0), (56, .iload_n 1, 57, 0, 0, 0), (57, .iload_n 2, 58, 0, 0, 0), (61, .iadd, 62, 0, 0, 0), (62, .istore 5, 64, 0, 0, 0), (64, .aload_n 0, 65, 0, 0, 0), (65, .iload_n 1, 66, 0, 0, 0), (66, .iload_n 2, 67, 0, 0, 0), (67, .iload_n 3, 68, 0, 0, 0), (68, .iload 4, 70, 0, 0, 0), (73, .iload 5, 75, 0, 0, 0), (75, .ireturn, 76, 0, 0, 0)])
def zX9_begins : yE := (yX9_begins, cX9_begins, 2, none, [(0, .iconst 0, 1, 0, 0, 0), (1, .istore_n 1, 2, 0, 0, 0), (2, .iload_n 1, 3, 0, 0, 0), (3, .aload_n 0, 4, 0, 0, 0), (4, .getfield 7, 7, 8, 0, 0), (7, .iconst 0, 8, 0, 0, 0), (8, .iaload, 9, 0, 0, 0), (9, .if_icmp .ge 23, 12, 32, 0, 0), (12, .aload_n 0, 13, 0, 0, 0), (13, .getfield 34, 16, 8, 11, 0), (16, .iload_n 1, 17, 0, 0, 0), (17, .aload_n 0, 18, 0, 0, 0), (18, .getfield 7, 21, 8, 0, 0), (21, .iconst 2, 22, 2, 0, 0), (22, .iload_n 1, 23, 0, 0, 0), (23, .iadd, 24, 0, 0, 0), (24, .iaload, 25, 0, 0, 0), (25, .iastore, 26, 0, 0, 0), (26, .iinc 1 1, 29, 1, 0, 0), (29, .goto (-27), 32, 2, 0, 0), (32, .aload_n 0, 33, 0, 0, 0), (33, .iconst 0, 34, 0, 0, 0), (34, .putfield 218, 37, 8, 10, 0), (37, .aload_n 0, 38, 0, 0, 0), (38, .iconst 0, 39, 0, 0, 0), (39, .bipush (-6), 41, 4294967290, 0, 0), (41, .invokevirtual 224, 44, 88, 2, 8), (44, .return_, 45, 0, 0, 0)])
def zX9_bound : yE := (yX9_bound, cX9_bound, 4, (some .int), [(0, .aload_n 0, 1, 0, 0, 0), (1, .iload_n 1, 2, 0, 0, 0), (2, .invokevirtual 92, 5, 86, 1, 8), (5, .ifCond .ne 5, 8, 10, 0, 0), (8, .iconst (-1), 9, 4294967295, 0, 0), (9, .ireturn, 10, 0, 0, 0), (10, .aload_n 0, 11, 0, 0, 0), (11, .invokevirtual 249, 14, 81, 0, 8), (14, .ifCond .ne 6, 17, 20, 0, 0), (17, .bipush (-4), 19, 4294967292, 0, 0), (19, .ireturn, 20, 0, 0, 0), (20, .iconst 0, 21, 0, 0, 0), (21, .istore_n 2, 22, 0, 0, 0), (22, .iconst 0, 23, 0, 0, 0), (23, .istore_n 3, 24, 0, 0, 0), (24, .iload_n 3, 25, 0, 0, 0), (25, .aload_n 0, 26, 0, 0, 0), (26, .getfield 218, 29, 8, 10, 0), (29, .if_icmp .ge 30, 32, 59, 0, 0), (32, .aload_n 0, 33, 0, 0, 0), (33, .iload_n 3, 34, 0, 0, 0), (34, .iload_n 1, 35, 0, 0, 0), (38, .iload_n 2, 39, 0, 0, 0), (39, .if_icmp .le 12, 42, 51, 0, 0), (42, .aload_n 0, 43, 0, 0, 0), (43, .iload_n 3, 44, 0, 0, 0), (44, .iload_n 1, 45, 0, 0, 0), (48, .goto 4, 51, 52, 0, 0), (51, .iload_n 2, 52, 0, 0, 0), (52, .istore_n 2, 53, 0, 0, 0), (53, .iinc 3 1, 56, 1, 0, 0), (56, .goto (-32), 59, 24, 0, 0), (59, .iload_n 2, 60, 0, 0, 0), (60, .ldc 217, 62, 1000000000, 0, 0), (62, .if_icmp .ne 8, 65, 70, 0, 0), (65, .bipush (-6), 67, 4294967290, 0, 0), (67, .goto 4, 70, 71, 0, 0), (70, .iload_n 2, 71, 0, 0, 0), (71, .ireturn, 72, 0, 0, 0)])
def zX9_carryOut : yE := (yX9_carryOut, cX9_carryOut, 3, (some .int), [(0, .aload_n 0, 1, 0, 0, 0), (1, .invokevirtual 291, 4, 78, 0, 8), (4, .bipush (-6), 6, 4294967290, 0, 0), (6, .if_icmp .eq 6, 9, 12, 0, 0), (9, .bipush (-3), 11, 4294967293, 0, 0), (11, .ireturn, 12, 0, 0, 0), (12, .aload_n 0, 13, 0, 0, 0), (13, .invokevirtual 82, 16, 105, 0, 8), (16, .iconst 0, 17, 0, 0, 0), (17, .istore_n 1, 18, 0, 0, 0), (18, .aload_n 0, 19, 0, 0, 0), (19, .iconst 0, 20, 0, 0, 0), (20, .putfield 254, 23, 8, 14, 0), (23, .iconst 1, 24, 1, 0, 0), (24, .istore_n 2, 25, 0, 0, 0), (25, .iload_n 2, 26, 0, 0, 0), (26, .ifCond .eq 53, 29, 79, 0, 0), (29, .aload_n 0, 30, 0, 0, 0), (30, .getfield 254, 33, 8, 14, 0), (33, .aload_n 0, 34, 0, 0, 0), (34, .getfield 146, 37, 8, 6, 0), (37, .if_icmp .ge 42, 40, 79, 0, 0), (40, .aload_n 0, 41, 0, 0, 0), (41, .invokevirtual 288, 44, 104, 0, 8), (44, .pop, 45, 0, 0, 0), (45, .aload_n 0, 46, 0, 0, 0), (46, .bipush 59, 48, 59, 0, 0), (51, .pop, 52, 0, 0, 0), (52, .aload_n 0, 53, 0, 0, 0), (56, .ifCond .ne 7, 59, 63, 0, 0), (59, .iconst 1, 60, 1, 0, 0), (60, .goto 4, 63, 64, 0, 0), (63, .iconst 0, 64, 0, 0, 0), (64, .istore_n 2, 65, 0, 0, 0), (65, .iload_n 2, 66, 0, 0, 0), (66, .ifCond .eq (-41), 69, 25, 0, 0), (69, .aload_n 0, 70, 0, 0, 0), (73, .iinc 1 1, 76, 1, 0, 0), (76, .goto (-51), 79, 25, 0, 0), (79, .aload_n 0, 80, 0, 0, 0), (80, .iconst 0, 81, 0, 0, 0), (81, .putfield 146, 84, 8, 6, 0), (84, .iload_n 1, 85, 0, 0, 0), (85, .ireturn, 86, 0, 0, 0)])
def zX9_character : yE := (yX9_character, cX9_character, 2, (some .int), [(0, .iload_n 1, 1, 0, 0, 0), (1, .aload_n 0, 2, 0, 0, 0), (2, .getfield 146, 5, 8, 6, 0), (5, .if_icmp .ge 12, 8, 17, 0, 0), (8, .aload_n 0, 9, 0, 0, 0), (9, .getfield 22, 12, 8, 5, 0), (12, .iload_n 1, 13, 0, 0, 0), (13, .iaload, 14, 0, 0, 0), (14, .goto 4, 17, 18, 0, 0), (17, .iconst (-1), 18, 4294967295, 0, 0), (18, .ireturn, 19, 0, 0, 0)])
def zX9_codes : yE := (yX9_codes, cX9_codes, 1, (some .int), [(0, .iconst 1, 1, 1, 0, 0), (1, .iconst 2, 2, 2, 0, 0), (2, .aload_n 0, 3, 0, 0, 0), (3, .getfield 7, 6, 8, 0, 0), (6, .iconst 0, 7, 0, 0, 0), (7, .iaload, 8, 0, 0, 0), (8, .imul, 9, 0, 0, 0), (9, .ishl, 10, 0, 0, 0), (10, .ireturn, 11, 0, 0, 0)])
def zX9_count : yE := (yX9_count, cX9_count, 2, (some .int), [(0, .iload_n 1, 1, 0, 0, 0), (1, .tableswitch 82 0 6 #[43, 50, 57, 62, 67, 72, 77], 44, 0, 0, 0), (44, .aload_n 0, 45, 0, 0, 0), (45, .getfield 7, 48, 8, 0, 0), (48, .iconst 0, 49, 0, 0, 0), (49, .iaload, 50, 0, 0, 0), (50, .ireturn, 51, 0, 0, 0), (51, .aload_n 0, 52, 0, 0, 0), (52, .getfield 7, 55, 8, 0, 0), (55, .iconst 1, 56, 1, 0, 0), (56, .iaload, 57, 0, 0, 0), (57, .ireturn, 58, 0, 0, 0), (58, .aload_n 0, 59, 0, 0, 0), (59, .invokevirtual 140, 62, 68, 0, 8), (62, .ireturn, 63, 0, 0, 0), (63, .aload_n 0, 64, 0, 0, 0), (64, .invokevirtual 112, 67, 96, 0, 8), (67, .ireturn, 68, 0, 0, 0), (68, .aload_n 0, 69, 0, 0, 0), (69, .invokevirtual 143, 72, 67, 0, 8), (72, .ireturn, 73, 0, 0, 0), (73, .aload_n 0, 74, 0, 0, 0), (74, .getfield 146, 77, 8, 6, 0), (77, .ireturn, 78, 0, 0, 0), (78, .aload_n 0, 79, 0, 0, 0), (79, .getfield 50, 82, 8, 2, 0), (82, .ireturn, 83, 0, 0, 0), (83, .bipush (-2), 85, 4294967294, 0, 0), (85, .ireturn, 86, 0, 0, 0)])
def zX9_fault : yE := (yX9_fault, cX9_fault, 1, (some .int), [(0, .aload_n 0, 1, 0, 0, 0), (1, .invokevirtual 291, 4, 78, 0, 8), (4, .ireturn, 5, 0, 0, 0)])
def zX9_fewest : yE := (yX9_fewest, cX9_fewest, 4, (some .int), [(0, .aload_n 0, 1, 0, 0, 0), (1, .iload_n 1, 2, 0, 0, 0), (2, .invokevirtual 92, 5, 86, 1, 8), (5, .ifCond .eq 14, 8, 19, 0, 0), (8, .iload_n 2, 9, 0, 0, 0), (9, .iconst 0, 10, 0, 0, 0), (10, .sipush 9999, 13, 9999, 0, 0), (13, .invokestatic 58, 16, 118, 3, 0), (16, .ifCond .ne 18, 19, 34, 0, 0), (19, .aload_n 0, 20, 0, 0, 0), (20, .iload_n 1, 21, 0, 0, 0), (21, .invokevirtual 92, 24, 86, 1, 8), (24, .ifCond .eq 8, 27, 32, 0, 0), (27, .bipush (-2), 29, 4294967294, 0, 0), (29, .goto 4, 32, 33, 0, 0), (32, .iconst (-1), 33, 4294967295, 0, 0), (33, .ireturn, 34, 0, 0, 0), (34, .aload_n 0, 35, 0, 0, 0), (35, .invokevirtual 237, 38, 79, 0, 8), (38, .ifCond .ne 6, 41, 44, 0, 0), (41, .bipush (-4), 43, 4294967292, 0, 0), (43, .ireturn, 44, 0, 0, 0), (44, .iconst 0, 45, 0, 0, 0), (45, .istore_n 3, 46, 0, 0, 0), (46, .iload_n 3, 47, 0, 0, 0), (47, .aload_n 0, 48, 0, 0, 0), (48, .getfield 218, 51, 8, 10, 0), (51, .if_icmp .ge 26, 54, 77, 0, 0), (54, .aload_n 0, 55, 0, 0, 0), (55, .iload_n 3, 56, 0, 0, 0), (56, .iload_n 1, 57, 0, 0, 0), (60, .iload_n 2, 61, 0, 0, 0), (61, .if_icmp .lt 10, 64, 71, 0, 0), (64, .aload_n 0, 65, 0, 0, 0), (65, .getfield 28, 68, 8, 8, 0), (68, .iload_n 3, 69, 0, 0, 0), (69, .iaload, 70, 0, 0, 0), (70, .ireturn, 71, 0, 0, 0), (71, .iinc 3 1, 74, 1, 0, 0), (74, .goto (-28), 77, 46, 0, 0), (77, .bipush (-6), 79, 4294967290, 0, 0), (79, .ireturn, 80, 0, 0, 0)])
def zX9_findFault : yE := (yX9_findFault, cX9_findFault, 1, (some .int), [(0, .aload_n 0, 1, 0, 0, 0), (1, .iconst 0, 2, 0, 0, 0), (2, .putfield 254, 5, 8, 14, 0), (5, .aload_n 0, 6, 0, 0, 0), (6, .invokevirtual 288, 9, 104, 0, 8), (9, .ifCond .ne 8, 12, 17, 0, 0), (12, .aload_n 0, 13, 0, 0, 0), (13, .getfield 254, 16, 8, 14, 0), (16, .ireturn, 17, 0, 0, 0), (17, .aload_n 0, 18, 0, 0, 0), (18, .getfield 254, 21, 8, 14, 0), (21, .aload_n 0, 22, 0, 0, 0), (22, .getfield 146, 25, 8, 6, 0), (25, .if_icmp .ne 6, 28, 31, 0, 0), (28, .bipush (-6), 30, 4294967290, 0, 0), (30, .ireturn, 31, 0, 0, 0), (31, .aload_n 0, 32, 0, 0, 0), (32, .bipush 59, 34, 59, 0, 0), (37, .ifCond .ne (-32), 40, 5, 0, 0), (40, .aload_n 0, 41, 0, 0, 0), (41, .getfield 254, 44, 8, 14, 0), (44, .ireturn, 45, 0, 0, 0)])
def zX9_findReached : yE := (yX9_findReached, cX9_findReached, 3, (some .boolean), [(0, .aload_n 0, 1, 0, 0, 0), (1, .invokevirtual 228, 4, 70, 0, 8), (4, .iconst 0, 5, 0, 0, 0), (5, .istore_n 1, 6, 0, 0, 0), (6, .iload_n 1, 7, 0, 0, 0), (7, .aload_n 0, 8, 0, 0, 0), (8, .getfield 218, 11, 8, 10, 0), (11, .if_icmp .ge 90, 14, 101, 0, 0), (14, .aload_n 0, 15, 0, 0, 0), (15, .getfield 218, 18, 8, 10, 0), (18, .sipush 300, 21, 300, 0, 0), (21, .if_icmp .gt 80, 24, 101, 0, 0), (24, .iconst 0, 25, 0, 0, 0), (25, .istore_n 2, 26, 0, 0, 0), (26, .iload_n 2, 27, 0, 0, 0), (27, .aload_n 0, 28, 0, 0, 0), (28, .getfield 7, 31, 8, 0, 0), (31, .iconst 1, 32, 1, 0, 0), (32, .iaload, 33, 0, 0, 0), (33, .if_icmp .ge 62, 36, 95, 0, 0), (36, .aload_n 0, 37, 0, 0, 0), (37, .getfield 218, 40, 8, 10, 0), (40, .sipush 300, 43, 300, 0, 0), (43, .if_icmp .gt 52, 46, 95, 0, 0), (46, .aload_n 0, 47, 0, 0, 0), (47, .iload_n 2, 48, 0, 0, 0), (48, .aload_n 0, 49, 0, 0, 0), (49, .getfield 25, 52, 8, 7, 0), (52, .bipush 8, 54, 8, 0, 0), (54, .iload_n 1, 55, 0, 0, 0), (55, .imul, 56, 0, 0, 0), (56, .iconst 1, 57, 1, 0, 0), (60, .ifCond .eq 29, 63, 89, 0, 0), (63, .aload_n 0, 64, 0, 0, 0), (64, .iload_n 2, 65, 0, 0, 0), (65, .iload_n 1, 66, 0, 0, 0), (69, .aload_n 0, 70, 0, 0, 0), (73, .ifCond .ne 16, 76, 89, 0, 0), (76, .aload_n 0, 77, 0, 0, 0), (77, .aload_n 0, 78, 0, 0, 0), (78, .getfield 28, 81, 8, 8, 0), (81, .iload_n 1, 82, 0, 0, 0), (82, .iaload, 83, 0, 0, 0), (83, .iconst 1, 84, 1, 0, 0), (84, .iadd, 85, 0, 0, 0), (85, .iload_n 1, 86, 0, 0, 0), (86, .invokevirtual 224, 89, 88, 2, 8), (89, .iinc 2 1, 92, 1, 0, 0), (92, .goto (-66), 95, 26, 0, 0), (95, .iinc 1 1, 98, 1, 0, 0), (98, .goto (-92), 101, 6, 0, 0), (101, .aload_n 0, 102, 0, 0, 0), (102, .getfield 218, 105, 8, 10, 0), (105, .sipush 300, 108, 300, 0, 0), (108, .if_icmp .gt 7, 111, 115, 0, 0), (111, .iconst 1, 112, 1, 0, 0), (112, .goto 4, 115, 116, 0, 0), (115, .iconst 0, 116, 0, 0, 0), (116, .ireturn, 117, 0, 0, 0)])
def zX9_findSets : yE := (yX9_findSets, cX9_findSets, 2, none, [(0, .iconst 0, 1, 0, 0, 0), (1, .istore_n 1, 2, 0, 0, 0), (2, .iload_n 1, 3, 0, 0, 0), (3, .sipush 256, 6, 256, 0, 0), (6, .if_icmp .ge 16, 9, 22, 0, 0), (9, .aload_n 0, 10, 0, 0, 0), (10, .getfield 40, 13, 8, 13, 0), (13, .iload_n 1, 14, 0, 0, 0), (14, .iconst 0, 15, 0, 0, 0), (15, .bastore, 16, 0, 0, 0), (16, .iinc 1 1, 19, 1, 0, 0), (19, .goto (-17), 22, 2, 0, 0), (22, .iconst 1, 23, 1, 0, 0), (23, .istore_n 1, 24, 0, 0, 0), (24, .iload_n 1, 25, 0, 0, 0), (25, .aload_n 0, 26, 0, 0, 0), (26, .invokevirtual 176, 29, 74, 0, 8), (29, .if_icmp .ge 31, 32, 60, 0, 0), (32, .aload_n 0, 33, 0, 0, 0), (33, .iload_n 1, 34, 0, 0, 0), (37, .aload_n 0, 38, 0, 0, 0), (41, .ifCond .eq 13, 44, 54, 0, 0), (44, .aload_n 0, 45, 0, 0, 0), (45, .getfield 40, 48, 8, 13, 0), (48, .aload_n 0, 49, 0, 0, 0), (52, .iconst 1, 53, 1, 0, 0), (53, .bastore, 54, 0, 0, 0), (54, .iinc 1 1, 57, 1, 0, 0), (57, .goto (-33), 60, 24, 0, 0), (60, .return_, 61, 0, 0, 0)])
def zX9_findTree : yE := (yX9_findTree, cX9_findTree, 5, (some .boolean), [(0, .aload_n 0, 1, 0, 0, 0), (1, .invokevirtual 228, 4, 70, 0, 8), (4, .iconst 0, 5, 0, 0, 0), (5, .istore_n 1, 6, 0, 0, 0), (6, .iload_n 1, 7, 0, 0, 0), (7, .aload_n 0, 8, 0, 0, 0), (8, .getfield 218, 11, 8, 10, 0), (11, .if_icmp .ge 132, 14, 143, 0, 0), (14, .aload_n 0, 15, 0, 0, 0), (15, .getfield 218, 18, 8, 10, 0), (18, .sipush 300, 21, 300, 0, 0), (21, .if_icmp .gt 122, 24, 143, 0, 0), (24, .aload_n 0, 25, 0, 0, 0), (25, .iload_n 1, 26, 0, 0, 0), (26, .invokevirtual 240, 29, 87, 1, 8), (29, .ifCond .ne 7, 32, 36, 0, 0), (32, .iconst 1, 33, 1, 0, 0), (33, .goto 4, 36, 37, 0, 0), (36, .iconst 0, 37, 0, 0, 0), (37, .istore_n 2, 38, 0, 0, 0), (38, .iconst 0, 39, 0, 0, 0), (39, .istore_n 3, 40, 0, 0, 0), (40, .iload_n 3, 41, 0, 0, 0), (41, .aload_n 0, 42, 0, 0, 0), (42, .getfield 7, 45, 8, 0, 0), (45, .iconst 1, 46, 1, 0, 0), (46, .iaload, 47, 0, 0, 0), (47, .if_icmp .ge 90, 50, 137, 0, 0), (50, .iload_n 2, 51, 0, 0, 0), (51, .ifCond .eq 86, 54, 137, 0, 0), (54, .aload_n 0, 55, 0, 0, 0), (55, .getfield 218, 58, 8, 10, 0), (58, .sipush 300, 61, 300, 0, 0), (61, .if_icmp .gt 76, 64, 137, 0, 0), (64, .aload_n 0, 65, 0, 0, 0), (65, .iload_n 3, 66, 0, 0, 0), (66, .aload_n 0, 67, 0, 0, 0), (67, .getfield 25, 70, 8, 7, 0), (70, .bipush 8, 72, 8, 0, 0), (72, .iload_n 1, 73, 0, 0, 0), (73, .imul, 74, 0, 0, 0), (74, .iconst 0, 75, 0, 0, 0), (78, .ifCond .eq 53, 81, 131, 0, 0), (81, .aload_n 0, 82, 0, 0, 0), (82, .iload_n 3, 83, 0, 0, 0), (83, .iload_n 1, 84, 0, 0, 0), (87, .iconst 0, 88, 0, 0, 0), (88, .istore 4, 90, 0, 0, 0), (90, .iload 4, 92, 0, 0, 0), (92, .aload_n 0, 93, 0, 0, 0), (93, .getfield 28, 96, 8, 8, 0), (96, .iload_n 1, 97, 0, 0, 0), (97, .iaload, 98, 0, 0, 0), (98, .if_icmp .gt 20, 101, 118, 0, 0), (101, .aload_n 0, 102, 0, 0, 0), (102, .aload_n 0, 103, 0, 0, 0), (103, .iload_n 1, 104, 0, 0, 0), (104, .iload 4, 106, 0, 0, 0), (112, .iinc 4 1, 115, 1, 0, 0), (115, .goto (-25), 118, 90, 0, 0), (118, .aload_n 0, 119, 0, 0, 0), (119, .aload_n 0, 120, 0, 0, 0), (120, .getfield 28, 123, 8, 8, 0), (123, .iload_n 1, 124, 0, 0, 0), (124, .iaload, 125, 0, 0, 0), (125, .iconst 1, 126, 1, 0, 0), (126, .iadd, 127, 0, 0, 0), (127, .iload_n 1, 128, 0, 0, 0), (128, .invokevirtual 224, 131, 88, 2, 8), (131, .iinc 3 1, 134, 1, 0, 0), (134, .goto (-94), 137, 40, 0, 0), (137, .iinc 1 1, 140, 1, 0, 0), (140, .goto (-134), 143, 6, 0, 0), (143, .aload_n 0, 144, 0, 0, 0), (144, .getfield 218, 147, 8, 10, 0), (147, .sipush 300, 150, 300, 0, 0), (150, .if_icmp .gt 7, 153, 157, 0, 0), (153, .iconst 1, 154, 1, 0, 0), (154, .goto 4, 157, 158, 0, 0), (157, .iconst 0, 158, 0, 0, 0), (158, .ireturn, 159, 0, 0, 0)])
def zX9_goTo : yE := (yX9_goTo, cX9_goTo, 4, (some .int), [(0, .aload_n 0, 1, 0, 0, 0), (1, .invokevirtual 192, 4, 80, 0, 8), (4, .iconst 0, 5, 0, 0, 0), (5, .istore_n 2, 6, 0, 0, 0), (6, .iconst 1, 7, 1, 0, 0), (7, .istore_n 3, 8, 0, 0, 0), (8, .iload_n 3, 9, 0, 0, 0), (9, .aload_n 0, 10, 0, 0, 0), (10, .invokevirtual 176, 13, 74, 0, 8), (13, .if_icmp .ge 31, 16, 44, 0, 0), (16, .aload_n 0, 17, 0, 0, 0), (17, .iload_n 3, 18, 0, 0, 0), (21, .aload_n 0, 22, 0, 0, 0), (25, .ifCond .eq 13, 28, 38, 0, 0), (28, .iload_n 2, 29, 0, 0, 0), (29, .iload_n 1, 30, 0, 0, 0), (30, .if_icmp .ne 5, 33, 35, 0, 0), (33, .iload_n 2, 34, 0, 0, 0), (34, .ireturn, 35, 0, 0, 0), (35, .iinc 2 1, 38, 1, 0, 0), (38, .iinc 3 1, 41, 1, 0, 0), (41, .goto (-33), 44, 8, 0, 0), (44, .iload_n 2, 45, 0, 0, 0), (45, .ireturn, 46, 0, 0, 0)])
def zX9_greatest : yE := (yX9_greatest, cX9_greatest, 6, (some .int), [(0, .iload_n 1, 1, 0, 0, 0), (1, .istore_n 3, 2, 0, 0, 0), (2, .iconst (-1), 3, 4294967295, 0, 0), (3, .istore 4, 5, 0, 0, 0), (5, .iload_n 3, 6, 0, 0, 0), (6, .iload 4, 8, 0, 0, 0), (8, .if_icmp .eq 63, 11, 71, 0, 0), (11, .iload_n 3, 12, 0, 0, 0), (12, .istore 4, 14, 0, 0, 0), (14, .iconst 0, 15, 0, 0, 0), (15, .istore 5, 17, 0, 0, 0), (17, .iload 5, 19, 0, 0, 0), (19, .aload_n 0, 20, 0, 0, 0), (20, .getfield 7, 23, 8, 0, 0), (23, .iconst 0, 24, 0, 0, 0), (24, .iaload, 25, 0, 0, 0), (25, .if_icmp .ge 43, 28, 68, 0, 0), (28, .iload_n 3, 29, 0, 0, 0), (29, .iload_n 3, 30, 0, 0, 0), (30, .iload 5, 32, 0, 0, 0), (32, .ishr, 33, 0, 0, 0), (33, .iconst 1, 34, 1, 0, 0), (34, .iand, 35, 0, 0, 0), (35, .iconst 1, 36, 1, 0, 0), (36, .if_icmp .ne 23, 39, 59, 0, 0), (39, .aload_n 0, 40, 0, 0, 0), (40, .iload 5, 42, 0, 0, 0), (42, .iload_n 3, 43, 0, 0, 0), (43, .iload_n 2, 44, 0, 0, 0), (47, .ifCond .eq 12, 50, 59, 0, 0), (50, .iconst 1, 51, 1, 0, 0), (51, .iload 5, 53, 0, 0, 0), (53, .ishl, 54, 0, 0, 0), (54, .iconst (-1), 55, 4294967295, 0, 0), (56, .goto 4, 59, 60, 0, 0), (59, .iconst (-1), 60, 4294967295, 0, 0), (60, .iand, 61, 0, 0, 0), (61, .istore_n 3, 62, 0, 0, 0), (62, .iinc 5 1, 65, 1, 0, 0), (65, .goto (-48), 68, 17, 0, 0), (68, .goto (-63), 71, 5, 0, 0), (71, .iload_n 3, 72, 0, 0, 0), (72, .ireturn, 73, 0, 0, 0)])
def zX9_growth : yE := (yX9_growth, cX9_growth, 7, (some .int), [(0, .iload_n 1, 1, 0, 0, 0), (1, .iconst 0, 2, 0, 0, 0), (2, .iconst 3, 3, 3, 0, 0), (3, .invokestatic 58, 6, 118, 3, 0), (6, .ifCond .ne 6, 9, 12, 0, 0), (9, .bipush (-2), 11, 4294967294, 0, 0), (11, .ireturn, 12, 0, 0, 0), (12, .aload_n 0, 13, 0, 0, 0), (13, .invokevirtual 249, 16, 81, 0, 8), (16, .ifCond .ne 6, 19, 22, 0, 0), (19, .bipush (-4), 21, 4294967292, 0, 0), (21, .ireturn, 22, 0, 0, 0), (22, .iconst 0, 23, 0, 0, 0), (23, .istore_n 2, 24, 0, 0, 0), (24, .iconst 0, 25, 0, 0, 0), (25, .istore_n 3, 26, 0, 0, 0), (26, .iconst 0, 27, 0, 0, 0), (27, .istore 4, 29, 0, 0, 0), (29, .iconst 0, 30, 0, 0, 0), (30, .istore 5, 32, 0, 0, 0), (32, .iload 5, 34, 0, 0, 0), (34, .aload_n 0, 35, 0, 0, 0), (35, .getfield 218, 38, 8, 10, 0), (38, .if_icmp .ge 96, 41, 134, 0, 0), (41, .iconst 0, 42, 0, 0, 0), (42, .istore 6, 44, 0, 0, 0), (44, .iload 6, 46, 0, 0, 0), (46, .aload_n 0, 47, 0, 0, 0), (47, .getfield 7, 50, 8, 0, 0), (50, .iconst 0, 51, 0, 0, 0), (51, .iaload, 52, 0, 0, 0), (52, .if_icmp .ge 33, 55, 85, 0, 0), (55, .iload_n 2, 56, 0, 0, 0), (56, .aload_n 0, 57, 0, 0, 0), (57, .iload 5, 59, 0, 0, 0), (59, .iload 6, 61, 0, 0, 0), (64, .ldc 217, 66, 1000000000, 0, 0), (66, .if_icmp .ne 10, 69, 76, 0, 0), (69, .iconst 1, 70, 1, 0, 0), (70, .iload 6, 72, 0, 0, 0), (72, .ishl, 73, 0, 0, 0), (73, .goto 4, 76, 77, 0, 0), (76, .iconst 0, 77, 0, 0, 0), (77, .ior, 78, 0, 0, 0), (78, .istore_n 2, 79, 0, 0, 0), (79, .iinc 6 1, 82, 1, 0, 0), (82, .goto (-38), 85, 44, 0, 0), (85, .iload_n 3, 86, 0, 0, 0), (86, .aload_n 0, 87, 0, 0, 0), (87, .aload_n 0, 88, 0, 0, 0), (88, .getfield 25, 91, 8, 7, 0), (91, .bipush 8, 93, 8, 0, 0), (93, .iload 5, 95, 0, 0, 0), (95, .imul, 96, 0, 0, 0), (96, .iconst 0, 97, 0, 0, 0), (97, .invokevirtual 74, 100, 95, 3, 8), (100, .ior, 101, 0, 0, 0), (101, .istore_n 3, 102, 0, 0, 0), (102, .aload_n 0, 103, 0, 0, 0), (103, .getfield 28, 106, 8, 8, 0), (106, .iload 5, 108, 0, 0, 0), (108, .iaload, 109, 0, 0, 0), (109, .iload 4, 111, 0, 0, 0), (111, .if_icmp .le 13, 114, 124, 0, 0), (114, .aload_n 0, 115, 0, 0, 0), (115, .getfield 28, 118, 8, 8, 0), (118, .iload 5, 120, 0, 0, 0), (120, .iaload, 121, 0, 0, 0), (121, .goto 5, 124, 126, 0, 0), (124, .iload 4, 126, 0, 0, 0), (126, .istore 4, 128, 0, 0, 0), (128, .iinc 5 1, 131, 1, 0, 0), (131, .goto (-99), 134, 32, 0, 0), (134, .iload_n 1, 135, 0, 0, 0), (135, .ifCond .ne 10, 138, 145, 0, 0), (138, .aload_n 0, 139, 0, 0, 0), (139, .getfield 218, 142, 8, 10, 0), (142, .goto 23, 145, 165, 0, 0), (145, .iload_n 1, 146, 0, 0, 0), (146, .iconst 1, 147, 1, 0, 0), (147, .if_icmp .ne 7, 150, 154, 0, 0), (150, .iload_n 2, 151, 0, 0, 0), (151, .goto 14, 154, 165, 0, 0), (154, .iload_n 1, 155, 0, 0, 0), (155, .iconst 2, 156, 2, 0, 0), (156, .if_icmp .ne 7, 159, 163, 0, 0), (159, .iload_n 3, 160, 0, 0, 0), (160, .goto 5, 163, 165, 0, 0), (163, .iload 4, 165, 0, 0, 0), (165, .ireturn, 166, 0, 0, 0)])
def zX9_isMove : yE := (yX9_isMove, cX9_isMove, 2, (some .boolean), [(0, .iload_n 1, 1, 0, 0, 0), (1, .iconst 0, 2, 0, 0, 0), (2, .aload_n 0, 3, 0, 0, 0), (3, .getfield 7, 6, 8, 0, 0), (6, .iconst 1, 7, 1, 0, 0), (7, .iaload, 8, 0, 0, 0), (8, .iconst 1, 9, 1, 0, 0), (9, .isub, 10, 0, 0, 0), (10, .invokestatic 58, 13, 118, 3, 0), (13, .ireturn, 14, 0, 0, 0)])
def zX9_isPlace : yE := (yX9_isPlace, cX9_isPlace, 2, (some .boolean), [(0, .iload_n 1, 1, 0, 0, 0), (1, .iconst 0, 2, 0, 0, 0), (2, .aload_n 0, 3, 0, 0, 0), (3, .getfield 7, 6, 8, 0, 0), (6, .iconst 0, 7, 0, 0, 0), (7, .iaload, 8, 0, 0, 0), (8, .iconst 1, 9, 1, 0, 0), (9, .isub, 10, 0, 0, 0), (10, .invokestatic 58, 13, 118, 3, 0), (13, .ireturn, 14, 0, 0, 0)])
def zX9_isRepeated : yE := (yX9_isRepeated, cX9_isRepeated, 6, (some .boolean), [(0, .iconst 0, 1, 0, 0, 0), (1, .istore_n 2, 2, 0, 0, 0), (2, .aload_n 0, 3, 0, 0, 0), (3, .getfield 31, 6, 8, 9, 0), (6, .iload_n 1, 7, 0, 0, 0), (7, .iaload, 8, 0, 0, 0), (8, .istore_n 3, 9, 0, 0, 0), (9, .iload_n 3, 10, 0, 0, 0), (10, .bipush (-6), 12, 4294967290, 0, 0), (12, .if_icmp .eq 72, 15, 84, 0, 0), (15, .iload_n 2, 16, 0, 0, 0), (16, .ifCond .ne 68, 19, 84, 0, 0), (19, .iconst 1, 20, 1, 0, 0), (20, .istore 4, 22, 0, 0, 0), (22, .iconst 0, 23, 0, 0, 0), (23, .istore 5, 25, 0, 0, 0), (25, .iload 5, 27, 0, 0, 0), (27, .aload_n 0, 28, 0, 0, 0), (28, .getfield 7, 31, 8, 0, 0), (31, .iconst 0, 32, 0, 0, 0), (32, .iaload, 33, 0, 0, 0), (33, .if_icmp .ge 38, 36, 71, 0, 0), (36, .iload 4, 38, 0, 0, 0), (38, .ifCond .eq 24, 41, 62, 0, 0), (41, .aload_n 0, 42, 0, 0, 0), (42, .iload_n 3, 43, 0, 0, 0), (43, .iload 5, 45, 0, 0, 0), (48, .aload_n 0, 49, 0, 0, 0), (49, .iload_n 1, 50, 0, 0, 0), (50, .iload 5, 52, 0, 0, 0), (55, .if_icmp .ne 7, 58, 62, 0, 0), (58, .iconst 1, 59, 1, 0, 0), (59, .goto 4, 62, 63, 0, 0), (62, .iconst 0, 63, 0, 0, 0), (63, .istore 4, 65, 0, 0, 0), (65, .iinc 5 1, 68, 1, 0, 0), (68, .goto (-43), 71, 25, 0, 0), (71, .iload 4, 73, 0, 0, 0), (73, .istore_n 2, 74, 0, 0, 0), (74, .aload_n 0, 75, 0, 0, 0), (75, .getfield 31, 78, 8, 9, 0), (78, .iload_n 3, 79, 0, 0, 0), (79, .iaload, 80, 0, 0, 0), (80, .istore_n 3, 81, 0, 0, 0), (81, .goto (-72), 84, 9, 0, 0), (84, .iload_n 2, 85, 0, 0, 0), (85, .ireturn, 86, 0, 0, 0)])
def zX9_keepTried : yE := (yX9_keepTried, cX9_keepTried, 4, none, [(0, .iconst 0, 1, 0, 0, 0), (1, .istore_n 3, 2, 0, 0, 0), (2, .iload_n 3, 3, 0, 0, 0), (3, .aload_n 0, 4, 0, 0, 0), (4, .getfield 7, 7, 8, 0, 0), (7, .iconst 0, 8, 0, 0, 0), (8, .iaload, 9, 0, 0, 0), (9, .if_icmp .ge 29, 12, 38, 0, 0), (12, .aload_n 0, 13, 0, 0, 0), (13, .getfield 25, 16, 8, 7, 0), (16, .bipush 8, 18, 8, 0, 0), (18, .aload_n 0, 19, 0, 0, 0), (19, .getfield 218, 22, 8, 10, 0), (22, .imul, 23, 0, 0, 0), (23, .iload_n 3, 24, 0, 0, 0), (24, .iadd, 25, 0, 0, 0), (25, .aload_n 0, 26, 0, 0, 0), (26, .getfield 34, 29, 8, 11, 0), (29, .iload_n 3, 30, 0, 0, 0), (30, .iaload, 31, 0, 0, 0), (31, .iastore, 32, 0, 0, 0), (32, .iinc 3 1, 35, 1, 0, 0), (35, .goto (-33), 38, 2, 0, 0), (38, .aload_n 0, 39, 0, 0, 0), (39, .getfield 28, 42, 8, 8, 0), (42, .aload_n 0, 43, 0, 0, 0), (43, .getfield 218, 46, 8, 10, 0), (46, .iload_n 1, 47, 0, 0, 0), (47, .iastore, 48, 0, 0, 0), (48, .aload_n 0, 49, 0, 0, 0), (49, .getfield 31, 52, 8, 9, 0), (52, .aload_n 0, 53, 0, 0, 0), (53, .getfield 218, 56, 8, 10, 0), (56, .iload_n 2, 57, 0, 0, 0), (57, .iastore, 58, 0, 0, 0), (58, .aload_n 0, 59, 0, 0, 0), (59, .dup, 60, 0, 0, 0), (60, .getfield 218, 63, 8, 10, 0), (63, .iconst 1, 64, 1, 0, 0), (64, .iadd, 65, 0, 0, 0), (65, .putfield 218, 68, 8, 10, 0), (68, .return_, 69, 0, 0, 0)])
def zX9_kept : yE := (yX9_kept, cX9_kept, 5, (some .int), [(0, .iload_n 1, 1, 0, 0, 0), (1, .ifCond .lt 11, 4, 12, 0, 0), (4, .iload_n 1, 5, 0, 0, 0), (5, .aload_n 0, 6, 0, 0, 0), (6, .invokevirtual 198, 9, 90, 0, 8), (9, .if_icmp .lt 5, 12, 14, 0, 0), (12, .iconst (-1), 13, 4294967295, 0, 0), (13, .ireturn, 14, 0, 0, 0), (14, .aload_n 0, 15, 0, 0, 0), (15, .iload_n 2, 16, 0, 0, 0), (16, .invokevirtual 92, 19, 86, 1, 8), (19, .ifCond .ne 12, 22, 31, 0, 0), (22, .iload_n 2, 23, 0, 0, 0), (23, .bipush 8, 25, 8, 0, 0), (25, .if_icmp .eq 6, 28, 31, 0, 0), (28, .bipush (-2), 30, 4294967294, 0, 0), (30, .ireturn, 31, 0, 0, 0), (31, .aload_n 0, 32, 0, 0, 0), (32, .iload_n 1, 33, 0, 0, 0), (33, .invokevirtual 201, 36, 82, 1, 8), (36, .pop, 37, 0, 0, 0), (37, .iconst 0, 38, 0, 0, 0), (38, .istore_n 3, 39, 0, 0, 0), (39, .iconst 0, 40, 0, 0, 0), (40, .istore 4, 42, 0, 0, 0), (42, .iload 4, 44, 0, 0, 0), (44, .aload_n 0, 45, 0, 0, 0), (45, .getfield 7, 48, 8, 0, 0), (48, .iconst 0, 49, 0, 0, 0), (49, .iaload, 50, 0, 0, 0), (50, .if_icmp .ge 29, 53, 79, 0, 0), (53, .iload_n 3, 54, 0, 0, 0), (54, .aload_n 0, 55, 0, 0, 0), (55, .getfield 37, 58, 8, 12, 0), (58, .iload 4, 60, 0, 0, 0), (60, .iaload, 61, 0, 0, 0), (61, .aload_n 0, 62, 0, 0, 0), (62, .getfield 7, 65, 8, 0, 0), (65, .iconst 2, 66, 2, 0, 0), (66, .iload 4, 68, 0, 0, 0), (68, .iadd, 69, 0, 0, 0), (69, .iaload, 70, 0, 0, 0), (70, .imul, 71, 0, 0, 0), (71, .iadd, 72, 0, 0, 0), (72, .istore_n 3, 73, 0, 0, 0), (73, .iinc 4 1, 76, 1, 0, 0), (76, .goto (-34), 79, 42, 0, 0), (79, .iload_n 2, 80, 0, 0, 0), (80, .bipush 8, 82, 8, 0, 0), (82, .if_icmp .ne 7, 85, 89, 0, 0), (85, .iload_n 3, 86, 0, 0, 0), (86, .goto 9, 89, 95, 0, 0), (89, .aload_n 0, 90, 0, 0, 0), (90, .getfield 37, 93, 8, 12, 0), (93, .iload_n 2, 94, 0, 0, 0), (94, .iaload, 95, 0, 0, 0), (95, .ireturn, 96, 0, 0, 0)])
def zX9_keptMany : yE := (yX9_keptMany, cX9_keptMany, 1, (some .int), [(0, .aload_n 0, 1, 0, 0, 0), (1, .iconst (-1), 2, 4294967295, 0, 0), (2, .invokevirtual 201, 5, 82, 1, 8), (5, .ireturn, 6, 0, 0, 0)])
def zX9_make : yE := (yX9_make, cX9_make, 3, (some .int), [(0, .aload_n 0, 1, 0, 0, 0), (1, .iload_n 1, 2, 0, 0, 0), (2, .invokevirtual 105, 5, 116, 1, 8), (5, .istore_n 2, 6, 0, 0, 0), (6, .iload_n 2, 7, 0, 0, 0), (7, .ifCond .ge 5, 10, 12, 0, 0), (10, .iload_n 2, 11, 0, 0, 0), (11, .ireturn, 12, 0, 0, 0), (12, .aload_n 0, 13, 0, 0, 0), (13, .invokevirtual 82, 16, 105, 0, 8), (16, .aload_n 0, 17, 0, 0, 0), (17, .iload_n 1, 18, 0, 0, 0), (21, .aload_n 0, 22, 0, 0, 0), (22, .invokevirtual 112, 25, 96, 0, 8), (28, .ireturn, 29, 0, 0, 0)])
def zX9_mean : yE := (yX9_mean, cX9_mean, 6, (some .long), [(0, .iload_n 1, 1, 0, 0, 0), (1, .iconst 0, 2, 0, 0, 0), (2, .iconst 1, 3, 1, 0, 0), (3, .invokestatic 58, 6, 118, 3, 0), (6, .ifCond .ne 7, 9, 13, 0, 0), (9, .ldc2_w 168, 12, 18446744073709551614, 0, 0), (12, .lreturn, 13, 0, 0, 0), (13, .aload_n 0, 14, 0, 0, 0), (14, .invokevirtual 140, 17, 68, 0, 8), (17, .istore_n 2, 18, 0, 0, 0), (18, .aload_n 0, 19, 0, 0, 0), (19, .getfield 7, 22, 8, 0, 0), (22, .iconst 0, 23, 0, 0, 0), (23, .iaload, 24, 0, 0, 0), (24, .ifCond .eq 7, 27, 31, 0, 0), (27, .iload_n 2, 28, 0, 0, 0), (28, .ifCond .ne 5, 31, 33, 0, 0), (31, .lconst 0, 32, 0, 0, 0), (32, .lreturn, 33, 0, 0, 0), (33, .iload_n 2, 34, 0, 0, 0), (34, .i2l, 35, 0, 0, 0), (35, .aload_n 0, 36, 0, 0, 0), (36, .getfield 7, 39, 8, 0, 0), (39, .iconst 0, 40, 0, 0, 0), (40, .iaload, 41, 0, 0, 0), (41, .i2l, 42, 0, 0, 0), (42, .bipush 53, 44, 53, 0, 0), (47, .lstore_n 3, 48, 0, 0, 0), (48, .iload_n 2, 49, 0, 0, 0), (49, .i2l, 50, 0, 0, 0), (50, .aload_n 0, 51, 0, 0, 0), (51, .getfield 7, 54, 8, 0, 0), (54, .iconst 0, 55, 0, 0, 0), (55, .iaload, 56, 0, 0, 0), (56, .i2l, 57, 0, 0, 0), (60, .istore 5, 62, 0, 0, 0), (62, .lload_n 3, 63, 0, 0, 0), (63, .ldc2_w 170, 66, 9007199254740992, 0, 0), (66, .lcmp, 67, 0, 0, 0), (67, .ifCond .ne 10, 70, 77, 0, 0), (70, .ldc2_w 149, 73, 4503599627370496, 0, 0), (73, .lstore_n 3, 74, 0, 0, 0), (74, .iinc 5 1, 77, 1, 0, 0), (77, .iload_n 1, 78, 0, 0, 0), (78, .ifCond .ne 17, 81, 95, 0, 0), (81, .lload_n 3, 82, 0, 0, 0), (82, .iload 5, 84, 0, 0, 0), (84, .i2l, 85, 0, 0, 0), (85, .ldc2_w 162, 88, 1023, 0, 0), (92, .goto 9, 95, 101, 0, 0), (95, .lload_n 3, 96, 0, 0, 0), (96, .iload 5, 98, 0, 0, 0), (101, .lreturn, 102, 0, 0, 0)])
def zX9_move : yE := (yX9_move, cX9_move, 1, (some .int), [(0, .aload_n 0, 1, 0, 0, 0), (1, .getfield 7, 4, 8, 0, 0), (4, .iconst 1, 5, 1, 0, 0), (5, .iaload, 6, 0, 0, 0), (6, .bipush 8, 8, 8, 0, 0), (8, .if_icmp .ne 6, 11, 14, 0, 0), (11, .bipush (-4), 13, 4294967292, 0, 0), (13, .ireturn, 14, 0, 0, 0), (14, .aload_n 0, 15, 0, 0, 0), (15, .invokevirtual 82, 18, 105, 0, 8), (18, .aload_n 0, 19, 0, 0, 0), (19, .getfield 7, 22, 8, 0, 0), (22, .iconst 1, 23, 1, 0, 0), (23, .dup2, 24, 0, 0, 0), (24, .iaload, 25, 0, 0, 0), (25, .iconst 1, 26, 1, 0, 0), (26, .iadd, 27, 0, 0, 0), (27, .iastore, 28, 0, 0, 0), (28, .aload_n 0, 29, 0, 0, 0), (29, .getfield 7, 32, 8, 0, 0), (32, .iconst 1, 33, 1, 0, 0), (33, .iaload, 34, 0, 0, 0), (34, .iconst 1, 35, 1, 0, 0), (35, .isub, 36, 0, 0, 0), (36, .ireturn, 37, 0, 0, 0)])
def zX9_moves : yE := (yX9_moves, cX9_moves, 5, none, [(0, .iconst 0, 1, 0, 0, 0), (1, .istore 4, 3, 0, 0, 0), (3, .iload 4, 5, 0, 0, 0), (5, .sipush 154, 8, 154, 0, 0), (8, .if_icmp .ge 21, 11, 29, 0, 0), (11, .aload_n 2, 12, 0, 0, 0), (12, .iload_n 3, 13, 0, 0, 0), (13, .iload 4, 15, 0, 0, 0), (15, .iadd, 16, 0, 0, 0), (16, .aload_n 0, 17, 0, 0, 0), (17, .iload_n 1, 18, 0, 0, 0), (18, .iload 4, 20, 0, 0, 0), (20, .iadd, 21, 0, 0, 0), (21, .iaload, 22, 0, 0, 0), (22, .iastore, 23, 0, 0, 0), (23, .iinc 4 1, 26, 1, 0, 0), (26, .goto (-23), 29, 3, 0, 0), (29, .return_, 30, 0, 0, 0)])
def zX9_movesBy : yE := (yX9_movesBy, cX9_movesBy, 6, (some .int), [(0, .iconst 0, 1, 0, 0, 0), (1, .istore 4, 3, 0, 0, 0), (3, .iconst 0, 4, 0, 0, 0), (4, .istore 5, 6, 0, 0, 0), (6, .iload 5, 8, 0, 0, 0), (8, .aload_n 0, 9, 0, 0, 0), (9, .getfield 7, 12, 8, 0, 0), (12, .iconst 1, 13, 1, 0, 0), (13, .iaload, 14, 0, 0, 0), (14, .if_icmp .ge 34, 17, 48, 0, 0), (17, .iload 4, 19, 0, 0, 0), (19, .aload_n 0, 20, 0, 0, 0), (20, .iload 5, 22, 0, 0, 0), (22, .aload_n 1, 23, 0, 0, 0), (23, .iload_n 2, 24, 0, 0, 0), (24, .iload_n 3, 25, 0, 0, 0), (28, .ifCond .eq 10, 31, 38, 0, 0), (31, .iconst 1, 32, 1, 0, 0), (32, .iload 5, 34, 0, 0, 0), (34, .ishl, 35, 0, 0, 0), (35, .goto 4, 38, 39, 0, 0), (38, .iconst 0, 39, 0, 0, 0), (39, .ior, 40, 0, 0, 0), (40, .istore 4, 42, 0, 0, 0), (42, .iinc 5 1, 45, 1, 0, 0), (45, .goto (-39), 48, 6, 0, 0), (48, .iload 4, 50, 0, 0, 0), (50, .ireturn, 51, 0, 0, 0)])
def zX9_movesNow : yE := (yX9_movesNow, cX9_movesNow, 1, (some .int), [(0, .aload_n 0, 1, 0, 0, 0), (1, .aload_n 0, 2, 0, 0, 0), (2, .getfield 7, 5, 8, 0, 0), (5, .iconst 2, 6, 2, 0, 0), (6, .iconst 1, 7, 1, 0, 0), (7, .invokevirtual 74, 10, 95, 3, 8), (10, .ireturn, 11, 0, 0, 0)])
def zX9_ofArc : yE := (yX9_ofArc, cX9_ofArc, 4, (some .int), [(0, .aload_n 0, 1, 0, 0, 0), (1, .iload_n 1, 2, 0, 0, 0), (2, .invokevirtual 88, 5, 85, 1, 8), (5, .ifCond .eq 11, 8, 16, 0, 0), (8, .aload_n 0, 9, 0, 0, 0), (9, .iload_n 2, 10, 0, 0, 0), (10, .invokevirtual 92, 13, 86, 1, 8), (13, .ifCond .ne 5, 16, 18, 0, 0), (16, .iconst (-1), 17, 4294967295, 0, 0), (17, .ireturn, 18, 0, 0, 0), (18, .iload_n 3, 19, 0, 0, 0), (19, .ifCond .ne 12, 22, 31, 0, 0), (22, .aload_n 0, 23, 0, 0, 0), (23, .iload_n 1, 24, 0, 0, 0), (24, .iload_n 2, 25, 0, 0, 0), (28, .goto 19, 31, 47, 0, 0), (31, .iload_n 3, 32, 0, 0, 0), (32, .iconst 1, 33, 1, 0, 0), (33, .if_icmp .ne 12, 36, 45, 0, 0), (36, .aload_n 0, 37, 0, 0, 0), (37, .iload_n 1, 38, 0, 0, 0), (38, .iload_n 2, 39, 0, 0, 0), (42, .goto 5, 45, 47, 0, 0), (45, .bipush (-2), 47, 4294967294, 0, 0), (47, .ireturn, 48, 0, 0, 0)])
def zX9_ofMove : yE := (yX9_ofMove, cX9_ofMove, 3, (some .int), [(0, .aload_n 0, 1, 0, 0, 0), (1, .iload_n 1, 2, 0, 0, 0), (2, .invokevirtual 88, 5, 85, 1, 8), (5, .ifCond .ne 5, 8, 10, 0, 0), (8, .iconst (-1), 9, 4294967295, 0, 0), (9, .ireturn, 10, 0, 0, 0), (10, .iload_n 2, 11, 0, 0, 0), (11, .tableswitch 72 0 4 #[33, 42, 52, 59, 66], 44, 0, 0, 0), (44, .aload_n 0, 45, 0, 0, 0), (45, .invokevirtual 112, 48, 96, 0, 8), (48, .iload_n 1, 49, 0, 0, 0), (49, .ishr, 50, 0, 0, 0), (50, .iconst 1, 51, 1, 0, 0), (51, .iand, 52, 0, 0, 0), (52, .ireturn, 53, 0, 0, 0), (53, .aload_n 0, 54, 0, 0, 0), (54, .getfield 7, 57, 8, 0, 0), (57, .bipush 18, 59, 18, 0, 0), (59, .iload_n 1, 60, 0, 0, 0), (60, .iadd, 61, 0, 0, 0), (61, .iaload, 62, 0, 0, 0), (62, .ireturn, 63, 0, 0, 0), (63, .aload_n 0, 64, 0, 0, 0), (64, .iload_n 1, 65, 0, 0, 0), (65, .iconst 1, 66, 1, 0, 0), (69, .ireturn, 70, 0, 0, 0), (70, .aload_n 0, 71, 0, 0, 0), (71, .iload_n 1, 72, 0, 0, 0), (72, .iconst 0, 73, 0, 0, 0), (76, .ireturn, 77, 0, 0, 0), (77, .aload_n 0, 78, 0, 0, 0), (78, .iload_n 1, 79, 0, 0, 0), (82, .ireturn, 83, 0, 0, 0), (83, .bipush (-2), 85, 4294967294, 0, 0), (85, .ireturn, 86, 0, 0, 0)])
def zX9_ofPlace : yE := (yX9_ofPlace, cX9_ofPlace, 3, (some .int), [(0, .aload_n 0, 1, 0, 0, 0), (1, .iload_n 1, 2, 0, 0, 0), (2, .invokevirtual 92, 5, 86, 1, 8), (5, .ifCond .ne 5, 8, 10, 0, 0), (8, .iconst (-1), 9, 4294967295, 0, 0), (9, .ireturn, 10, 0, 0, 0), (10, .iload_n 2, 11, 0, 0, 0), (11, .tableswitch 62 0 3 #[29, 38, 45, 52], 40, 0, 0, 0), (40, .aload_n 0, 41, 0, 0, 0), (41, .getfield 7, 44, 8, 0, 0), (44, .iconst 2, 45, 2, 0, 0), (45, .iload_n 1, 46, 0, 0, 0), (46, .iadd, 47, 0, 0, 0), (47, .iaload, 48, 0, 0, 0), (48, .ireturn, 49, 0, 0, 0), (49, .aload_n 0, 50, 0, 0, 0), (50, .iload_n 1, 51, 0, 0, 0), (51, .iconst 1, 52, 1, 0, 0), (55, .ireturn, 56, 0, 0, 0), (56, .aload_n 0, 57, 0, 0, 0), (57, .iload_n 1, 58, 0, 0, 0), (58, .iconst 0, 59, 0, 0, 0), (62, .ireturn, 63, 0, 0, 0), (63, .aload_n 0, 64, 0, 0, 0), (64, .getfield 7, 67, 8, 0, 0), (67, .bipush 10, 69, 10, 0, 0), (69, .iload_n 1, 70, 0, 0, 0), (70, .iadd, 71, 0, 0, 0), (71, .iaload, 72, 0, 0, 0), (72, .ireturn, 73, 0, 0, 0), (73, .bipush (-2), 75, 4294967294, 0, 0), (75, .ireturn, 76, 0, 0, 0)])
def zX9_place : yE := (yX9_place, cX9_place, 3, (some .int), [(0, .aload_n 0, 1, 0, 0, 0), (1, .iload_n 1, 2, 0, 0, 0), (2, .invokevirtual 78, 5, 114, 1, 8), (5, .istore_n 2, 6, 0, 0, 0), (6, .iload_n 2, 7, 0, 0, 0), (7, .ifCond .ge 5, 10, 12, 0, 0), (10, .iload_n 2, 11, 0, 0, 0), (11, .ireturn, 12, 0, 0, 0), (12, .aload_n 0, 13, 0, 0, 0), (13, .invokevirtual 82, 16, 105, 0, 8), (16, .aload_n 0, 17, 0, 0, 0), (17, .iload_n 1, 18, 0, 0, 0), (18, .invokevirtual 85, 21, 101, 1, 8), (21, .ireturn, 22, 0, 0, 0)])
def zX9_placed : yE := (yX9_placed, cX9_placed, 3, (some .int), [(0, .aload_n 0, 1, 0, 0, 0), (1, .getfield 7, 4, 8, 0, 0), (4, .iconst 0, 5, 0, 0, 0), (5, .iaload, 6, 0, 0, 0), (6, .istore_n 2, 7, 0, 0, 0), (7, .aload_n 0, 8, 0, 0, 0), (8, .getfield 7, 11, 8, 0, 0), (11, .iconst 2, 12, 2, 0, 0), (12, .iload_n 2, 13, 0, 0, 0), (13, .iadd, 14, 0, 0, 0), (14, .iload_n 1, 15, 0, 0, 0), (15, .iastore, 16, 0, 0, 0), (16, .aload_n 0, 17, 0, 0, 0), (17, .getfield 7, 20, 8, 0, 0), (20, .bipush 10, 22, 10, 0, 0), (22, .iload_n 2, 23, 0, 0, 0), (23, .iadd, 24, 0, 0, 0), (24, .iload_n 1, 25, 0, 0, 0), (25, .iastore, 26, 0, 0, 0), (26, .aload_n 0, 27, 0, 0, 0), (27, .getfield 7, 30, 8, 0, 0), (30, .iconst 0, 31, 0, 0, 0), (31, .dup2, 32, 0, 0, 0), (32, .iaload, 33, 0, 0, 0), (33, .iconst 1, 34, 1, 0, 0), (34, .iadd, 35, 0, 0, 0), (35, .iastore, 36, 0, 0, 0), (36, .iload_n 2, 37, 0, 0, 0), (37, .ireturn, 38, 0, 0, 0)])
def zX9_put : yE := (yX9_put, cX9_put, 8, (some .int), [(0, .iconst 0, 1, 0, 0, 0), (1, .istore_n 3, 2, 0, 0, 0), (2, .lload_n 1, 3, 0, 0, 0), (3, .lstore 4, 5, 0, 0, 0), (5, .iconst 1, 6, 1, 0, 0), (6, .istore 6, 8, 0, 0, 0), (8, .iload_n 3, 9, 0, 0, 0), (9, .bipush 8, 11, 8, 0, 0), (11, .if_icmp .ge 56, 14, 67, 0, 0), (14, .lload 4, 16, 0, 0, 0), (16, .ldc2_w 252, 19, 255, 0, 0), (19, .land, 20, 0, 0, 0), (20, .lconst 0, 21, 0, 0, 0), (21, .lcmp, 22, 0, 0, 0), (22, .ifCond .eq 45, 25, 67, 0, 0), (25, .iload 6, 27, 0, 0, 0), (27, .ifCond .eq 24, 30, 51, 0, 0), (30, .lload 4, 32, 0, 0, 0), (32, .ldc2_w 252, 35, 255, 0, 0), (35, .land, 36, 0, 0, 0), (36, .l2i, 37, 0, 0, 0), (37, .bipush 33, 39, 33, 0, 0), (39, .bipush 126, 41, 126, 0, 0), (41, .invokestatic 58, 44, 118, 3, 0), (44, .ifCond .eq 7, 47, 51, 0, 0), (47, .iconst 1, 48, 1, 0, 0), (48, .goto 4, 51, 52, 0, 0), (51, .iconst 0, 52, 0, 0, 0), (52, .istore 6, 54, 0, 0, 0), (54, .lload 4, 56, 0, 0, 0), (56, .bipush 8, 58, 8, 0, 0), (58, .lushr, 59, 0, 0, 0), (59, .lstore 4, 61, 0, 0, 0), (61, .iinc 3 1, 64, 1, 0, 0), (64, .goto (-56), 67, 8, 0, 0), (67, .iload_n 3, 68, 0, 0, 0), (68, .ifCond .eq 15, 71, 83, 0, 0), (71, .iload 6, 73, 0, 0, 0), (73, .ifCond .eq 10, 76, 83, 0, 0), (76, .lload 4, 78, 0, 0, 0), (78, .lconst 0, 79, 0, 0, 0), (79, .lcmp, 80, 0, 0, 0), (80, .ifCond .eq 6, 83, 86, 0, 0), (83, .bipush (-2), 85, 4294967294, 0, 0), (85, .ireturn, 86, 0, 0, 0), (86, .aload_n 0, 87, 0, 0, 0), (87, .getfield 146, 90, 8, 6, 0), (90, .iload_n 3, 91, 0, 0, 0), (91, .iadd, 92, 0, 0, 0), (92, .bipush 80, 94, 80, 0, 0), (94, .if_icmp .le 6, 97, 100, 0, 0), (97, .bipush (-4), 99, 4294967292, 0, 0), (99, .ireturn, 100, 0, 0, 0), (100, .iload_n 3, 101, 0, 0, 0), (101, .iconst 1, 102, 1, 0, 0), (102, .isub, 103, 0, 0, 0), (103, .istore 7, 105, 0, 0, 0), (105, .iload 7, 107, 0, 0, 0), (107, .ifCond .lt 40, 110, 147, 0, 0), (110, .aload_n 0, 111, 0, 0, 0), (111, .getfield 22, 114, 8, 5, 0), (114, .aload_n 0, 115, 0, 0, 0), (115, .getfield 146, 118, 8, 6, 0), (118, .lload_n 1, 119, 0, 0, 0), (119, .bipush 8, 121, 8, 0, 0), (121, .iload 7, 123, 0, 0, 0), (123, .imul, 124, 0, 0, 0), (124, .lushr, 125, 0, 0, 0), (125, .ldc2_w 252, 128, 255, 0, 0), (128, .land, 129, 0, 0, 0), (129, .l2i, 130, 0, 0, 0), (130, .iastore, 131, 0, 0, 0), (131, .aload_n 0, 132, 0, 0, 0), (132, .dup, 133, 0, 0, 0), (133, .getfield 146, 136, 8, 6, 0), (136, .iconst 1, 137, 1, 0, 0), (137, .iadd, 138, 0, 0, 0), (138, .putfield 146, 141, 8, 6, 0), (141, .iinc 7 (-1), 144, 4294967295, 0, 0), (144, .goto (-39), 147, 105, 0, 0), (147, .aload_n 0, 148, 0, 0, 0), (148, .getfield 146, 151, 8, 6, 0), (151, .ireturn, 152, 0, 0, 0)])
def zX9_reached : yE := (yX9_reached, cX9_reached, 6, (some .int), [(0, .iload_n 1, 1, 0, 0, 0), (1, .iconst 0, 2, 0, 0, 0), (2, .iconst 2, 3, 2, 0, 0), (3, .invokestatic 58, 6, 118, 3, 0), (6, .ifCond .ne 6, 9, 12, 0, 0), (9, .bipush (-2), 11, 4294967294, 0, 0), (11, .ireturn, 12, 0, 0, 0), (12, .aload_n 0, 13, 0, 0, 0), (13, .invokevirtual 237, 16, 79, 0, 8), (16, .ifCond .ne 6, 19, 22, 0, 0), (19, .bipush (-4), 21, 4294967292, 0, 0), (21, .ireturn, 22, 0, 0, 0), (22, .iconst 0, 23, 0, 0, 0), (23, .istore_n 2, 24, 0, 0, 0), (24, .iconst 0, 25, 0, 0, 0), (25, .istore_n 3, 26, 0, 0, 0), (26, .iconst 0, 27, 0, 0, 0), (27, .istore 4, 29, 0, 0, 0), (29, .iload 4, 31, 0, 0, 0), (31, .aload_n 0, 32, 0, 0, 0), (32, .getfield 218, 35, 8, 10, 0), (35, .if_icmp .ge 43, 38, 78, 0, 0), (38, .aload_n 0, 39, 0, 0, 0), (39, .aload_n 0, 40, 0, 0, 0), (40, .getfield 25, 43, 8, 7, 0), (43, .bipush 8, 45, 8, 0, 0), (45, .iload 4, 47, 0, 0, 0), (47, .imul, 48, 0, 0, 0), (48, .iconst 1, 49, 1, 0, 0), (49, .invokevirtual 74, 52, 95, 3, 8), (52, .istore 5, 54, 0, 0, 0), (54, .iload_n 2, 55, 0, 0, 0), (55, .iload 5, 57, 0, 0, 0), (57, .ifCond .ne 7, 60, 64, 0, 0), (60, .iconst 1, 61, 1, 0, 0), (61, .goto 4, 64, 65, 0, 0), (64, .iconst 0, 65, 0, 0, 0), (65, .iadd, 66, 0, 0, 0), (66, .istore_n 2, 67, 0, 0, 0), (67, .iload_n 3, 68, 0, 0, 0), (68, .iload 5, 70, 0, 0, 0), (70, .ior, 71, 0, 0, 0), (71, .istore_n 3, 72, 0, 0, 0), (72, .iinc 4 1, 75, 1, 0, 0), (75, .goto (-46), 78, 29, 0, 0), (78, .iload_n 1, 79, 0, 0, 0), (79, .ifCond .ne 10, 82, 89, 0, 0), (82, .aload_n 0, 83, 0, 0, 0), (83, .getfield 218, 86, 8, 10, 0), (86, .goto 13, 89, 99, 0, 0), (89, .iload_n 1, 90, 0, 0, 0), (90, .iconst 1, 91, 1, 0, 0), (91, .if_icmp .ne 7, 94, 98, 0, 0), (94, .iload_n 2, 95, 0, 0, 0), (95, .goto 4, 98, 99, 0, 0), (98, .iload_n 3, 99, 0, 0, 0), (99, .ireturn, 100, 0, 0, 0)])
def zX9_readsOrder : yE := (yX9_readsOrder, cX9_readsOrder, 1, (some .boolean), [(0, .aload_n 0, 1, 0, 0, 0), (1, .aload_n 0, 2, 0, 0, 0), (2, .aload_n 0, 3, 0, 0, 0), (3, .getfield 254, 6, 8, 14, 0), (6, .invokevirtual 257, 9, 73, 1, 8), (9, .putfield 273, 12, 8, 15, 0), (12, .aload_n 0, 13, 0, 0, 0), (13, .dup, 14, 0, 0, 0), (14, .getfield 254, 17, 8, 14, 0), (17, .iconst 1, 18, 1, 0, 0), (18, .iadd, 19, 0, 0, 0), (19, .putfield 254, 22, 8, 14, 0), (22, .aload_n 0, 23, 0, 0, 0), (23, .getfield 273, 26, 8, 15, 0), (26, .lookupswitch 138 #[(33, 68), (61, 89), (109, 63), (112, 42)], 68, 0, 0, 0), (68, .aload_n 0, 69, 0, 0, 0), (69, .aload_n 0, 70, 0, 0, 0), (73, .putfield 279, 76, 8, 16, 0), (76, .aload_n 0, 77, 0, 0, 0), (77, .getfield 279, 80, 8, 16, 0), (80, .ifCond .lt 7, 83, 87, 0, 0), (83, .iconst 1, 84, 1, 0, 0), (84, .goto 4, 87, 88, 0, 0), (87, .iconst 0, 88, 0, 0, 0), (88, .ireturn, 89, 0, 0, 0), (89, .aload_n 0, 90, 0, 0, 0), (93, .ireturn, 94, 0, 0, 0), (94, .aload_n 0, 95, 0, 0, 0), (95, .aload_n 0, 96, 0, 0, 0), (99, .putfield 279, 102, 8, 16, 0), (102, .aload_n 0, 103, 0, 0, 0), (103, .getfield 279, 106, 8, 16, 0), (106, .ifCond .lt 7, 109, 113, 0, 0), (109, .iconst 1, 110, 1, 0, 0), (110, .goto 4, 113, 114, 0, 0), (113, .iconst 0, 114, 0, 0, 0), (114, .ireturn, 115, 0, 0, 0), (115, .aload_n 0, 116, 0, 0, 0), (116, .aload_n 0, 117, 0, 0, 0), (120, .putfield 279, 123, 8, 16, 0), (123, .aload_n 0, 124, 0, 0, 0), (124, .aload_n 0, 125, 0, 0, 0), (125, .getfield 279, 128, 8, 16, 0), (128, .ifCond .lt 19, 131, 147, 0, 0), (131, .aload_n 0, 132, 0, 0, 0), (132, .bipush 58, 134, 58, 0, 0), (137, .ifCond .eq 10, 140, 147, 0, 0), (140, .aload_n 0, 141, 0, 0, 0), (144, .goto 4, 147, 148, 0, 0), (147, .iconst (-1), 148, 4294967295, 0, 0), (148, .putfield 285, 151, 8, 17, 0), (151, .aload_n 0, 152, 0, 0, 0), (152, .getfield 285, 155, 8, 17, 0), (155, .ifCond .lt 7, 158, 162, 0, 0), (158, .iconst 1, 159, 1, 0, 0), (159, .goto 4, 162, 163, 0, 0), (162, .iconst 0, 163, 0, 0, 0), (163, .ireturn, 164, 0, 0, 0), (164, .aload_n 0, 165, 0, 0, 0), (165, .dup, 166, 0, 0, 0), (166, .getfield 254, 169, 8, 14, 0), (169, .iconst 1, 170, 1, 0, 0), (170, .isub, 171, 0, 0, 0), (171, .putfield 254, 174, 8, 14, 0), (174, .iconst 0, 175, 0, 0, 0), (175, .ireturn, 176, 0, 0, 0)])
def zX9_record : yE := (yX9_record, cX9_record, 2, none, [(0, .aload_n 0, 1, 0, 0, 0), (1, .getfield 50, 4, 8, 2, 0), (4, .bipush 6, 6, 6, 0, 0), (6, .if_icmp .ne 44, 9, 50, 0, 0), (9, .iconst 0, 10, 0, 0, 0), (10, .istore_n 1, 11, 0, 0, 0), (11, .iload_n 1, 12, 0, 0, 0), (12, .sipush 770, 15, 770, 0, 0), (15, .if_icmp .ge 25, 18, 40, 0, 0), (18, .aload_n 0, 19, 0, 0, 0), (19, .getfield 13, 22, 8, 1, 0), (22, .iload_n 1, 23, 0, 0, 0), (23, .aload_n 0, 24, 0, 0, 0), (24, .getfield 13, 27, 8, 1, 0), (27, .iload_n 1, 28, 0, 0, 0), (28, .sipush 154, 31, 154, 0, 0), (31, .iadd, 32, 0, 0, 0), (32, .iaload, 33, 0, 0, 0), (33, .iastore, 34, 0, 0, 0), (34, .iinc 1 1, 37, 1, 0, 0), (37, .goto (-26), 40, 11, 0, 0), (40, .aload_n 0, 41, 0, 0, 0), (41, .dup, 42, 0, 0, 0), (42, .getfield 50, 45, 8, 2, 0), (45, .iconst 1, 46, 1, 0, 0), (46, .isub, 47, 0, 0, 0), (47, .putfield 50, 50, 8, 2, 0), (50, .aload_n 0, 51, 0, 0, 0), (51, .getfield 7, 54, 8, 0, 0), (54, .iconst 0, 55, 0, 0, 0), (55, .aload_n 0, 56, 0, 0, 0), (56, .getfield 13, 59, 8, 1, 0), (59, .aload_n 0, 60, 0, 0, 0), (60, .getfield 50, 63, 8, 2, 0), (63, .sipush 154, 66, 154, 0, 0), (66, .imul, 67, 0, 0, 0), (67, .invokestatic 54, 70, 94, 4, 0), (70, .aload_n 0, 71, 0, 0, 0), (71, .dup, 72, 0, 0, 0), (72, .getfield 50, 75, 8, 2, 0), (75, .iconst 1, 76, 1, 0, 0), (76, .iadd, 77, 0, 0, 0), (77, .putfield 50, 80, 8, 2, 0), (80, .return_, 81, 0, 0, 0)])
def zX9_restore : yE := (yX9_restore, cX9_restore, 2, (some .int), [(0, .iload_n 1, 1, 0, 0, 0), (1, .iconst 0, 2, 0, 0, 0), (2, .iconst 1, 3, 1, 0, 0), (3, .invokestatic 58, 6, 118, 3, 0), (6, .ifCond .ne 6, 9, 12, 0, 0), (9, .bipush (-2), 11, 4294967294, 0, 0), (11, .ireturn, 12, 0, 0, 0), (12, .aload_n 0, 13, 0, 0, 0), (13, .getfield 19, 16, 8, 4, 0), (16, .iload_n 1, 17, 0, 0, 0), (17, .iaload, 18, 0, 0, 0), (18, .ifCond .ne 6, 21, 24, 0, 0), (21, .bipush (-5), 23, 4294967291, 0, 0), (23, .ireturn, 24, 0, 0, 0), (24, .aload_n 0, 25, 0, 0, 0), (25, .invokevirtual 82, 28, 105, 0, 8), (28, .aload_n 0, 29, 0, 0, 0), (29, .getfield 16, 32, 8, 3, 0), (32, .sipush 154, 35, 154, 0, 0), (35, .iload_n 1, 36, 0, 0, 0), (36, .imul, 37, 0, 0, 0), (37, .aload_n 0, 38, 0, 0, 0), (38, .getfield 7, 41, 8, 0, 0), (41, .iconst 0, 42, 0, 0, 0), (42, .invokestatic 54, 45, 94, 4, 0), (45, .aload_n 0, 46, 0, 0, 0), (46, .invokevirtual 140, 49, 68, 0, 8), (49, .ireturn, 50, 0, 0, 0)])
def zX9_run : yE := (yX9_run, cX9_run, 7, (some .int), [(0, .iload_n 1, 1, 0, 0, 0), (1, .ifCond .lt 13, 4, 14, 0, 0), (4, .iload_n 2, 5, 0, 0, 0), (5, .iconst 1, 6, 1, 0, 0), (6, .bipush 99, 8, 99, 0, 0), (8, .invokestatic 58, 11, 118, 3, 0), (11, .ifCond .ne 6, 14, 17, 0, 0), (14, .bipush (-2), 16, 4294967294, 0, 0), (16, .ireturn, 17, 0, 0, 0), (17, .aload_n 0, 18, 0, 0, 0), (18, .invokevirtual 82, 21, 105, 0, 8), (21, .iload_n 1, 22, 0, 0, 0), (22, .i2l, 23, 0, 0, 0), (23, .lstore_n 3, 24, 0, 0, 0), (24, .iconst 0, 25, 0, 0, 0), (25, .istore 5, 27, 0, 0, 0), (27, .aload_n 0, 28, 0, 0, 0), (28, .invokevirtual 112, 31, 96, 0, 8), (31, .istore 6, 33, 0, 0, 0), (33, .iload 5, 35, 0, 0, 0), (35, .iload_n 2, 36, 0, 0, 0), (36, .if_icmp .ge 56, 39, 92, 0, 0), (39, .iload 6, 41, 0, 0, 0), (41, .ifCond .eq 51, 44, 92, 0, 0), (44, .lload_n 3, 45, 0, 0, 0), (45, .ldc2_w 119, 48, 1103515245, 0, 0), (49, .ldc2_w 121, 52, 12345, 0, 0), (53, .ldc2_w 123, 56, 2147483648, 0, 0), (57, .lstore_n 3, 58, 0, 0, 0), (58, .aload_n 0, 59, 0, 0, 0), (59, .iload 6, 61, 0, 0, 0), (61, .lload_n 3, 62, 0, 0, 0), (62, .ldc2_w 125, 65, 65536, 0, 0), (66, .iload 6, 68, 0, 0, 0), (71, .i2l, 72, 0, 0, 0), (73, .l2i, 74, 0, 0, 0), (80, .iinc 5 1, 83, 1, 0, 0), (83, .aload_n 0, 84, 0, 0, 0), (84, .invokevirtual 112, 87, 96, 0, 8), (87, .istore 6, 89, 0, 0, 0), (89, .goto (-56), 92, 33, 0, 0), (92, .iload 5, 94, 0, 0, 0), (94, .ireturn, 95, 0, 0, 0)])
def zX9_save : yE := (yX9_save, cX9_save, 2, (some .int), [(0, .iload_n 1, 1, 0, 0, 0), (1, .iconst 0, 2, 0, 0, 0), (2, .iconst 1, 3, 1, 0, 0), (3, .invokestatic 58, 6, 118, 3, 0), (6, .ifCond .ne 6, 9, 12, 0, 0), (9, .bipush (-2), 11, 4294967294, 0, 0), (11, .ireturn, 12, 0, 0, 0), (12, .aload_n 0, 13, 0, 0, 0), (13, .getfield 7, 16, 8, 0, 0), (16, .iconst 0, 17, 0, 0, 0), (17, .aload_n 0, 18, 0, 0, 0), (18, .getfield 16, 21, 8, 3, 0), (21, .sipush 154, 24, 154, 0, 0), (24, .iload_n 1, 25, 0, 0, 0), (25, .imul, 26, 0, 0, 0), (26, .invokestatic 54, 29, 94, 4, 0), (29, .aload_n 0, 30, 0, 0, 0), (30, .getfield 19, 33, 8, 4, 0), (33, .iload_n 1, 34, 0, 0, 0), (34, .iconst 1, 35, 1, 0, 0), (35, .iastore, 36, 0, 0, 0), (36, .aload_n 0, 37, 0, 0, 0), (37, .invokevirtual 140, 40, 68, 0, 8), (40, .ireturn, 41, 0, 0, 0)])
def zX9_share : yE := (yX9_share, cX9_share, 5, (some .int), [(0, .aload_n 0, 1, 0, 0, 0), (1, .iload_n 1, 2, 0, 0, 0), (2, .invokevirtual 88, 5, 85, 1, 8), (5, .ifCond .ne 5, 8, 10, 0, 0), (8, .iconst (-1), 9, 4294967295, 0, 0), (9, .ireturn, 10, 0, 0, 0), (10, .aload_n 0, 11, 0, 0, 0), (11, .invokevirtual 143, 14, 67, 0, 8), (14, .istore_n 2, 15, 0, 0, 0), (15, .aload_n 0, 16, 0, 0, 0), (16, .getfield 7, 19, 8, 0, 0), (19, .bipush 18, 21, 18, 0, 0), (21, .iload_n 1, 22, 0, 0, 0), (22, .iadd, 23, 0, 0, 0), (23, .iaload, 24, 0, 0, 0), (24, .istore_n 3, 25, 0, 0, 0), (25, .iload_n 2, 26, 0, 0, 0), (26, .ifCond .eq 7, 29, 33, 0, 0), (29, .iload_n 3, 30, 0, 0, 0), (30, .ifCond .ne 14, 33, 44, 0, 0), (33, .iload_n 2, 34, 0, 0, 0), (34, .ifCond .ne 8, 37, 42, 0, 0), (37, .bipush (-6), 39, 4294967290, 0, 0), (39, .goto 4, 42, 43, 0, 0), (42, .iconst 0, 43, 0, 0, 0), (43, .ireturn, 44, 0, 0, 0), (44, .iload_n 3, 45, 0, 0, 0), (45, .i2l, 46, 0, 0, 0), (46, .iload_n 2, 47, 0, 0, 0), (47, .i2l, 48, 0, 0, 0), (48, .bipush 24, 50, 24, 0, 0), (53, .l2i, 54, 0, 0, 0), (54, .istore 4, 56, 0, 0, 0), (56, .iload_n 3, 57, 0, 0, 0), (57, .i2l, 58, 0, 0, 0), (58, .iload_n 2, 59, 0, 0, 0), (59, .i2l, 60, 0, 0, 0), (63, .bipush 127, 65, 127, 0, 0), (65, .iadd, 66, 0, 0, 0), (66, .bipush 23, 68, 23, 0, 0), (68, .ishl, 69, 0, 0, 0), (69, .iload 4, 71, 0, 0, 0), (71, .ldc 161, 73, 8388608, 0, 0), (73, .isub, 74, 0, 0, 0), (74, .iadd, 75, 0, 0, 0), (75, .ireturn, 76, 0, 0, 0)])
def zX9_tokens : yE := (yX9_tokens, cX9_tokens, 4, (some .int), [(0, .aload_n 0, 1, 0, 0, 0), (1, .iload_n 1, 2, 0, 0, 0), (2, .iload_n 2, 3, 0, 0, 0), (3, .invokevirtual 99, 6, 115, 2, 8), (6, .istore_n 3, 7, 0, 0, 0), (7, .iload_n 3, 8, 0, 0, 0), (8, .ifCond .ge 5, 11, 13, 0, 0), (11, .iload_n 3, 12, 0, 0, 0), (12, .ireturn, 13, 0, 0, 0), (13, .aload_n 0, 14, 0, 0, 0), (14, .invokevirtual 82, 17, 105, 0, 8), (17, .aload_n 0, 18, 0, 0, 0), (18, .iload_n 1, 19, 0, 0, 0), (19, .iload_n 2, 20, 0, 0, 0), (23, .ireturn, 24, 0, 0, 0)])
def zX9_tokensIn : yE := (yX9_tokensIn, cX9_tokensIn, 4, (some .int), [(0, .iconst 0, 1, 0, 0, 0), (1, .istore_n 2, 2, 0, 0, 0), (2, .iconst 0, 3, 0, 0, 0), (3, .istore_n 3, 4, 0, 0, 0), (4, .iload_n 3, 5, 0, 0, 0), (5, .aload_n 0, 6, 0, 0, 0), (6, .getfield 7, 9, 8, 0, 0), (9, .iconst 0, 10, 0, 0, 0), (10, .iaload, 11, 0, 0, 0), (11, .if_icmp .ge 33, 14, 44, 0, 0), (14, .iload_n 2, 15, 0, 0, 0), (15, .iload_n 1, 16, 0, 0, 0), (16, .iload_n 3, 17, 0, 0, 0), (17, .ishr, 18, 0, 0, 0), (18, .iconst 1, 19, 1, 0, 0), (19, .iand, 20, 0, 0, 0), (20, .iconst 1, 21, 1, 0, 0), (21, .if_icmp .ne 14, 24, 35, 0, 0), (24, .aload_n 0, 25, 0, 0, 0), (25, .getfield 7, 28, 8, 0, 0), (28, .iconst 2, 29, 2, 0, 0), (29, .iload_n 3, 30, 0, 0, 0), (30, .iadd, 31, 0, 0, 0), (31, .iaload, 32, 0, 0, 0), (32, .goto 4, 35, 36, 0, 0), (35, .iconst 0, 36, 0, 0, 0), (36, .iadd, 37, 0, 0, 0), (37, .istore_n 2, 38, 0, 0, 0), (38, .iinc 3 1, 41, 1, 0, 0), (41, .goto (-37), 44, 4, 0, 0), (44, .iload_n 2, 45, 0, 0, 0), (45, .ireturn, 46, 0, 0, 0)])
def zX9_trap : yE := (yX9_trap, cX9_trap, 4, (some .int), [(0, .iload_n 1, 1, 0, 0, 0), (1, .ifCond .lt 14, 4, 15, 0, 0), (4, .iload_n 1, 5, 0, 0, 0), (5, .aload_n 0, 6, 0, 0, 0), (6, .getfield 7, 9, 8, 0, 0), (9, .iconst 0, 10, 0, 0, 0), (10, .iaload, 11, 0, 0, 0), (11, .ishr, 12, 0, 0, 0), (12, .ifCond .eq 5, 15, 17, 0, 0), (15, .iconst (-1), 16, 4294967295, 0, 0), (16, .ireturn, 17, 0, 0, 0), (17, .iload_n 2, 18, 0, 0, 0), (18, .iconst 0, 19, 0, 0, 0), (19, .iconst 3, 20, 3, 0, 0), (20, .invokestatic 58, 23, 118, 3, 0), (23, .ifCond .ne 6, 26, 29, 0, 0), (26, .bipush (-2), 28, 4294967294, 0, 0), (28, .ireturn, 29, 0, 0, 0), (29, .aload_n 0, 30, 0, 0, 0), (30, .iload_n 1, 31, 0, 0, 0), (31, .iload_n 2, 32, 0, 0, 0), (32, .iconst 2, 33, 2, 0, 0), (33, .irem, 34, 0, 0, 0), (34, .ifCond .ne 7, 37, 41, 0, 0), (37, .iconst 1, 38, 1, 0, 0), (38, .goto 4, 41, 42, 0, 0), (41, .iconst 0, 42, 0, 0, 0), (42, .invokevirtual 208, 45, 83, 2, 8), (45, .istore_n 3, 46, 0, 0, 0), (46, .iload_n 2, 47, 0, 0, 0), (47, .iconst 2, 48, 2, 0, 0), (48, .if_icmp .ge 7, 51, 55, 0, 0), (51, .iload_n 3, 52, 0, 0, 0), (52, .goto 8, 55, 60, 0, 0), (55, .aload_n 0, 56, 0, 0, 0), (56, .iload_n 3, 57, 0, 0, 0), (57, .invokevirtual 211, 60, 111, 1, 8), (60, .ireturn, 61, 0, 0, 0)])
def zX9_undo : yE := (yX9_undo, cX9_undo, 1, (some .int), [(0, .aload_n 0, 1, 0, 0, 0), (1, .getfield 50, 4, 8, 2, 0), (4, .ifCond .ne 6, 7, 10, 0, 0), (7, .bipush (-5), 9, 4294967291, 0, 0), (9, .ireturn, 10, 0, 0, 0), (10, .aload_n 0, 11, 0, 0, 0), (11, .dup, 12, 0, 0, 0), (12, .getfield 50, 15, 8, 2, 0), (15, .iconst 1, 16, 1, 0, 0), (16, .isub, 17, 0, 0, 0), (17, .putfield 50, 20, 8, 2, 0), (20, .aload_n 0, 21, 0, 0, 0), (21, .getfield 13, 24, 8, 1, 0), (24, .aload_n 0, 25, 0, 0, 0), (25, .getfield 50, 28, 8, 2, 0), (28, .sipush 154, 31, 154, 0, 0), (31, .imul, 32, 0, 0, 0), (32, .aload_n 0, 33, 0, 0, 0), (33, .getfield 7, 36, 8, 0, 0), (36, .iconst 0, 37, 0, 0, 0), (37, .invokestatic 54, 40, 94, 4, 0), (40, .aload_n 0, 41, 0, 0, 0), (41, .getfield 50, 44, 8, 2, 0), (44, .ireturn, 45, 0, 0, 0)])
def zX9_whyNoPlace : yE := (yX9_whyNoPlace, cX9_whyNoPlace, 2, (some .int), [(0, .iload_n 1, 1, 0, 0, 0), (1, .iconst 0, 2, 0, 0, 0), (2, .sipush 999, 5, 999, 0, 0), (5, .invokestatic 58, 8, 118, 3, 0), (8, .ifCond .ne 8, 11, 16, 0, 0), (11, .bipush (-2), 13, 4294967294, 0, 0), (13, .goto 20, 16, 33, 0, 0), (16, .aload_n 0, 17, 0, 0, 0), (17, .getfield 7, 20, 8, 0, 0), (20, .iconst 0, 21, 0, 0, 0), (21, .iaload, 22, 0, 0, 0), (22, .bipush 8, 24, 8, 0, 0), (24, .if_icmp .ne 8, 27, 32, 0, 0), (27, .bipush (-4), 29, 4294967292, 0, 0), (29, .goto 4, 32, 33, 0, 0), (32, .iconst 0, 33, 0, 0, 0), (33, .ireturn, 34, 0, 0, 0)])
def zX9_whyNoTokens : yE := (yX9_whyNoTokens, cX9_whyNoTokens, 3, (some .int), [(0, .aload_n 0, 1, 0, 0, 0), (1, .iload_n 1, 2, 0, 0, 0), (2, .invokevirtual 92, 5, 86, 1, 8), (5, .ifCond .ne 7, 8, 12, 0, 0), (8, .iconst (-1), 9, 4294967295, 0, 0), (9, .goto 20, 12, 29, 0, 0), (12, .iload_n 2, 13, 0, 0, 0), (13, .iconst 0, 14, 0, 0, 0), (14, .sipush 999, 17, 999, 0, 0), (17, .invokestatic 58, 20, 118, 3, 0), (20, .ifCond .eq 7, 23, 27, 0, 0), (23, .iconst 0, 24, 0, 0, 0), (24, .goto 5, 27, 29, 0, 0), (27, .bipush (-2), 29, 4294967294, 0, 0), (29, .ireturn, 30, 0, 0, 0)])
def zX9_whyNotMade : yE := (yX9_whyNotMade, cX9_whyNotMade, 2, (some .int), [(0, .aload_n 0, 1, 0, 0, 0), (1, .iload_n 1, 2, 0, 0, 0), (2, .invokevirtual 88, 5, 85, 1, 8), (5, .ifCond .ne 7, 8, 12, 0, 0), (8, .iconst (-1), 9, 4294967295, 0, 0), (9, .goto 23, 12, 32, 0, 0), (12, .aload_n 0, 13, 0, 0, 0), (13, .iload_n 1, 14, 0, 0, 0), (14, .aload_n 0, 15, 0, 0, 0), (15, .getfield 7, 18, 8, 0, 0), (18, .iconst 2, 19, 2, 0, 0), (19, .iconst 1, 20, 1, 0, 0), (23, .ifCond .eq 7, 26, 30, 0, 0), (26, .iconst 0, 27, 0, 0, 0), (27, .goto 5, 30, 32, 0, 0), (30, .bipush (-5), 32, 4294967291, 0, 0), (32, .ireturn, 33, 0, 0, 0)])
def zX9_wipe : yE := (yX9_wipe, cX9_wipe, 2, (some .int), [(0, .aload_n 0, 1, 0, 0, 0), (1, .getfield 146, 4, 8, 6, 0), (4, .istore_n 1, 5, 0, 0, 0), (5, .aload_n 0, 6, 0, 0, 0), (6, .iconst 0, 7, 0, 0, 0), (7, .putfield 146, 10, 8, 6, 0), (10, .iload_n 1, 11, 0, 0, 0), (11, .ireturn, 12, 0, 0, 0)])
def zX9_within : yE := (yX9_within, cX9_within, 3, (some .boolean), [(0, .iload_n 0, 1, 0, 0, 0), (1, .iload_n 1, 2, 0, 0, 0), (2, .if_icmp .lt 12, 5, 14, 0, 0), (5, .iload_n 0, 6, 0, 0, 0), (6, .iload_n 2, 7, 0, 0, 0), (7, .if_icmp .gt 7, 10, 14, 0, 0), (10, .iconst 1, 11, 1, 0, 0), (11, .goto 4, 14, 15, 0, 0), (14, .iconst 0, 15, 0, 0, 0), (15, .ireturn, 16, 0, 0, 0)])
def zJ6_bitCount_0f7a4 : yE := (yJ6_bitCount_0f7a4, cJ6_bitCount_0f7a4, 1, (some .int), [(0, .iload_n 0, 1, 0, 0, 0), (1, .iload_n 0, 2, 0, 0, 0), (2, .iconst 1, 3, 1, 0, 0), (3, .iushr, 4, 0, 0, 0), (4, .ldc_w 265, 7, 1431655765, 0, 0), (7, .iand, 8, 0, 0, 0), (8, .isub, 9, 0, 0, 0), (9, .istore_n 0, 10, 0, 0, 0), (10, .iload_n 0, 11, 0, 0, 0), (11, .ldc_w 266, 14, 858993459, 0, 0), (14, .iand, 15, 0, 0, 0), (15, .iload_n 0, 16, 0, 0, 0), (16, .iconst 2, 17, 2, 0, 0), (17, .iushr, 18, 0, 0, 0), (18, .ldc_w 266, 21, 858993459, 0, 0), (21, .iand, 22, 0, 0, 0), (22, .iadd, 23, 0, 0, 0), (23, .istore_n 0, 24, 0, 0, 0), (24, .iload_n 0, 25, 0, 0, 0), (25, .iload_n 0, 26, 0, 0, 0), (26, .iconst 4, 27, 4, 0, 0), (27, .iushr, 28, 0, 0, 0), (28, .iadd, 29, 0, 0, 0), (29, .ldc_w 267, 32, 252645135, 0, 0), (32, .iand, 33, 0, 0, 0), (33, .istore_n 0, 34, 0, 0, 0), (34, .iload_n 0, 35, 0, 0, 0), (35, .iload_n 0, 36, 0, 0, 0), (36, .bipush 8, 38, 8, 0, 0), (38, .iushr, 39, 0, 0, 0), (39, .iadd, 40, 0, 0, 0), (40, .istore_n 0, 41, 0, 0, 0), (41, .iload_n 0, 42, 0, 0, 0), (42, .iload_n 0, 43, 0, 0, 0), (43, .bipush 16, 45, 16, 0, 0), (45, .iushr, 46, 0, 0, 0), (46, .iadd, 47, 0, 0, 0), (47, .istore_n 0, 48, 0, 0, 0), (48, .iload_n 0, 49, 0, 0, 0), (49, .bipush 63, 51, 63, 0, 0), (51, .iand, 52, 0, 0, 0), (52, .ireturn, 53, 0, 0, 0)])
def zJ7_fill_53178 : yE := (yJ7_fill_53178, cJ7_fill_53178, 4, none, [(0, .iconst 0, 1, 0, 0, 0), (1, .istore_n 2, 2, 0, 0, 0), (2, .aload_n 0, 3, 0, 0, 0), (3, .arraylength, 4, 0, 0, 0), (4, .istore_n 3, 5, 0, 0, 0), (5, .iload_n 2, 6, 0, 0, 0), (6, .iload_n 3, 7, 0, 0, 0), (7, .if_icmp .ge 13, 10, 20, 0, 0), (10, .aload_n 0, 11, 0, 0, 0), (11, .iload_n 2, 12, 0, 0, 0), (12, .iload_n 1, 13, 0, 0, 0), (13, .iastore, 14, 0, 0, 0), (14, .iinc 2 1, 17, 1, 0, 0), (17, .goto (-12), 20, 5, 0, 0), (20, .return_, 21, 0, 0, 0)])
def z_mt : List yE := [zX8_init, zX8_arc, zX8_bound, zX8_carryOut, zX8_count, zX8_fault, zX8_fewest, zX8_growth, zX8_kept, zX8_keptMany, zX8_make, zX8_mean, zX8_move, zX8_ofArc, zX8_ofMove, zX8_ofPlace, zX8_place, zX8_put, zX8_reached, zX8_restore, zX8_run, zX8_save, zX8_share, zX8_tokens, zX8_trap, zX8_undo, zX8_wipe, zX1_init, zX1_note, zX1_settle, zX1_takeBack, zX2_init, zX2_begins, zX2_takeIn, zX3_init, zX3_addMove, zX3_addPlace, zX3_allMade, zX3_allTokens, zX3_copy, zX3_greatestClosed, zX3_hasMove, zX3_hasPlace, zX3_makeBySeed, zX3_makeOne, zX3_possibleMoves, zX3_setArc, zX3_setTokens, zX3_tokensIn, zX4_init, zX4_append, zX4_firstFault, zX4_mayEnd, zX5_init, zX5_find, zX5_follow, zX5_hash, zX5_meet, zX6_init, zX6_find, zX7_init, zX7_add, zX7_endlessPlaces, zX7_find, zX7_follow, zX7_mostTokens, zX9_init, zX9_allMade, zX9_allTokens, zX9_arc, zX9_begins, zX9_bound, zX9_carryOut, zX9_character, zX9_codes, zX9_count, zX9_fault, zX9_fewest, zX9_findFault, zX9_findReached, zX9_findSets, zX9_findTree, zX9_goTo, zX9_greatest, zX9_growth, zX9_isMove, zX9_isPlace, zX9_isRepeated, zX9_keepTried, zX9_kept, zX9_keptMany, zX9_make, zX9_mean, zX9_move, zX9_moves, zX9_movesBy, zX9_movesNow, zX9_ofArc, zX9_ofMove, zX9_ofPlace, zX9_place, zX9_placed, zX9_put, zX9_reached, zX9_readsOrder, zX9_record, zX9_restore, zX9_run, zX9_save, zX9_share, zX9_tokens, zX9_tokensIn, zX9_trap, zX9_undo, zX9_whyNoPlace, zX9_whyNoTokens, zX9_whyNotMade, zX9_wipe, zX9_within, zJ6_bitCount_0f7a4, zJ7_fill_53178]
def zL_p0 : List (Nat × yO) := [(0, .new 7, 3, 7, 8, 255), (3, .dup, 4, 0, 0, 0), (4, .invokespecial 9, 7, 0, 0, 7), (7, .astore_n 1, 8, 0, 0, 0), (8, .new 10, 11, 8, 21, 801723), (11, .dup, 12, 0, 0, 0), (12, .invokespecial 12, 15, 66, 0, 8), (15, .astore_n 2, 16, 0, 0, 0), (16, .iconst 0, 17, 0, 0, 0), (17, .istore_n 3, 18, 0, 0, 0), (18, .iload_n 3, 19, 0, 0, 0), (19, .aload_n 0, 20, 0, 0, 0), (20, .arraylength, 21, 0, 0, 0), (21, .iconst 5, 22, 5, 0, 0), (22, .isub, 23, 0, 0, 0), (23, .if_icmp .gt 824, 26, 847, 0, 0), (26, .aload_n 0, 27, 0, 0, 0), (27, .iload_n 3, 28, 0, 0, 0), (28, .iaload, 29, 0, 0, 0), (29, .bipush 31, 31, 31, 0, 0), (31, .iand, 32, 0, 0, 0), (32, .tableswitch 809 0 25 #[120, 143, 156, 209, 242, 265, 298, 331, 364, 407, 430, 453, 477, 510, 523, 556, 579, 612, 635, 658, 711, 724, 737, 750, 763, 786], 152, 0, 0, 0), (152, .aload_n 1, 153, 0, 0, 0), (153, .aload_n 0, 154, 0, 0, 0), (154, .iload_n 3, 155, 0, 0, 0), (155, .iconst 1, 156, 1, 0, 0), (156, .iadd, 157, 0, 0, 0), (157, .iaload, 158, 0, 0, 0), (158, .invokevirtual 13, 161, 16, 1, 7), (161, .aload_n 2, 162, 0, 0, 0), (162, .aload_n 0, 163, 0, 0, 0), (163, .iload_n 3, 164, 0, 0, 0), (164, .iconst 1, 165, 1, 0, 0), (165, .iadd, 166, 0, 0, 0), (166, .iaload, 167, 0, 0, 0), (167, .invokevirtual 17, 170, 100, 1, 8), (170, .if_icmp .eq 671, 173, 841, 0, 0), (173, .iconst 0, 174, 0, 0, 0), (174, .ireturn, 175, 0, 0, 0), (175, .aload_n 1, 176, 0, 0, 0), (176, .invokevirtual 18, 179, 12, 0, 7), (179, .aload_n 2, 180, 0, 0, 0), (180, .invokevirtual 22, 183, 93, 0, 8), (183, .if_icmp .eq 658, 186, 841, 0, 0), (186, .iconst 0, 187, 0, 0, 0), (187, .ireturn, 188, 0, 0, 0), (188, .aload_n 1, 189, 0, 0, 0), (189, .aload_n 0, 190, 0, 0, 0), (190, .iload_n 3, 191, 0, 0, 0), (191, .iconst 1, 192, 1, 0, 0), (192, .iadd, 193, 0, 0, 0), (193, .iaload, 194, 0, 0, 0), (194, .aload_n 0, 195, 0, 0, 0), (195, .iload_n 3, 196, 0, 0, 0), (196, .iconst 2, 197, 2, 0, 0), (197, .iadd, 198, 0, 0, 0)]
def zL_p1 : List (Nat × yO) := [(198, .iaload, 199, 0, 0, 0), (199, .aload_n 0, 200, 0, 0, 0), (200, .iload_n 3, 201, 0, 0, 0), (201, .iconst 3, 202, 3, 0, 0), (202, .iadd, 203, 0, 0, 0), (203, .iaload, 204, 0, 0, 0), (204, .aload_n 0, 205, 0, 0, 0), (205, .iload_n 3, 206, 0, 0, 0), (206, .iconst 4, 207, 4, 0, 0), (207, .iadd, 208, 0, 0, 0), (208, .iaload, 209, 0, 0, 0), (209, .invokevirtual 23, 212, 1, 4, 7), (212, .aload_n 2, 213, 0, 0, 0), (213, .aload_n 0, 214, 0, 0, 0), (214, .iload_n 3, 215, 0, 0, 0), (215, .iconst 1, 216, 1, 0, 0), (216, .iadd, 217, 0, 0, 0), (217, .iaload, 218, 0, 0, 0), (218, .aload_n 0, 219, 0, 0, 0), (219, .iload_n 3, 220, 0, 0, 0), (220, .iconst 2, 221, 2, 0, 0), (221, .iadd, 222, 0, 0, 0), (222, .iaload, 223, 0, 0, 0), (223, .aload_n 0, 224, 0, 0, 0), (224, .iload_n 3, 225, 0, 0, 0), (225, .iconst 3, 226, 3, 0, 0), (226, .iadd, 227, 0, 0, 0), (227, .iaload, 228, 0, 0, 0), (228, .aload_n 0, 229, 0, 0, 0), (229, .iload_n 3, 230, 0, 0, 0), (230, .iconst 4, 231, 4, 0, 0), (231, .iadd, 232, 0, 0, 0), (232, .iaload, 233, 0, 0, 0), (233, .invokevirtual 27, 236, 69, 4, 8), (236, .if_icmp .eq 605, 239, 841, 0, 0), (239, .iconst 0, 240, 0, 0, 0), (240, .ireturn, 241, 0, 0, 0), (241, .aload_n 1, 242, 0, 0, 0), (242, .aload_n 0, 243, 0, 0, 0), (243, .iload_n 3, 244, 0, 0, 0), (244, .iconst 1, 245, 1, 0, 0), (245, .iadd, 246, 0, 0, 0), (246, .iaload, 247, 0, 0, 0), (247, .aload_n 0, 248, 0, 0, 0), (248, .iload_n 3, 249, 0, 0, 0), (249, .iconst 2, 250, 2, 0, 0), (250, .iadd, 251, 0, 0, 0), (251, .iaload, 252, 0, 0, 0), (252, .invokevirtual 28, 255, 23, 2, 7), (255, .aload_n 2, 256, 0, 0, 0), (256, .aload_n 0, 257, 0, 0, 0), (257, .iload_n 3, 258, 0, 0, 0), (258, .iconst 1, 259, 1, 0, 0), (259, .iadd, 260, 0, 0, 0), (260, .iaload, 261, 0, 0, 0), (261, .aload_n 0, 262, 0, 0, 0)]
def zL_p2 : List (Nat × yO) := [(262, .iload_n 3, 263, 0, 0, 0), (263, .iconst 2, 264, 2, 0, 0), (264, .iadd, 265, 0, 0, 0), (265, .iaload, 266, 0, 0, 0), (266, .invokevirtual 32, 269, 110, 2, 8), (269, .if_icmp .eq 572, 272, 841, 0, 0), (272, .iconst 0, 273, 0, 0, 0), (273, .ireturn, 274, 0, 0, 0), (274, .aload_n 1, 275, 0, 0, 0), (275, .aload_n 0, 276, 0, 0, 0), (276, .iload_n 3, 277, 0, 0, 0), (277, .iconst 1, 278, 1, 0, 0), (278, .iadd, 279, 0, 0, 0), (279, .iaload, 280, 0, 0, 0), (280, .invokevirtual 33, 283, 10, 1, 7), (283, .aload_n 2, 284, 0, 0, 0), (284, .aload_n 0, 285, 0, 0, 0), (285, .iload_n 3, 286, 0, 0, 0), (286, .iconst 1, 287, 1, 0, 0), (287, .iadd, 288, 0, 0, 0), (288, .iaload, 289, 0, 0, 0), (289, .invokevirtual 36, 292, 91, 1, 8), (292, .if_icmp .eq 549, 295, 841, 0, 0), (295, .iconst 0, 296, 0, 0, 0), (296, .ireturn, 297, 0, 0, 0), (297, .aload_n 1, 298, 0, 0, 0), (298, .aload_n 0, 299, 0, 0, 0), (299, .iload_n 3, 300, 0, 0, 0), (300, .iconst 1, 301, 1, 0, 0), (301, .iadd, 302, 0, 0, 0), (302, .iaload, 303, 0, 0, 0), (303, .aload_n 0, 304, 0, 0, 0), (304, .iload_n 3, 305, 0, 0, 0), (305, .iconst 2, 306, 2, 0, 0), (306, .iadd, 307, 0, 0, 0), (307, .iaload, 308, 0, 0, 0), (308, .invokevirtual 37, 311, 20, 2, 7), (311, .aload_n 2, 312, 0, 0, 0), (312, .aload_n 0, 313, 0, 0, 0), (313, .iload_n 3, 314, 0, 0, 0), (314, .iconst 1, 315, 1, 0, 0), (315, .iadd, 316, 0, 0, 0), (316, .iaload, 317, 0, 0, 0), (317, .aload_n 0, 318, 0, 0, 0), (318, .iload_n 3, 319, 0, 0, 0), (319, .iconst 2, 320, 2, 0, 0), (320, .iadd, 321, 0, 0, 0), (321, .iaload, 322, 0, 0, 0), (322, .invokevirtual 40, 325, 107, 2, 8), (325, .if_icmp .eq 516, 328, 841, 0, 0), (328, .iconst 0, 329, 0, 0, 0), (329, .ireturn, 330, 0, 0, 0), (330, .aload_n 1, 331, 0, 0, 0), (331, .aload_n 0, 332, 0, 0, 0), (332, .iload_n 3, 333, 0, 0, 0), (333, .iconst 1, 334, 1, 0, 0)]
def zL_p3 : List (Nat × yO) := [(334, .iadd, 335, 0, 0, 0), (335, .iaload, 336, 0, 0, 0), (336, .aload_n 0, 337, 0, 0, 0), (337, .iload_n 3, 338, 0, 0, 0), (338, .iconst 2, 339, 2, 0, 0), (339, .iadd, 340, 0, 0, 0), (340, .iaload, 341, 0, 0, 0), (341, .invokevirtual 41, 344, 15, 2, 7), (344, .aload_n 2, 345, 0, 0, 0), (345, .aload_n 0, 346, 0, 0, 0), (346, .iload_n 3, 347, 0, 0, 0), (347, .iconst 1, 348, 1, 0, 0), (348, .iadd, 349, 0, 0, 0), (349, .iaload, 350, 0, 0, 0), (350, .aload_n 0, 351, 0, 0, 0), (351, .iload_n 3, 352, 0, 0, 0), (352, .iconst 2, 353, 2, 0, 0), (353, .iadd, 354, 0, 0, 0), (354, .iaload, 355, 0, 0, 0), (355, .invokevirtual 44, 358, 99, 2, 8), (358, .if_icmp .eq 483, 361, 841, 0, 0), (361, .iconst 0, 362, 0, 0, 0), (362, .ireturn, 363, 0, 0, 0), (363, .aload_n 1, 364, 0, 0, 0), (364, .aload_n 0, 365, 0, 0, 0), (365, .iload_n 3, 366, 0, 0, 0), (366, .iconst 1, 367, 1, 0, 0), (367, .iadd, 368, 0, 0, 0), (368, .iaload, 369, 0, 0, 0), (369, .aload_n 0, 370, 0, 0, 0), (370, .iload_n 3, 371, 0, 0, 0), (371, .iconst 2, 372, 2, 0, 0), (372, .iadd, 373, 0, 0, 0), (373, .iaload, 374, 0, 0, 0), (374, .invokevirtual 45, 377, 14, 2, 7), (377, .aload_n 2, 378, 0, 0, 0), (378, .aload_n 0, 379, 0, 0, 0), (379, .iload_n 3, 380, 0, 0, 0), (380, .iconst 1, 381, 1, 0, 0), (381, .iadd, 382, 0, 0, 0), (382, .iaload, 383, 0, 0, 0), (383, .aload_n 0, 384, 0, 0, 0), (384, .iload_n 3, 385, 0, 0, 0), (385, .iconst 2, 386, 2, 0, 0), (386, .iadd, 387, 0, 0, 0), (387, .iaload, 388, 0, 0, 0), (388, .invokevirtual 48, 391, 98, 2, 8), (391, .if_icmp .eq 450, 394, 841, 0, 0), (394, .iconst 0, 395, 0, 0, 0), (395, .ireturn, 396, 0, 0, 0), (396, .aload_n 1, 397, 0, 0, 0), (397, .aload_n 0, 398, 0, 0, 0), (398, .iload_n 3, 399, 0, 0, 0), (399, .iconst 1, 400, 1, 0, 0), (400, .iadd, 401, 0, 0, 0), (401, .iaload, 402, 0, 0, 0)]
def zL_p4 : List (Nat × yO) := [(402, .aload_n 0, 403, 0, 0, 0), (403, .iload_n 3, 404, 0, 0, 0), (404, .iconst 2, 405, 2, 0, 0), (405, .iadd, 406, 0, 0, 0), (406, .iaload, 407, 0, 0, 0), (407, .aload_n 0, 408, 0, 0, 0), (408, .iload_n 3, 409, 0, 0, 0), (409, .iconst 3, 410, 3, 0, 0), (410, .iadd, 411, 0, 0, 0), (411, .iaload, 412, 0, 0, 0), (412, .invokevirtual 49, 415, 13, 3, 7), (415, .aload_n 2, 416, 0, 0, 0), (416, .aload_n 0, 417, 0, 0, 0), (417, .iload_n 3, 418, 0, 0, 0), (418, .iconst 1, 419, 1, 0, 0), (419, .iadd, 420, 0, 0, 0), (420, .iaload, 421, 0, 0, 0), (421, .aload_n 0, 422, 0, 0, 0), (422, .iload_n 3, 423, 0, 0, 0), (423, .iconst 2, 424, 2, 0, 0), (424, .iadd, 425, 0, 0, 0), (425, .iaload, 426, 0, 0, 0), (426, .aload_n 0, 427, 0, 0, 0), (427, .iload_n 3, 428, 0, 0, 0), (428, .iconst 3, 429, 3, 0, 0), (429, .iadd, 430, 0, 0, 0), (430, .iaload, 431, 0, 0, 0), (431, .invokevirtual 53, 434, 97, 3, 8), (434, .if_icmp .eq 407, 437, 841, 0, 0), (437, .iconst 0, 438, 0, 0, 0), (438, .ireturn, 439, 0, 0, 0), (439, .aload_n 1, 440, 0, 0, 0), (440, .aload_n 0, 441, 0, 0, 0), (441, .iload_n 3, 442, 0, 0, 0), (442, .iconst 1, 443, 1, 0, 0), (443, .iadd, 444, 0, 0, 0), (444, .iaload, 445, 0, 0, 0), (445, .invokevirtual 54, 448, 4, 1, 7), (448, .aload_n 2, 449, 0, 0, 0), (449, .aload_n 0, 450, 0, 0, 0), (450, .iload_n 3, 451, 0, 0, 0), (451, .iconst 1, 452, 1, 0, 0), (452, .iadd, 453, 0, 0, 0), (453, .iaload, 454, 0, 0, 0), (454, .invokevirtual 57, 457, 75, 1, 8), (457, .if_icmp .eq 384, 460, 841, 0, 0), (460, .iconst 0, 461, 0, 0, 0), (461, .ireturn, 462, 0, 0, 0), (462, .aload_n 1, 463, 0, 0, 0), (463, .aload_n 0, 464, 0, 0, 0), (464, .iload_n 3, 465, 0, 0, 0), (465, .iconst 1, 466, 1, 0, 0), (466, .iadd, 467, 0, 0, 0), (467, .iaload, 468, 0, 0, 0), (468, .invokevirtual 58, 471, 22, 1, 7), (471, .aload_n 2, 472, 0, 0, 0)]
def zL_p5 : List (Nat × yO) := [(472, .aload_n 0, 473, 0, 0, 0), (473, .iload_n 3, 474, 0, 0, 0), (474, .iconst 1, 475, 1, 0, 0), (475, .iadd, 476, 0, 0, 0), (476, .iaload, 477, 0, 0, 0), (477, .invokevirtual 61, 480, 109, 1, 8), (480, .if_icmp .eq 361, 483, 841, 0, 0), (483, .iconst 0, 484, 0, 0, 0), (484, .ireturn, 485, 0, 0, 0), (485, .aload_n 1, 486, 0, 0, 0), (486, .aload_n 0, 487, 0, 0, 0), (487, .iload_n 3, 488, 0, 0, 0), (488, .iconst 1, 489, 1, 0, 0), (489, .iadd, 490, 0, 0, 0), (490, .iaload, 491, 0, 0, 0), (491, .invokevirtual 62, 494, 11, 1, 7), (494, .aload_n 2, 495, 0, 0, 0), (495, .aload_n 0, 496, 0, 0, 0), (496, .iload_n 3, 497, 0, 0, 0), (497, .iconst 1, 498, 1, 0, 0), (498, .iadd, 499, 0, 0, 0), (499, .iaload, 500, 0, 0, 0), (500, .invokevirtual 66, 503, 92, 1, 8), (503, .lcmp, 504, 0, 0, 0), (504, .ifCond .eq 337, 507, 841, 0, 0), (507, .iconst 0, 508, 0, 0, 0), (508, .ireturn, 509, 0, 0, 0), (509, .aload_n 1, 510, 0, 0, 0), (510, .aload_n 0, 511, 0, 0, 0), (511, .iload_n 3, 512, 0, 0, 0), (512, .iconst 1, 513, 1, 0, 0), (513, .iadd, 514, 0, 0, 0), (514, .iaload, 515, 0, 0, 0), (515, .aload_n 0, 516, 0, 0, 0), (516, .iload_n 3, 517, 0, 0, 0), (517, .iconst 2, 518, 2, 0, 0), (518, .iadd, 519, 0, 0, 0), (519, .iaload, 520, 0, 0, 0), (520, .invokevirtual 67, 523, 8, 2, 7), (523, .aload_n 2, 524, 0, 0, 0), (524, .aload_n 0, 525, 0, 0, 0), (525, .iload_n 3, 526, 0, 0, 0), (526, .iconst 1, 527, 1, 0, 0), (527, .iadd, 528, 0, 0, 0), (528, .iaload, 529, 0, 0, 0), (529, .aload_n 0, 530, 0, 0, 0), (530, .iload_n 3, 531, 0, 0, 0), (531, .iconst 2, 532, 2, 0, 0), (532, .iadd, 533, 0, 0, 0), (533, .iaload, 534, 0, 0, 0), (534, .invokevirtual 70, 537, 89, 2, 8), (537, .if_icmp .eq 304, 540, 841, 0, 0), (540, .iconst 0, 541, 0, 0, 0), (541, .ireturn, 542, 0, 0, 0), (542, .aload_n 1, 543, 0, 0, 0), (543, .invokevirtual 71, 546, 9, 0, 7)]
def zL_p6 : List (Nat × yO) := [(546, .aload_n 2, 547, 0, 0, 0), (547, .invokevirtual 74, 550, 90, 0, 8), (550, .if_icmp .eq 291, 553, 841, 0, 0), (553, .iconst 0, 554, 0, 0, 0), (554, .ireturn, 555, 0, 0, 0), (555, .aload_n 1, 556, 0, 0, 0), (556, .aload_n 0, 557, 0, 0, 0), (557, .iload_n 3, 558, 0, 0, 0), (558, .iconst 1, 559, 1, 0, 0), (559, .iadd, 560, 0, 0, 0), (560, .iaload, 561, 0, 0, 0), (561, .aload_n 0, 562, 0, 0, 0), (562, .iload_n 3, 563, 0, 0, 0), (563, .iconst 2, 564, 2, 0, 0), (564, .iadd, 565, 0, 0, 0), (565, .iaload, 566, 0, 0, 0), (566, .invokevirtual 75, 569, 24, 2, 7), (569, .aload_n 2, 570, 0, 0, 0), (570, .aload_n 0, 571, 0, 0, 0), (571, .iload_n 3, 572, 0, 0, 0), (572, .iconst 1, 573, 1, 0, 0), (573, .iadd, 574, 0, 0, 0), (574, .iaload, 575, 0, 0, 0), (575, .aload_n 0, 576, 0, 0, 0), (576, .iload_n 3, 577, 0, 0, 0), (577, .iconst 2, 578, 2, 0, 0), (578, .iadd, 579, 0, 0, 0), (579, .iaload, 580, 0, 0, 0), (580, .invokevirtual 78, 583, 112, 2, 8), (583, .if_icmp .eq 258, 586, 841, 0, 0), (586, .iconst 0, 587, 0, 0, 0), (587, .ireturn, 588, 0, 0, 0), (588, .aload_n 1, 589, 0, 0, 0), (589, .aload_n 0, 590, 0, 0, 0), (590, .iload_n 3, 591, 0, 0, 0), (591, .iconst 1, 592, 1, 0, 0), (592, .iadd, 593, 0, 0, 0), (593, .iaload, 594, 0, 0, 0), (594, .invokevirtual 79, 597, 18, 1, 7), (597, .aload_n 2, 598, 0, 0, 0), (598, .aload_n 0, 599, 0, 0, 0), (599, .iload_n 3, 600, 0, 0, 0), (600, .iconst 1, 601, 1, 0, 0), (601, .iadd, 602, 0, 0, 0), (602, .iaload, 603, 0, 0, 0), (603, .invokevirtual 82, 606, 103, 1, 8), (606, .if_icmp .eq 235, 609, 841, 0, 0), (609, .iconst 0, 610, 0, 0, 0), (610, .ireturn, 611, 0, 0, 0), (611, .aload_n 1, 612, 0, 0, 0), (612, .aload_n 0, 613, 0, 0, 0), (613, .iload_n 3, 614, 0, 0, 0), (614, .iconst 1, 615, 1, 0, 0), (615, .iadd, 616, 0, 0, 0), (616, .iaload, 617, 0, 0, 0), (617, .aload_n 0, 618, 0, 0, 0)]
def zL_p7 : List (Nat × yO) := [(618, .iload_n 3, 619, 0, 0, 0), (619, .iconst 2, 620, 2, 0, 0), (620, .iadd, 621, 0, 0, 0), (621, .iaload, 622, 0, 0, 0), (622, .invokevirtual 83, 625, 6, 2, 7), (625, .aload_n 2, 626, 0, 0, 0), (626, .aload_n 0, 627, 0, 0, 0), (627, .iload_n 3, 628, 0, 0, 0), (628, .iconst 1, 629, 1, 0, 0), (629, .iadd, 630, 0, 0, 0), (630, .iaload, 631, 0, 0, 0), (631, .aload_n 0, 632, 0, 0, 0), (632, .iload_n 3, 633, 0, 0, 0), (633, .iconst 2, 634, 2, 0, 0), (634, .iadd, 635, 0, 0, 0), (635, .iaload, 636, 0, 0, 0), (636, .invokevirtual 86, 639, 77, 2, 8), (639, .if_icmp .eq 202, 642, 841, 0, 0), (642, .iconst 0, 643, 0, 0, 0), (643, .ireturn, 644, 0, 0, 0), (644, .aload_n 1, 645, 0, 0, 0), (645, .aload_n 0, 646, 0, 0, 0), (646, .iload_n 3, 647, 0, 0, 0), (647, .iconst 1, 648, 1, 0, 0), (648, .iadd, 649, 0, 0, 0), (649, .iaload, 650, 0, 0, 0), (650, .invokevirtual 87, 653, 7, 1, 7), (653, .aload_n 2, 654, 0, 0, 0), (654, .aload_n 0, 655, 0, 0, 0), (655, .iload_n 3, 656, 0, 0, 0), (656, .iconst 1, 657, 1, 0, 0), (657, .iadd, 658, 0, 0, 0), (658, .iaload, 659, 0, 0, 0), (659, .invokevirtual 90, 662, 84, 1, 8), (662, .if_icmp .eq 179, 665, 841, 0, 0), (665, .iconst 0, 666, 0, 0, 0), (666, .ireturn, 667, 0, 0, 0), (667, .aload_n 1, 668, 0, 0, 0), (668, .aload_n 0, 669, 0, 0, 0), (669, .iload_n 3, 670, 0, 0, 0), (670, .iconst 1, 671, 1, 0, 0), (671, .iadd, 672, 0, 0, 0), (672, .iaload, 673, 0, 0, 0), (673, .invokevirtual 91, 676, 2, 1, 7), (676, .aload_n 2, 677, 0, 0, 0), (677, .aload_n 0, 678, 0, 0, 0), (678, .iload_n 3, 679, 0, 0, 0), (679, .iconst 1, 680, 1, 0, 0), (680, .iadd, 681, 0, 0, 0), (681, .iaload, 682, 0, 0, 0), (682, .invokevirtual 94, 685, 71, 1, 8), (685, .if_icmp .eq 156, 688, 841, 0, 0), (688, .iconst 0, 689, 0, 0, 0), (689, .ireturn, 690, 0, 0, 0), (690, .aload_n 1, 691, 0, 0, 0), (691, .aload_n 0, 692, 0, 0, 0)]
def zL_p8 : List (Nat × yO) := [(692, .iload_n 3, 693, 0, 0, 0), (693, .iconst 1, 694, 1, 0, 0), (694, .iadd, 695, 0, 0, 0), (695, .iaload, 696, 0, 0, 0), (696, .i2l, 697, 0, 0, 0), (697, .bipush 32, 699, 32, 0, 0), (699, .lshl, 700, 0, 0, 0), (700, .aload_n 0, 701, 0, 0, 0), (701, .iload_n 3, 702, 0, 0, 0), (702, .iconst 2, 703, 2, 0, 0), (703, .iadd, 704, 0, 0, 0), (704, .iaload, 705, 0, 0, 0), (705, .i2l, 706, 0, 0, 0), (706, .ldc2_w 95, 709, 4294967295, 0, 0), (709, .land, 710, 0, 0, 0), (710, .lor, 711, 0, 0, 0), (711, .invokevirtual 97, 714, 17, 1, 7), (714, .aload_n 2, 715, 0, 0, 0), (715, .aload_n 0, 716, 0, 0, 0), (716, .iload_n 3, 717, 0, 0, 0), (717, .iconst 1, 718, 1, 0, 0), (718, .iadd, 719, 0, 0, 0), (719, .iaload, 720, 0, 0, 0), (720, .i2l, 721, 0, 0, 0), (721, .bipush 32, 723, 32, 0, 0), (723, .lshl, 724, 0, 0, 0), (724, .aload_n 0, 725, 0, 0, 0), (725, .iload_n 3, 726, 0, 0, 0), (726, .iconst 2, 727, 2, 0, 0), (727, .iadd, 728, 0, 0, 0), (728, .iaload, 729, 0, 0, 0), (729, .i2l, 730, 0, 0, 0), (730, .ldc2_w 95, 733, 4294967295, 0, 0), (733, .land, 734, 0, 0, 0), (734, .lor, 735, 0, 0, 0), (735, .invokevirtual 101, 738, 102, 1, 8), (738, .if_icmp .eq 103, 741, 841, 0, 0), (741, .iconst 0, 742, 0, 0, 0), (742, .ireturn, 743, 0, 0, 0), (743, .aload_n 1, 744, 0, 0, 0), (744, .invokevirtual 102, 747, 26, 0, 7), (747, .aload_n 2, 748, 0, 0, 0), (748, .invokevirtual 105, 751, 117, 0, 8), (751, .if_icmp .eq 90, 754, 841, 0, 0), (754, .iconst 0, 755, 0, 0, 0), (755, .ireturn, 756, 0, 0, 0), (756, .aload_n 1, 757, 0, 0, 0), (757, .invokevirtual 106, 760, 5, 0, 7), (760, .aload_n 2, 761, 0, 0, 0), (761, .invokevirtual 109, 764, 76, 0, 8), (764, .if_icmp .eq 77, 767, 841, 0, 0), (767, .iconst 0, 768, 0, 0, 0), (768, .ireturn, 769, 0, 0, 0), (769, .aload_n 1, 770, 0, 0, 0), (770, .invokevirtual 110, 773, 3, 0, 7), (773, .aload_n 2, 774, 0, 0, 0)]
def zL_p9 : List (Nat × yO) := [(774, .invokevirtual 113, 777, 72, 0, 8), (777, .if_icmp .eq 64, 780, 841, 0, 0), (780, .iconst 0, 781, 0, 0, 0), (781, .ireturn, 782, 0, 0, 0), (782, .aload_n 1, 783, 0, 0, 0), (783, .invokevirtual 114, 786, 25, 0, 7), (786, .aload_n 2, 787, 0, 0, 0), (787, .invokevirtual 117, 790, 113, 0, 8), (790, .if_icmp .eq 51, 793, 841, 0, 0), (793, .iconst 0, 794, 0, 0, 0), (794, .ireturn, 795, 0, 0, 0), (795, .aload_n 1, 796, 0, 0, 0), (796, .aload_n 0, 797, 0, 0, 0), (797, .iload_n 3, 798, 0, 0, 0), (798, .iconst 1, 799, 1, 0, 0), (799, .iadd, 800, 0, 0, 0), (800, .iaload, 801, 0, 0, 0), (801, .invokevirtual 118, 804, 21, 1, 7), (804, .aload_n 2, 805, 0, 0, 0), (805, .aload_n 0, 806, 0, 0, 0), (806, .iload_n 3, 807, 0, 0, 0), (807, .iconst 1, 808, 1, 0, 0), (808, .iadd, 809, 0, 0, 0), (809, .iaload, 810, 0, 0, 0), (810, .invokevirtual 121, 813, 108, 1, 8), (813, .if_icmp .eq 28, 816, 841, 0, 0), (816, .iconst 0, 817, 0, 0, 0), (817, .ireturn, 818, 0, 0, 0), (818, .aload_n 1, 819, 0, 0, 0), (819, .aload_n 0, 820, 0, 0, 0), (820, .iload_n 3, 821, 0, 0, 0), (821, .iconst 1, 822, 1, 0, 0), (822, .iadd, 823, 0, 0, 0), (823, .iaload, 824, 0, 0, 0), (824, .invokevirtual 122, 827, 19, 1, 7), (827, .aload_n 2, 828, 0, 0, 0), (828, .aload_n 0, 829, 0, 0, 0), (829, .iload_n 3, 830, 0, 0, 0), (830, .iconst 1, 831, 1, 0, 0), (831, .iadd, 832, 0, 0, 0), (832, .iaload, 833, 0, 0, 0), (833, .invokevirtual 125, 836, 106, 1, 8), (836, .if_icmp .eq 5, 839, 841, 0, 0), (839, .iconst 0, 840, 0, 0, 0), (840, .ireturn, 841, 0, 0, 0), (841, .iinc 3 5, 844, 5, 0, 0), (844, .goto (-826), 847, 18, 0, 0), (847, .iconst 1, 848, 1, 0, 0), (848, .ireturn, 849, 0, 0, 0)]
def zL_law : yE := (yL_law, cL_law, 4, some .boolean, zL_p0 ++ (zL_p1 ++ (zL_p2 ++ (zL_p3 ++ (zL_p4 ++ (zL_p5 ++ (zL_p6 ++ (zL_p7 ++ (zL_p8 ++ (zL_p9))))))))))
end
section
/-! the same check with each method's own list of words, told by their places in the tables: cheaper to compute -/
def x_fl (M : Cond → Bool) (own : String) (idx r1 r2 : Nat) : Bool := match vwCl[r1]? with
  | none => false
  | some r => decide (r2 < r.2.2) && M (Cond.fieldLink own idx (r.2.1 r2).1 (r.2.1 r2).2.1 (r.2.1 r2).2.2.1)
def x_nw (M : Cond → Bool) (own : String) (idx r1 r2 r3 : Nat) : Bool := match vwCl[r1]? with
  | none => false
  | some r => decide (r.2.2 = r2) && (M (Cond.classLink own idx r.1) && (M (Cond.instantiable r.1 r2) && (M (Cond.initialized r.1) && (List.range r2).all (fun k => y_dk (Nat.testBit r3 k) (parseFieldDescriptor (r.2.1 k).2.2.1)))))
def x_an (M : Cond → Bool) (own : String) (idx r1 : Nat) : Bool := match vwCl[r1]? with
  | none => false
  | some r => decide (r.1 = RX3) && M (Cond.classLink own idx r.1)
def x_okin (M : Cond → Bool) (nL : Nat) (own yn : String) (pc : Nat) (o : yO) : Bool := match o.1 with
  | .ldc k => decide (o.2.1 = pc + 2) && M (Cond.constant own k (nI o.2.2.1))
  | .ldc_w k => decide (o.2.1 = pc + 3) && M (Cond.constant own k (nI o.2.2.1))
  | .ldc2_w k => decide (o.2.1 = pc + 3) && M (Cond.constantLong own k (lN o.2.2.1))
  | .getfield k => decide (o.2.1 = pc + 3) && x_fl M own k o.2.2.1 o.2.2.2.1
  | .putfield k => decide (o.2.1 = pc + 3) && (x_fl M own k o.2.2.1 o.2.2.2.1 && y_pf own yn o.2.2.1 o.2.2.2.1 o.2.2.2.2)
  | .new k => decide (o.2.1 = pc + 3) && x_nw M own k o.2.2.1 o.2.2.2.1 o.2.2.2.2
  | .newarray .int => decide (o.2.1 = pc + 2) && (decide (o.2.2.1 = 0) && M (Cond.arrayClass .int))
  | .newarray .boolean => decide (o.2.1 = pc + 2) && (decide (o.2.2.1 = 1) && M (Cond.arrayClass .boolean))
  | .newarray .char => decide (o.2.1 = pc + 2) && (decide (o.2.2.1 = 2) && M (Cond.arrayClass .char))
  | .anewarray k => decide (o.2.1 = pc + 3) && x_an M own k o.2.2.1
  | .invokespecial k => decide (o.2.1 = pc + 3) && (!(Nat.beq o.2.2.2.2 99) || (M (Cond.methodLink own k objectInit) && (M (Cond.instanceMethod objectInit) && M (Cond.code objectInit ⟨#[0xb1]⟩ 1 none))))
  | .invokestatic k => decide (o.2.1 = pc + 3) && ((!(Nat.beq o.2.2.2.2 98) || (M (Cond.methodLink own k arraycopyName) && (M (Cond.native arraycopyName) && (M (Cond.static arraycopyName) && M (Cond.initialized "java/lang/System"))))) && ((!(Nat.beq o.2.2.2.2 96) || (M (Cond.methodLink own k Lib.Math.max.name) && (M (Cond.static Lib.Math.max.name) && (M (Cond.initialized "java/lang/Math") && M (Cond.code Lib.Math.max.name Lib.Math.max.code 2 (some .int)))))) && (!(Nat.beq o.2.2.2.2 97) || (M (Cond.methodLink own k Lib.Math.min.name) && (M (Cond.static Lib.Math.min.name) && (M (Cond.initialized "java/lang/Math") && M (Cond.code Lib.Math.min.name Lib.Math.min.code 2 (some .int))))))))
  | _ => y_okin nL own yn pc o
theorem x_fl_ok {M : Cond → Bool} (hM : ∀ w, M w = true → yM w = true) {own : String} {idx r1 r2 : Nat} (h : x_fl M own idx r1 r2 = true) : y_fl own idx r1 r2 = true := by
  unfold x_fl at h
  unfold y_fl
  cases hr : vwCl[r1]? with
  | none => rw [hr] at h; cases h
  | some r =>
    rw [hr] at h
    simp only [Bool.and_eq_true] at h ⊢
    exact ⟨h.1, hM _ h.2⟩
theorem x_nw_ok {M : Cond → Bool} (hM : ∀ w, M w = true → yM w = true) {own : String} {idx r1 r2 r3 : Nat} (h : x_nw M own idx r1 r2 r3 = true) : y_nw own idx r1 r2 r3 = true := by
  unfold x_nw at h
  unfold y_nw
  cases hr : vwCl[r1]? with
  | none => rw [hr] at h; cases h
  | some r =>
    rw [hr] at h
    simp only [Bool.and_eq_true] at h ⊢
    exact ⟨h.1, hM _ h.2.1, hM _ h.2.2.1, hM _ h.2.2.2.1, h.2.2.2.2⟩
theorem x_an_ok {M : Cond → Bool} (hM : ∀ w, M w = true → yM w = true) {own : String} {idx r1 : Nat} (h : x_an M own idx r1 = true) : y_an own idx r1 = true := by
  unfold x_an at h
  unfold y_an
  cases hr : vwCl[r1]? with
  | none => rw [hr] at h; cases h
  | some r =>
    rw [hr] at h
    simp only [Bool.and_eq_true] at h ⊢
    exact ⟨h.1, hM _ h.2⟩
theorem x_or4 {M : Cond → Bool} (hM : ∀ w, M w = true → yM w = true) {z : Bool} {a b c d : Cond} (h : (z || (M a && (M b && (M c && M d)))) = true) : (z || (yM a && (yM b && (yM c && yM d)))) = true := by
  rcases Bool.or_eq_true_iff.mp h with h3 | h3
  · exact Bool.or_eq_true_iff.mpr (Or.inl h3)
  · have h4 := Bool.and_eq_true_iff.mp h3
    have h5 := Bool.and_eq_true_iff.mp h4.2
    have h6 := Bool.and_eq_true_iff.mp h5.2
    exact Bool.or_eq_true_iff.mpr (Or.inr (Bool.and_eq_true_iff.mpr ⟨hM _ h4.1, Bool.and_eq_true_iff.mpr ⟨hM _ h5.1, Bool.and_eq_true_iff.mpr ⟨hM _ h6.1, hM _ h6.2⟩⟩⟩))
theorem x_okin_ok {M : Cond → Bool} (hM : ∀ w, M w = true → yM w = true) {nL : Nat} {own yn : String} {pc : Nat} {o : yO} (h : x_okin M nL own yn pc o = true) : y_okin nL own yn pc o = true := by
  obtain ⟨ins, nx, r1, r2, r3⟩ := o
  cases ins with
  | ldc k => exact Bool.and_eq_true_iff.mpr ⟨(Bool.and_eq_true_iff.mp h).1, hM _ (Bool.and_eq_true_iff.mp h).2⟩
  | ldc_w k => exact Bool.and_eq_true_iff.mpr ⟨(Bool.and_eq_true_iff.mp h).1, hM _ (Bool.and_eq_true_iff.mp h).2⟩
  | ldc2_w k => exact Bool.and_eq_true_iff.mpr ⟨(Bool.and_eq_true_iff.mp h).1, hM _ (Bool.and_eq_true_iff.mp h).2⟩
  | getfield k => exact Bool.and_eq_true_iff.mpr ⟨(Bool.and_eq_true_iff.mp h).1, x_fl_ok hM (Bool.and_eq_true_iff.mp h).2⟩
  | putfield k =>
    have h2 := Bool.and_eq_true_iff.mp (Bool.and_eq_true_iff.mp h).2
    exact Bool.and_eq_true_iff.mpr ⟨(Bool.and_eq_true_iff.mp h).1, Bool.and_eq_true_iff.mpr ⟨x_fl_ok hM h2.1, h2.2⟩⟩
  | new k => exact Bool.and_eq_true_iff.mpr ⟨(Bool.and_eq_true_iff.mp h).1, x_nw_ok hM (Bool.and_eq_true_iff.mp h).2⟩
  | newarray ty =>
    cases ty with
    | int =>
      have h2 := Bool.and_eq_true_iff.mp (Bool.and_eq_true_iff.mp h).2
      exact Bool.and_eq_true_iff.mpr ⟨(Bool.and_eq_true_iff.mp h).1, Bool.and_eq_true_iff.mpr ⟨h2.1, hM _ h2.2⟩⟩
    | boolean =>
      have h2 := Bool.and_eq_true_iff.mp (Bool.and_eq_true_iff.mp h).2
      exact Bool.and_eq_true_iff.mpr ⟨(Bool.and_eq_true_iff.mp h).1, Bool.and_eq_true_iff.mpr ⟨h2.1, hM _ h2.2⟩⟩
    | char =>
      have h2 := Bool.and_eq_true_iff.mp (Bool.and_eq_true_iff.mp h).2
      exact Bool.and_eq_true_iff.mpr ⟨(Bool.and_eq_true_iff.mp h).1, Bool.and_eq_true_iff.mpr ⟨h2.1, hM _ h2.2⟩⟩
    | _ => exact h
  | anewarray k => exact Bool.and_eq_true_iff.mpr ⟨(Bool.and_eq_true_iff.mp h).1, x_an_ok hM (Bool.and_eq_true_iff.mp h).2⟩
  | invokespecial k =>
    have h2 := Bool.and_eq_true_iff.mp h
    refine Bool.and_eq_true_iff.mpr ⟨h2.1, ?_⟩
    rcases Bool.or_eq_true_iff.mp h2.2 with h3 | h3
    · exact Bool.or_eq_true_iff.mpr (Or.inl h3)
    · have h4 := Bool.and_eq_true_iff.mp h3
      have h5 := Bool.and_eq_true_iff.mp h4.2
      exact Bool.or_eq_true_iff.mpr (Or.inr (Bool.and_eq_true_iff.mpr ⟨hM _ h4.1, Bool.and_eq_true_iff.mpr ⟨hM _ h5.1, hM _ h5.2⟩⟩))
  | invokestatic k =>
    have h2 := Bool.and_eq_true_iff.mp h
    have k2 := Bool.and_eq_true_iff.mp h2.2
    have k3 := Bool.and_eq_true_iff.mp k2.2
    exact Bool.and_eq_true_iff.mpr ⟨h2.1, Bool.and_eq_true_iff.mpr ⟨x_or4 hM k2.1, Bool.and_eq_true_iff.mpr ⟨x_or4 hM k3.1, x_or4 hM k3.2⟩⟩⟩
  | _ => exact h
def x_okc (M : Cond → Bool) (mt : List yE) (own : String) (o : yO) : Bool := match o.1 with
  | .invokevirtual i => match mt[o.2.2.1]? with
    | none => false
    | some e' => M (.methodLink own i e'.1) && (M (.instanceMethod e'.1) && (M (.selects e'.1.cls e'.1 e'.1) && (M (.initialized e'.1.cls) && (decide ((parseMethodDescriptor e'.1.desc).map (fun d => d.parameters.length) = some o.2.2.2.1) && (match vwCl[o.2.2.2.2]? with
      | none => false
      | some r => decide (r.1 = e'.1.cls))))))
  | .invokestatic i => bif y_nat o.2.2.2.2 then true else match mt[o.2.2.1]? with
    | none => false
    | some e' => M (.methodLink own i e'.1) && (M (.static e'.1) && (M (.initialized e'.1.cls) && decide ((parseMethodDescriptor e'.1.desc).map (fun d => d.parameters.length) = some o.2.2.2.1)))
  | .invokespecial i => bif Nat.beq o.2.2.2.2 99 then true else match mt[o.2.2.1]? with
    | none => false
    | some e' => (M (.methodLink own i e'.1) || zN.any (fun q => decide (q.1 = own ∧ q.2.1 = i ∧ q.2.2.1 = e'.1))) && (M (.instanceMethod e'.1) && (decide (e'.1.name = "<init>") && (decide (e'.2.2.2.1 = none) && (M (.initialized e'.1.cls) && decide ((parseMethodDescriptor e'.1.desc).map (fun d => d.parameters.length) = some o.2.2.2.1)))))
  | _ => true
theorem x_okc_ok {M : Cond → Bool} (hM : ∀ w, M w = true → yM w = true) {mt : List yE} {own : String} {o : yO} (h : x_okc M mt own o = true) : y_okc mt own o = true := by
  obtain ⟨ins, nx, r1, r2, r3⟩ := o
  cases ins with
  | invokevirtual i =>
    unfold x_okc at h
    unfold y_okc
    dsimp only at h ⊢
    cases hm : mt[r1]? with
    | none => rw [hm] at h; cases h
    | some e' =>
      rw [hm] at h
      simp only [Bool.and_eq_true] at h ⊢
      obtain ⟨a, b, c, d, e⟩ := h
      exact ⟨hM _ a, hM _ b, hM _ c, hM _ d, e⟩
  | invokestatic i =>
    unfold x_okc at h
    unfold y_okc
    dsimp only at h ⊢
    cases hb : y_nat r3 with
    | true => rfl
    | false =>
      rw [hb] at h
      cases hm : mt[r1]? with
      | none => rw [hm] at h; cases h
      | some e' =>
        rw [hm] at h
        simp only [cond_false, Bool.and_eq_true] at h ⊢
        obtain ⟨a, b, c, d⟩ := h
        exact ⟨hM _ a, hM _ b, hM _ c, d⟩
  | invokespecial i =>
    unfold x_okc at h
    unfold y_okc
    dsimp only at h ⊢
    cases hb : Nat.beq r3 99 with
    | true => rfl
    | false =>
      rw [hb] at h
      cases hm : mt[r1]? with
      | none => rw [hm] at h; cases h
      | some e' =>
        rw [hm] at h
        simp only [cond_false, Bool.and_eq_true] at h ⊢
        obtain ⟨a, b, c, d, e, f⟩ := h
        refine ⟨?_, hM _ b, c, d, hM _ e, f⟩
        rcases Bool.or_eq_true_iff.mp a with a | a
        · exact Bool.or_eq_true_iff.mpr (Or.inl (hM _ a))
        · exact Bool.or_eq_true_iff.mpr (Or.inr a)
  | _ => exact h
def x_okb (M : Cond → Bool) (mt : List yE) (e : yE) : Bool := e.2.2.2.2.all (fun q => (decide (decode e.2.1 q.1 = .ok (q.2.1, q.2.2.1 - q.1)) && x_okin M e.2.2.1 e.1.cls e.1.name q.1 q.2) && x_okc M mt e.1.cls q.2)
def x_ok (M : Cond → Bool) (mt : List yE) (e : yE) : Bool := M (.code e.1 e.2.1 e.2.2.1 e.2.2.2.1) && (plainName e.1.cls && (decide (e.1.cls ≠ "java/lang/invoke/MethodHandle" ∧ e.1.cls ≠ "java/lang/invoke/VarHandle") && (Nat.ble e.2.2.1 40 && x_okb M mt e)))
theorem x_okb_ok {M : Cond → Bool} (hM : ∀ w, M w = true → yM w = true) {mt : List yE} {e : yE} (h : x_okb M mt e = true) : y_okb mt e = true := by
  unfold x_okb at h
  unfold y_okb
  refine List.all_eq_true.mpr (fun q hq => ?_)
  have h1 := List.all_eq_true.mp h q hq
  simp only [Bool.and_eq_true] at h1 ⊢
  refine ⟨?_, x_okc_ok hM h1.2⟩
  unfold y_okop
  exact Bool.and_eq_true_iff.mpr ⟨h1.1.1, x_okin_ok hM h1.1.2⟩
theorem x_ok_ok {M : Cond → Bool} (hM : ∀ w, M w = true → yM w = true) {mt : List yE} {e : yE} (h : x_ok M mt e = true) : y_ok mt e = true := by
  unfold x_ok at h
  unfold y_ok
  simp only [Bool.and_eq_true] at h ⊢
  exact ⟨hM _ h.1, h.2.1, h.2.2.1, h.2.2.2.1, x_okb_ok hM h.2.2.2.2⟩
def x_M (wl : List (Nat × Cond)) (w : Cond) : Bool := wl.any (fun q => decide (q.2 = w))
def x_wl (wl : List (Nat × Cond)) : Bool := wl.all (fun q => decide (lw_tbl[q.1]? = some q.2) && goodWord q.2)
theorem x_M_ok {wl : List (Nat × Cond)} (h : x_wl wl = true) : ∀ w, x_M wl w = true → yM w = true := by
  intro w hw
  obtain ⟨q, hq, he⟩ := List.any_eq_true.mp hw
  have e := of_decide_eq_true he
  have h1 := List.all_eq_true.mp h q hq
  simp only [Bool.and_eq_true, decide_eq_true_eq] at h1
  rw [← e]
  unfold yM
  simp only [Bool.and_eq_true, decide_eq_true_eq]
  exact ⟨List.mem_of_getElem? h1.1, h1.2⟩
theorem x_use {wl : List (Nat × Cond)} {mt : List yE} {e : yE} (h : (x_wl wl && x_ok (x_M wl) mt e) = true) : y_ok mt e = true := x_ok_ok (x_M_ok (Bool.and_eq_true_iff.mp h).1) (Bool.and_eq_true_iff.mp h).2
theorem x_useb {wl : List (Nat × Cond)} {mt : List yE} {e : yE} (h : (x_wl wl && x_okb (x_M wl) mt e) = true) : y_okb mt e = true := x_okb_ok (x_M_ok (Bool.and_eq_true_iff.mp h).1) (Bool.and_eq_true_iff.mp h).2
def x_ch (M : Cond → Bool) (mt : List yE) (e : yE) (ps : List (Nat × yO)) : Bool := ps.all (fun q => (decide (decode e.2.1 q.1 = .ok (q.2.1, q.2.2.1 - q.1)) && x_okin M e.2.2.1 e.1.cls e.1.name q.1 q.2) && x_okc M mt e.1.cls q.2)
def y_ch (mt : List yE) (e : yE) (ps : List (Nat × yO)) : Bool := ps.all (fun q => y_okop e.2.2.1 e.1.cls e.1.name e.2.1 q && y_okc mt e.1.cls q.2)
theorem x_usec {wl : List (Nat × Cond)} {mt : List yE} {e : yE} {ps : List (Nat × yO)} (h : (x_wl wl && x_ch (x_M wl) mt e ps) = true) : y_ch mt e ps = true := by
  have hM := x_M_ok (Bool.and_eq_true_iff.mp h).1
  refine List.all_eq_true.mpr (fun q hq => ?_)
  have h1 := List.all_eq_true.mp (Bool.and_eq_true_iff.mp h).2 q hq
  simp only [Bool.and_eq_true] at h1 ⊢
  refine ⟨?_, x_okc_ok hM h1.2⟩
  unfold y_okop
  exact Bool.and_eq_true_iff.mpr ⟨h1.1.1, x_okin_ok hM h1.1.2⟩
end
section
set_option maxRecDepth 100000 in
theorem kX8_init : y_ok z_mt zX8_init = true := x_use (wl := [(69, (Jvm.Cond.initialized "TokenNets$Net")), (70, (Jvm.Cond.initialized "TokenNets$History")), (71, (Jvm.Cond.initialized "TokenNets$Pad")), (72, (Jvm.Cond.initialized "TokenNets$Sums")), (73, (Jvm.Cond.initialized "TokenNets$Reach")), (75, (Jvm.Cond.initialized "TokenNets$Tree")), (86, (Jvm.Cond.code ({ cls := "TokenNets", name := "<init>", desc := "()V" } : Jvm.MethodName) prog_1_method_1_code (1 : Nat) (Option.none : Option Jvm.ClassFile.FieldType))), (87, (Jvm.Cond.methodLink "TokenNets" (3 : Nat) ({ cls := "java/lang/Object", name := "<init>", desc := "()V" } : Jvm.MethodName))), (88, (Jvm.Cond.instanceMethod ({ cls := "java/lang/Object", name := "<init>", desc := "()V" } : Jvm.MethodName))), (89, (Jvm.Cond.code ({ cls := "java/lang/Object", name := "<init>", desc := "()V" } : Jvm.MethodName) object_method_1_code (1 : Nat) (Option.none : Option Jvm.ClassFile.FieldType))), (90, (Jvm.Cond.classLink "TokenNets" (9 : Nat) "TokenNets$Net")), (91, (Jvm.Cond.instantiable "TokenNets$Net" (7 : Nat))), (93, (Jvm.Cond.instanceMethod ({ cls := "TokenNets$Net", name := "<init>", desc := "()V" } : Jvm.MethodName))), (132, (Jvm.Cond.classLink "TokenNets" (16 : Nat) "TokenNets$History")), (133, (Jvm.Cond.instantiable "TokenNets$History" (3 : Nat))), (134, (Jvm.Cond.methodLink "TokenNets" (18 : Nat) ({ cls := "TokenNets$History", name := "<init>", desc := "()V" } : Jvm.MethodName))), (135, (Jvm.Cond.instanceMethod ({ cls := "TokenNets$History", name := "<init>", desc := "()V" } : Jvm.MethodName))), (152, (Jvm.Cond.classLink "TokenNets" (31 : Nat) "TokenNets$Pad")), (153, (Jvm.Cond.instantiable "TokenNets$Pad" (2 : Nat))), (155, (Jvm.Cond.instanceMethod ({ cls := "TokenNets$Pad", name := "<init>", desc := "()V" } : Jvm.MethodName))), (166, (Jvm.Cond.arrayClass Jvm.ClassFile.FieldType.boolean)), (168, (Jvm.Cond.classLink "TokenNets" (38 : Nat) "TokenNets$Sums")), (169, (Jvm.Cond.instantiable "TokenNets$Sums" (8 : Nat))), (171, (Jvm.Cond.instanceMethod ({ cls := "TokenNets$Sums", name := "<init>", desc := "()V" } : Jvm.MethodName))), (202, (Jvm.Cond.classLink "TokenNets" (45 : Nat) "TokenNets$Reach")), (203, (Jvm.Cond.instantiable "TokenNets$Reach" (4 : Nat))), (205, (Jvm.Cond.instanceMethod ({ cls := "TokenNets$Reach", name := "<init>", desc := "()V" } : Jvm.MethodName))), (266, (Jvm.Cond.classLink "TokenNets" (52 : Nat) "TokenNets$Tree")), (267, (Jvm.Cond.instantiable "TokenNets$Tree" (5 : Nat))), (269, (Jvm.Cond.instanceMethod ({ cls := "TokenNets$Tree", name := "<init>", desc := "()V" } : Jvm.MethodName))), (292, (Jvm.Cond.fieldLink "TokenNets" (12 : Nat) "TokenNets" "net" "LTokenNets$Net;")), (293, (Jvm.Cond.fieldLink "TokenNets" (19 : Nat) "TokenNets" "history" "LTokenNets$History;")), (294, (Jvm.Cond.fieldLink "TokenNets" (23 : Nat) "TokenNets" "slots" "[LTokenNets$Net;")), (295, (Jvm.Cond.fieldLink "TokenNets" (27 : Nat) "TokenNets" "saved" "[Z")), (296, (Jvm.Cond.fieldLink "TokenNets" (34 : Nat) "TokenNets" "pad" "LTokenNets$Pad;")), (297, (Jvm.Cond.fieldLink "TokenNets" (41 : Nat) "TokenNets" "sums" "LTokenNets$Sums;")), (298, (Jvm.Cond.fieldLink "TokenNets" (48 : Nat) "TokenNets" "reach" "LTokenNets$Reach;")), (299, (Jvm.Cond.fieldLink "TokenNets" (55 : Nat) "TokenNets" "tree" "LTokenNets$Tree;"))]) (by decide +kernel)
set_option maxRecDepth 100000 in
theorem kX8_arc : y_ok z_mt zX8_arc = true := x_use (wl := [(69, (Jvm.Cond.initialized "TokenNets$Net")), (70, (Jvm.Cond.initialized "TokenNets$History")), (292, (Jvm.Cond.fieldLink "TokenNets" (12 : Nat) "TokenNets" "net" "LTokenNets$Net;")), (293, (Jvm.Cond.fieldLink "TokenNets" (19 : Nat) "TokenNets" "history" "LTokenNets$History;")), (321, (Jvm.Cond.methodLink "TokenNets" (59 : Nat) ({ cls := "TokenNets$History", name := "note", desc := "(LTokenNets$Net;)V" } : Jvm.MethodName))), (322, (Jvm.Cond.instanceMethod ({ cls := "TokenNets$History", name := "note", desc := "(LTokenNets$Net;)V" } : Jvm.MethodName))), (323, (Jvm.Cond.selects "TokenNets$History" ({ cls := "TokenNets$History", name := "note", desc := "(LTokenNets$Net;)V" } : Jvm.MethodName) ({ cls := "TokenNets$History", name := "note", desc := "(LTokenNets$Net;)V" } : Jvm.MethodName))), (336, (Jvm.Cond.methodLink "TokenNets" (67 : Nat) ({ cls := "TokenNets$History", name := "settle", desc := "(I)I" } : Jvm.MethodName))), (337, (Jvm.Cond.instanceMethod ({ cls := "TokenNets$History", name := "settle", desc := "(I)I" } : Jvm.MethodName))), (338, (Jvm.Cond.selects "TokenNets$History" ({ cls := "TokenNets$History", name := "settle", desc := "(I)I" } : Jvm.MethodName) ({ cls := "TokenNets$History", name := "settle", desc := "(I)I" } : Jvm.MethodName))), (354, (Jvm.Cond.code ({ cls := "TokenNets", name := "arc", desc := "(IIII)I" } : Jvm.MethodName) prog_1_method_4_code (5 : Nat) (Option.some Jvm.ClassFile.FieldType.int))), (355, (Jvm.Cond.methodLink "TokenNets" (74 : Nat) ({ cls := "TokenNets$Net", name := "setArc", desc := "(IIII)I" } : Jvm.MethodName))), (356, (Jvm.Cond.instanceMethod ({ cls := "TokenNets$Net", name := "setArc", desc := "(IIII)I" } : Jvm.MethodName))), (357, (Jvm.Cond.selects "TokenNets$Net" ({ cls := "TokenNets$Net", name := "setArc", desc := "(IIII)I" } : Jvm.MethodName) ({ cls := "TokenNets$Net", name := "setArc", desc := "(IIII)I" } : Jvm.MethodName)))]) (by decide +kernel)
set_option maxRecDepth 100000 in
theorem kX8_bound : y_ok z_mt zX8_bound = true := x_use (wl := [(69, (Jvm.Cond.initialized "TokenNets$Net")), (75, (Jvm.Cond.initialized "TokenNets$Tree")), (233, (Jvm.Cond.fieldLink "TokenNets" (181 : Nat) "TokenNets$Marks" "tooMany" "Z")), (275, (Jvm.Cond.fieldLink "TokenNets" (198 : Nat) "TokenNets$Tree" "marks" "LTokenNets$Marks;")), (292, (Jvm.Cond.fieldLink "TokenNets" (12 : Nat) "TokenNets" "net" "LTokenNets$Net;")), (299, (Jvm.Cond.fieldLink "TokenNets" (55 : Nat) "TokenNets" "tree" "LTokenNets$Tree;")), (364, (Jvm.Cond.instanceMethod ({ cls := "TokenNets$Net", name := "hasPlace", desc := "(I)Z" } : Jvm.MethodName))), (365, (Jvm.Cond.selects "TokenNets$Net" ({ cls := "TokenNets$Net", name := "hasPlace", desc := "(I)Z" } : Jvm.MethodName) ({ cls := "TokenNets$Net", name := "hasPlace", desc := "(I)Z" } : Jvm.MethodName))), (433, (Jvm.Cond.methodLink "TokenNets" (88 : Nat) ({ cls := "TokenNets$Net", name := "hasPlace", desc := "(I)Z" } : Jvm.MethodName))), (628, (Jvm.Cond.methodLink "TokenNets" (197 : Nat) ({ cls := "TokenNets$Tree", name := "find", desc := "(LTokenNets$Net;)V" } : Jvm.MethodName))), (629, (Jvm.Cond.instanceMethod ({ cls := "TokenNets$Tree", name := "find", desc := "(LTokenNets$Net;)V" } : Jvm.MethodName))), (630, (Jvm.Cond.selects "TokenNets$Tree" ({ cls := "TokenNets$Tree", name := "find", desc := "(LTokenNets$Net;)V" } : Jvm.MethodName) ({ cls := "TokenNets$Tree", name := "find", desc := "(LTokenNets$Net;)V" } : Jvm.MethodName))), (659, (Jvm.Cond.instanceMethod ({ cls := "TokenNets$Tree", name := "mostTokens", desc := "(I)I" } : Jvm.MethodName))), (660, (Jvm.Cond.selects "TokenNets$Tree" ({ cls := "TokenNets$Tree", name := "mostTokens", desc := "(I)I" } : Jvm.MethodName) ({ cls := "TokenNets$Tree", name := "mostTokens", desc := "(I)I" } : Jvm.MethodName))), (665, (Jvm.Cond.code ({ cls := "TokenNets", name := "bound", desc := "(I)I" } : Jvm.MethodName) prog_1_method_20_code (3 : Nat) (Option.some Jvm.ClassFile.FieldType.int))), (666, (Jvm.Cond.methodLink "TokenNets" (205 : Nat) ({ cls := "TokenNets$Tree", name := "mostTokens", desc := "(I)I" } : Jvm.MethodName))), (667, (Jvm.Cond.constant "TokenNets" (208 : Nat) (1073741824 : Int32)))]) (by decide +kernel)
set_option maxRecDepth 100000 in
theorem kX8_carryOut : y_ok z_mt zX8_carryOut = true := x_use (wl := [(70, (Jvm.Cond.initialized "TokenNets$History")), (71, (Jvm.Cond.initialized "TokenNets$Pad")), (160, (Jvm.Cond.fieldLink "TokenNets" (140 : Nat) "TokenNets$Pad" "length" "I")), (292, (Jvm.Cond.fieldLink "TokenNets" (12 : Nat) "TokenNets" "net" "LTokenNets$Net;")), (293, (Jvm.Cond.fieldLink "TokenNets" (19 : Nat) "TokenNets" "history" "LTokenNets$History;")), (296, (Jvm.Cond.fieldLink "TokenNets" (34 : Nat) "TokenNets" "pad" "LTokenNets$Pad;")), (321, (Jvm.Cond.methodLink "TokenNets" (59 : Nat) ({ cls := "TokenNets$History", name := "note", desc := "(LTokenNets$Net;)V" } : Jvm.MethodName))), (322, (Jvm.Cond.instanceMethod ({ cls := "TokenNets$History", name := "note", desc := "(LTokenNets$Net;)V" } : Jvm.MethodName))), (323, (Jvm.Cond.selects "TokenNets$History" ({ cls := "TokenNets$History", name := "note", desc := "(LTokenNets$Net;)V" } : Jvm.MethodName) ({ cls := "TokenNets$History", name := "note", desc := "(LTokenNets$Net;)V" } : Jvm.MethodName))), (336, (Jvm.Cond.methodLink "TokenNets" (67 : Nat) ({ cls := "TokenNets$History", name := "settle", desc := "(I)I" } : Jvm.MethodName))), (337, (Jvm.Cond.instanceMethod ({ cls := "TokenNets$History", name := "settle", desc := "(I)I" } : Jvm.MethodName))), (338, (Jvm.Cond.selects "TokenNets$History" ({ cls := "TokenNets$History", name := "settle", desc := "(I)I" } : Jvm.MethodName) ({ cls := "TokenNets$History", name := "settle", desc := "(I)I" } : Jvm.MethodName))), (687, (Jvm.Cond.methodLink "TokenNets" (213 : Nat) ({ cls := "TokenNets$Pad", name := "firstFault", desc := "()I" } : Jvm.MethodName))), (688, (Jvm.Cond.instanceMethod ({ cls := "TokenNets$Pad", name := "firstFault", desc := "()I" } : Jvm.MethodName))), (689, (Jvm.Cond.selects "TokenNets$Pad" ({ cls := "TokenNets$Pad", name := "firstFault", desc := "()I" } : Jvm.MethodName) ({ cls := "TokenNets$Pad", name := "firstFault", desc := "()I" } : Jvm.MethodName))), (717, (Jvm.Cond.code ({ cls := "TokenNets", name := "carryOut", desc := "()I" } : Jvm.MethodName) prog_1_method_24_code (4 : Nat) (Option.some Jvm.ClassFile.FieldType.int)))]) (by decide +kernel)
set_option maxRecDepth 100000 in
theorem kX8_count : y_ok z_mt zX8_count = true := x_use (wl := [(69, (Jvm.Cond.initialized "TokenNets$Net")), (98, (Jvm.Cond.fieldLink "TokenNets" (124 : Nat) "TokenNets$Net" "places" "I")), (102, (Jvm.Cond.fieldLink "TokenNets" (128 : Nat) "TokenNets$Net" "moves" "I")), (144, (Jvm.Cond.fieldLink "TokenNets" (143 : Nat) "TokenNets$History" "many" "I")), (160, (Jvm.Cond.fieldLink "TokenNets" (140 : Nat) "TokenNets$Pad" "length" "I")), (292, (Jvm.Cond.fieldLink "TokenNets" (12 : Nat) "TokenNets" "net" "LTokenNets$Net;")), (293, (Jvm.Cond.fieldLink "TokenNets" (19 : Nat) "TokenNets" "history" "LTokenNets$History;")), (296, (Jvm.Cond.fieldLink "TokenNets" (34 : Nat) "TokenNets" "pad" "LTokenNets$Pad;")), (405, (Jvm.Cond.instanceMethod ({ cls := "TokenNets$Net", name := "possibleMoves", desc := "()I" } : Jvm.MethodName))), (406, (Jvm.Cond.selects "TokenNets$Net" ({ cls := "TokenNets$Net", name := "possibleMoves", desc := "()I" } : Jvm.MethodName) ({ cls := "TokenNets$Net", name := "possibleMoves", desc := "()I" } : Jvm.MethodName))), (459, (Jvm.Cond.code ({ cls := "TokenNets", name := "count", desc := "(I)I" } : Jvm.MethodName) prog_1_method_11_code (2 : Nat) (Option.some Jvm.ClassFile.FieldType.int))), (460, (Jvm.Cond.methodLink "TokenNets" (131 : Nat) ({ cls := "TokenNets$Net", name := "allTokens", desc := "()I" } : Jvm.MethodName))), (461, (Jvm.Cond.instanceMethod ({ cls := "TokenNets$Net", name := "allTokens", desc := "()I" } : Jvm.MethodName))), (462, (Jvm.Cond.selects "TokenNets$Net" ({ cls := "TokenNets$Net", name := "allTokens", desc := "()I" } : Jvm.MethodName) ({ cls := "TokenNets$Net", name := "allTokens", desc := "()I" } : Jvm.MethodName))), (468, (Jvm.Cond.methodLink "TokenNets" (134 : Nat) ({ cls := "TokenNets$Net", name := "possibleMoves", desc := "()I" } : Jvm.MethodName))), (469, (Jvm.Cond.methodLink "TokenNets" (137 : Nat) ({ cls := "TokenNets$Net", name := "allMade", desc := "()I" } : Jvm.MethodName))), (470, (Jvm.Cond.instanceMethod ({ cls := "TokenNets$Net", name := "allMade", desc := "()I" } : Jvm.MethodName))), (471, (Jvm.Cond.selects "TokenNets$Net" ({ cls := "TokenNets$Net", name := "allMade", desc := "()I" } : Jvm.MethodName) ({ cls := "TokenNets$Net", name := "allMade", desc := "()I" } : Jvm.MethodName)))]) (by decide +kernel)
set_option maxRecDepth 100000 in
theorem kX8_fault : y_ok z_mt zX8_fault = true := x_use (wl := [(71, (Jvm.Cond.initialized "TokenNets$Pad")), (296, (Jvm.Cond.fieldLink "TokenNets" (34 : Nat) "TokenNets" "pad" "LTokenNets$Pad;")), (686, (Jvm.Cond.code ({ cls := "TokenNets", name := "fault", desc := "()I" } : Jvm.MethodName) prog_1_method_23_code (1 : Nat) (Option.some Jvm.ClassFile.FieldType.int))), (687, (Jvm.Cond.methodLink "TokenNets" (213 : Nat) ({ cls := "TokenNets$Pad", name := "firstFault", desc := "()I" } : Jvm.MethodName))), (688, (Jvm.Cond.instanceMethod ({ cls := "TokenNets$Pad", name := "firstFault", desc := "()I" } : Jvm.MethodName))), (689, (Jvm.Cond.selects "TokenNets$Pad" ({ cls := "TokenNets$Pad", name := "firstFault", desc := "()I" } : Jvm.MethodName) ({ cls := "TokenNets$Pad", name := "firstFault", desc := "()I" } : Jvm.MethodName)))]) (by decide +kernel)
set_option maxRecDepth 100000 in
theorem kX8_fewest : y_ok z_mt zX8_fewest = true := x_use (wl := [(69, (Jvm.Cond.initialized "TokenNets$Net")), (73, (Jvm.Cond.initialized "TokenNets$Reach")), (233, (Jvm.Cond.fieldLink "TokenNets" (181 : Nat) "TokenNets$Marks" "tooMany" "Z")), (252, (Jvm.Cond.fieldLink "TokenNets" (177 : Nat) "TokenNets$Reach" "marks" "LTokenNets$Marks;")), (292, (Jvm.Cond.fieldLink "TokenNets" (12 : Nat) "TokenNets" "net" "LTokenNets$Net;")), (298, (Jvm.Cond.fieldLink "TokenNets" (48 : Nat) "TokenNets" "reach" "LTokenNets$Reach;")), (364, (Jvm.Cond.instanceMethod ({ cls := "TokenNets$Net", name := "hasPlace", desc := "(I)Z" } : Jvm.MethodName))), (365, (Jvm.Cond.selects "TokenNets$Net" ({ cls := "TokenNets$Net", name := "hasPlace", desc := "(I)Z" } : Jvm.MethodName) ({ cls := "TokenNets$Net", name := "hasPlace", desc := "(I)Z" } : Jvm.MethodName))), (433, (Jvm.Cond.methodLink "TokenNets" (88 : Nat) ({ cls := "TokenNets$Net", name := "hasPlace", desc := "(I)Z" } : Jvm.MethodName))), (567, (Jvm.Cond.methodLink "TokenNets" (176 : Nat) ({ cls := "TokenNets$Reach", name := "find", desc := "(LTokenNets$Net;)V" } : Jvm.MethodName))), (568, (Jvm.Cond.instanceMethod ({ cls := "TokenNets$Reach", name := "find", desc := "(LTokenNets$Net;)V" } : Jvm.MethodName))), (569, (Jvm.Cond.selects "TokenNets$Reach" ({ cls := "TokenNets$Reach", name := "find", desc := "(LTokenNets$Net;)V" } : Jvm.MethodName) ({ cls := "TokenNets$Reach", name := "find", desc := "(LTokenNets$Net;)V" } : Jvm.MethodName))), (619, (Jvm.Cond.code ({ cls := "TokenNets", name := "fewest", desc := "(II)I" } : Jvm.MethodName) prog_1_method_18_code (3 : Nat) (Option.some Jvm.ClassFile.FieldType.int)))]) (by decide +kernel)
set_option maxRecDepth 100000 in
theorem kX8_growth : y_ok z_mt zX8_growth = true := x_use (wl := [(75, (Jvm.Cond.initialized "TokenNets$Tree")), (229, (Jvm.Cond.fieldLink "TokenNets" (187 : Nat) "TokenNets$Marks" "many" "I")), (233, (Jvm.Cond.fieldLink "TokenNets" (181 : Nat) "TokenNets$Marks" "tooMany" "Z")), (235, (Jvm.Cond.fieldLink "TokenNets" (191 : Nat) "TokenNets$Marks" "possible" "I")), (275, (Jvm.Cond.fieldLink "TokenNets" (198 : Nat) "TokenNets$Tree" "marks" "LTokenNets$Marks;")), (280, (Jvm.Cond.fieldLink "TokenNets" (202 : Nat) "TokenNets$Tree" "deepest" "I")), (292, (Jvm.Cond.fieldLink "TokenNets" (12 : Nat) "TokenNets" "net" "LTokenNets$Net;")), (299, (Jvm.Cond.fieldLink "TokenNets" (55 : Nat) "TokenNets" "tree" "LTokenNets$Tree;")), (627, (Jvm.Cond.code ({ cls := "TokenNets", name := "growth", desc := "(I)I" } : Jvm.MethodName) prog_1_method_19_code (2 : Nat) (Option.some Jvm.ClassFile.FieldType.int))), (628, (Jvm.Cond.methodLink "TokenNets" (197 : Nat) ({ cls := "TokenNets$Tree", name := "find", desc := "(LTokenNets$Net;)V" } : Jvm.MethodName))), (629, (Jvm.Cond.instanceMethod ({ cls := "TokenNets$Tree", name := "find", desc := "(LTokenNets$Net;)V" } : Jvm.MethodName))), (630, (Jvm.Cond.selects "TokenNets$Tree" ({ cls := "TokenNets$Tree", name := "find", desc := "(LTokenNets$Net;)V" } : Jvm.MethodName) ({ cls := "TokenNets$Tree", name := "find", desc := "(LTokenNets$Net;)V" } : Jvm.MethodName))), (654, (Jvm.Cond.methodLink "TokenNets" (199 : Nat) ({ cls := "TokenNets$Tree", name := "endlessPlaces", desc := "()I" } : Jvm.MethodName))), (655, (Jvm.Cond.instanceMethod ({ cls := "TokenNets$Tree", name := "endlessPlaces", desc := "()I" } : Jvm.MethodName))), (656, (Jvm.Cond.selects "TokenNets$Tree" ({ cls := "TokenNets$Tree", name := "endlessPlaces", desc := "()I" } : Jvm.MethodName) ({ cls := "TokenNets$Tree", name := "endlessPlaces", desc := "()I" } : Jvm.MethodName)))]) (by decide +kernel)
set_option maxRecDepth 100000 in
theorem kX8_kept : y_ok z_mt zX8_kept = true := x_use (wl := [(69, (Jvm.Cond.initialized "TokenNets$Net")), (72, (Jvm.Cond.initialized "TokenNets$Sums")), (105, (Jvm.Cond.fieldLink "TokenNets" (92 : Nat) "TokenNets$Net" "tokens" "[I")), (184, (Jvm.Cond.fieldLink "TokenNets" (161 : Nat) "TokenNets$Sums" "many" "I")), (292, (Jvm.Cond.fieldLink "TokenNets" (12 : Nat) "TokenNets" "net" "LTokenNets$Net;")), (297, (Jvm.Cond.fieldLink "TokenNets" (41 : Nat) "TokenNets" "sums" "LTokenNets$Sums;")), (364, (Jvm.Cond.instanceMethod ({ cls := "TokenNets$Net", name := "hasPlace", desc := "(I)Z" } : Jvm.MethodName))), (365, (Jvm.Cond.selects "TokenNets$Net" ({ cls := "TokenNets$Net", name := "hasPlace", desc := "(I)Z" } : Jvm.MethodName) ({ cls := "TokenNets$Net", name := "hasPlace", desc := "(I)Z" } : Jvm.MethodName))), (433, (Jvm.Cond.methodLink "TokenNets" (88 : Nat) ({ cls := "TokenNets$Net", name := "hasPlace", desc := "(I)Z" } : Jvm.MethodName))), (495, (Jvm.Cond.code ({ cls := "TokenNets", name := "kept", desc := "(II)I" } : Jvm.MethodName) prog_1_method_14_code (3 : Nat) (Option.some Jvm.ClassFile.FieldType.int))), (496, (Jvm.Cond.methodLink "TokenNets" (158 : Nat) ({ cls := "TokenNets$Sums", name := "find", desc := "(LTokenNets$Net;)V" } : Jvm.MethodName))), (497, (Jvm.Cond.instanceMethod ({ cls := "TokenNets$Sums", name := "find", desc := "(LTokenNets$Net;)V" } : Jvm.MethodName))), (498, (Jvm.Cond.selects "TokenNets$Sums" ({ cls := "TokenNets$Sums", name := "find", desc := "(LTokenNets$Net;)V" } : Jvm.MethodName) ({ cls := "TokenNets$Sums", name := "find", desc := "(LTokenNets$Net;)V" } : Jvm.MethodName)))]) (by decide +kernel)
set_option maxRecDepth 100000 in
theorem kX8_keptMany : y_ok z_mt zX8_keptMany = true := x_use (wl := [(72, (Jvm.Cond.initialized "TokenNets$Sums")), (184, (Jvm.Cond.fieldLink "TokenNets" (161 : Nat) "TokenNets$Sums" "many" "I")), (292, (Jvm.Cond.fieldLink "TokenNets" (12 : Nat) "TokenNets" "net" "LTokenNets$Net;")), (297, (Jvm.Cond.fieldLink "TokenNets" (41 : Nat) "TokenNets" "sums" "LTokenNets$Sums;")), (496, (Jvm.Cond.methodLink "TokenNets" (158 : Nat) ({ cls := "TokenNets$Sums", name := "find", desc := "(LTokenNets$Net;)V" } : Jvm.MethodName))), (497, (Jvm.Cond.instanceMethod ({ cls := "TokenNets$Sums", name := "find", desc := "(LTokenNets$Net;)V" } : Jvm.MethodName))), (498, (Jvm.Cond.selects "TokenNets$Sums" ({ cls := "TokenNets$Sums", name := "find", desc := "(LTokenNets$Net;)V" } : Jvm.MethodName) ({ cls := "TokenNets$Sums", name := "find", desc := "(LTokenNets$Net;)V" } : Jvm.MethodName))), (552, (Jvm.Cond.code ({ cls := "TokenNets", name := "keptMany", desc := "()I" } : Jvm.MethodName) prog_1_method_15_code (1 : Nat) (Option.some Jvm.ClassFile.FieldType.int)))]) (by decide +kernel)
set_option maxRecDepth 100000 in
theorem kX8_make : y_ok z_mt zX8_make = true := x_use (wl := [(69, (Jvm.Cond.initialized "TokenNets$Net")), (70, (Jvm.Cond.initialized "TokenNets$History")), (292, (Jvm.Cond.fieldLink "TokenNets" (12 : Nat) "TokenNets" "net" "LTokenNets$Net;")), (293, (Jvm.Cond.fieldLink "TokenNets" (19 : Nat) "TokenNets" "history" "LTokenNets$History;")), (321, (Jvm.Cond.methodLink "TokenNets" (59 : Nat) ({ cls := "TokenNets$History", name := "note", desc := "(LTokenNets$Net;)V" } : Jvm.MethodName))), (322, (Jvm.Cond.instanceMethod ({ cls := "TokenNets$History", name := "note", desc := "(LTokenNets$Net;)V" } : Jvm.MethodName))), (323, (Jvm.Cond.selects "TokenNets$History" ({ cls := "TokenNets$History", name := "note", desc := "(LTokenNets$Net;)V" } : Jvm.MethodName) ({ cls := "TokenNets$History", name := "note", desc := "(LTokenNets$Net;)V" } : Jvm.MethodName))), (336, (Jvm.Cond.methodLink "TokenNets" (67 : Nat) ({ cls := "TokenNets$History", name := "settle", desc := "(I)I" } : Jvm.MethodName))), (337, (Jvm.Cond.instanceMethod ({ cls := "TokenNets$History", name := "settle", desc := "(I)I" } : Jvm.MethodName))), (338, (Jvm.Cond.selects "TokenNets$History" ({ cls := "TokenNets$History", name := "settle", desc := "(I)I" } : Jvm.MethodName) ({ cls := "TokenNets$History", name := "settle", desc := "(I)I" } : Jvm.MethodName))), (378, (Jvm.Cond.code ({ cls := "TokenNets", name := "make", desc := "(I)I" } : Jvm.MethodName) prog_1_method_6_code (2 : Nat) (Option.some Jvm.ClassFile.FieldType.int))), (379, (Jvm.Cond.methodLink "TokenNets" (82 : Nat) ({ cls := "TokenNets$Net", name := "makeOne", desc := "(I)I" } : Jvm.MethodName))), (380, (Jvm.Cond.instanceMethod ({ cls := "TokenNets$Net", name := "makeOne", desc := "(I)I" } : Jvm.MethodName))), (381, (Jvm.Cond.selects "TokenNets$Net" ({ cls := "TokenNets$Net", name := "makeOne", desc := "(I)I" } : Jvm.MethodName) ({ cls := "TokenNets$Net", name := "makeOne", desc := "(I)I" } : Jvm.MethodName)))]) (by decide +kernel)
set_option maxRecDepth 100000 in
theorem kX8_mean : y_ok z_mt zX8_mean = true := x_use (wl := [(69, (Jvm.Cond.initialized "TokenNets$Net")), (98, (Jvm.Cond.fieldLink "TokenNets" (124 : Nat) "TokenNets$Net" "places" "I")), (292, (Jvm.Cond.fieldLink "TokenNets" (12 : Nat) "TokenNets" "net" "LTokenNets$Net;")), (460, (Jvm.Cond.methodLink "TokenNets" (131 : Nat) ({ cls := "TokenNets$Net", name := "allTokens", desc := "()I" } : Jvm.MethodName))), (461, (Jvm.Cond.instanceMethod ({ cls := "TokenNets$Net", name := "allTokens", desc := "()I" } : Jvm.MethodName))), (462, (Jvm.Cond.selects "TokenNets$Net" ({ cls := "TokenNets$Net", name := "allTokens", desc := "()I" } : Jvm.MethodName) ({ cls := "TokenNets$Net", name := "allTokens", desc := "()I" } : Jvm.MethodName))), (484, (Jvm.Cond.code ({ cls := "TokenNets", name := "mean", desc := "(I)J" } : Jvm.MethodName) prog_1_method_13_code (4 : Nat) (Option.some Jvm.ClassFile.FieldType.long))), (485, (Jvm.Cond.constantLong "TokenNets" (152 : Nat) (-2 : Int64)))]) (by decide +kernel)
set_option maxRecDepth 100000 in
theorem kX8_move : y_ok z_mt zX8_move = true := x_use (wl := [(69, (Jvm.Cond.initialized "TokenNets$Net")), (70, (Jvm.Cond.initialized "TokenNets$History")), (292, (Jvm.Cond.fieldLink "TokenNets" (12 : Nat) "TokenNets" "net" "LTokenNets$Net;")), (293, (Jvm.Cond.fieldLink "TokenNets" (19 : Nat) "TokenNets" "history" "LTokenNets$History;")), (321, (Jvm.Cond.methodLink "TokenNets" (59 : Nat) ({ cls := "TokenNets$History", name := "note", desc := "(LTokenNets$Net;)V" } : Jvm.MethodName))), (322, (Jvm.Cond.instanceMethod ({ cls := "TokenNets$History", name := "note", desc := "(LTokenNets$Net;)V" } : Jvm.MethodName))), (323, (Jvm.Cond.selects "TokenNets$History" ({ cls := "TokenNets$History", name := "note", desc := "(LTokenNets$Net;)V" } : Jvm.MethodName) ({ cls := "TokenNets$History", name := "note", desc := "(LTokenNets$Net;)V" } : Jvm.MethodName))), (336, (Jvm.Cond.methodLink "TokenNets" (67 : Nat) ({ cls := "TokenNets$History", name := "settle", desc := "(I)I" } : Jvm.MethodName))), (337, (Jvm.Cond.instanceMethod ({ cls := "TokenNets$History", name := "settle", desc := "(I)I" } : Jvm.MethodName))), (338, (Jvm.Cond.selects "TokenNets$History" ({ cls := "TokenNets$History", name := "settle", desc := "(I)I" } : Jvm.MethodName) ({ cls := "TokenNets$History", name := "settle", desc := "(I)I" } : Jvm.MethodName))), (346, (Jvm.Cond.code ({ cls := "TokenNets", name := "move", desc := "()I" } : Jvm.MethodName) prog_1_method_3_code (1 : Nat) (Option.some Jvm.ClassFile.FieldType.int))), (347, (Jvm.Cond.methodLink "TokenNets" (70 : Nat) ({ cls := "TokenNets$Net", name := "addMove", desc := "()I" } : Jvm.MethodName))), (348, (Jvm.Cond.instanceMethod ({ cls := "TokenNets$Net", name := "addMove", desc := "()I" } : Jvm.MethodName))), (349, (Jvm.Cond.selects "TokenNets$Net" ({ cls := "TokenNets$Net", name := "addMove", desc := "()I" } : Jvm.MethodName) ({ cls := "TokenNets$Net", name := "addMove", desc := "()I" } : Jvm.MethodName)))]) (by decide +kernel)
set_option maxRecDepth 100000 in
theorem kX8_ofArc : y_ok z_mt zX8_ofArc = true := x_use (wl := [(69, (Jvm.Cond.initialized "TokenNets$Net")), (112, (Jvm.Cond.fieldLink "TokenNets" (96 : Nat) "TokenNets$Net" "takes" "[I")), (115, (Jvm.Cond.fieldLink "TokenNets" (103 : Nat) "TokenNets$Net" "gives" "[I")), (292, (Jvm.Cond.fieldLink "TokenNets" (12 : Nat) "TokenNets" "net" "LTokenNets$Net;")), (360, (Jvm.Cond.instanceMethod ({ cls := "TokenNets$Net", name := "hasMove", desc := "(I)Z" } : Jvm.MethodName))), (361, (Jvm.Cond.selects "TokenNets$Net" ({ cls := "TokenNets$Net", name := "hasMove", desc := "(I)Z" } : Jvm.MethodName) ({ cls := "TokenNets$Net", name := "hasMove", desc := "(I)Z" } : Jvm.MethodName))), (364, (Jvm.Cond.instanceMethod ({ cls := "TokenNets$Net", name := "hasPlace", desc := "(I)Z" } : Jvm.MethodName))), (365, (Jvm.Cond.selects "TokenNets$Net" ({ cls := "TokenNets$Net", name := "hasPlace", desc := "(I)Z" } : Jvm.MethodName) ({ cls := "TokenNets$Net", name := "hasPlace", desc := "(I)Z" } : Jvm.MethodName))), (433, (Jvm.Cond.methodLink "TokenNets" (88 : Nat) ({ cls := "TokenNets$Net", name := "hasPlace", desc := "(I)Z" } : Jvm.MethodName))), (442, (Jvm.Cond.methodLink "TokenNets" (109 : Nat) ({ cls := "TokenNets$Net", name := "hasMove", desc := "(I)Z" } : Jvm.MethodName))), (455, (Jvm.Cond.code ({ cls := "TokenNets", name := "ofArc", desc := "(III)I" } : Jvm.MethodName) prog_1_method_10_code (4 : Nat) (Option.some Jvm.ClassFile.FieldType.int)))]) (by decide +kernel)
set_option maxRecDepth 100000 in
theorem kX8_ofMove : y_ok z_mt zX8_ofMove = true := x_use (wl := [(69, (Jvm.Cond.initialized "TokenNets$Net")), (109, (Jvm.Cond.fieldLink "TokenNets" (115 : Nat) "TokenNets$Net" "made" "[I")), (112, (Jvm.Cond.fieldLink "TokenNets" (96 : Nat) "TokenNets$Net" "takes" "[I")), (115, (Jvm.Cond.fieldLink "TokenNets" (103 : Nat) "TokenNets$Net" "gives" "[I")), (292, (Jvm.Cond.fieldLink "TokenNets" (12 : Nat) "TokenNets" "net" "LTokenNets$Net;")), (360, (Jvm.Cond.instanceMethod ({ cls := "TokenNets$Net", name := "hasMove", desc := "(I)Z" } : Jvm.MethodName))), (361, (Jvm.Cond.selects "TokenNets$Net" ({ cls := "TokenNets$Net", name := "hasMove", desc := "(I)Z" } : Jvm.MethodName) ({ cls := "TokenNets$Net", name := "hasMove", desc := "(I)Z" } : Jvm.MethodName))), (441, (Jvm.Cond.code ({ cls := "TokenNets", name := "ofMove", desc := "(II)I" } : Jvm.MethodName) prog_1_method_9_code (3 : Nat) (Option.some Jvm.ClassFile.FieldType.int))), (442, (Jvm.Cond.methodLink "TokenNets" (109 : Nat) ({ cls := "TokenNets$Net", name := "hasMove", desc := "(I)Z" } : Jvm.MethodName)))]) (by decide +kernel)
set_option maxRecDepth 100000 in
theorem kX8_ofPlace : y_ok z_mt zX8_ofPlace = true := x_use (wl := [(69, (Jvm.Cond.initialized "TokenNets$Net")), (105, (Jvm.Cond.fieldLink "TokenNets" (92 : Nat) "TokenNets$Net" "tokens" "[I")), (107, (Jvm.Cond.fieldLink "TokenNets" (106 : Nat) "TokenNets$Net" "most" "[I")), (112, (Jvm.Cond.fieldLink "TokenNets" (96 : Nat) "TokenNets$Net" "takes" "[I")), (115, (Jvm.Cond.fieldLink "TokenNets" (103 : Nat) "TokenNets$Net" "gives" "[I")), (292, (Jvm.Cond.fieldLink "TokenNets" (12 : Nat) "TokenNets" "net" "LTokenNets$Net;")), (364, (Jvm.Cond.instanceMethod ({ cls := "TokenNets$Net", name := "hasPlace", desc := "(I)Z" } : Jvm.MethodName))), (365, (Jvm.Cond.selects "TokenNets$Net" ({ cls := "TokenNets$Net", name := "hasPlace", desc := "(I)Z" } : Jvm.MethodName) ({ cls := "TokenNets$Net", name := "hasPlace", desc := "(I)Z" } : Jvm.MethodName))), (432, (Jvm.Cond.code ({ cls := "TokenNets", name := "ofPlace", desc := "(II)I" } : Jvm.MethodName) prog_1_method_8_code (3 : Nat) (Option.some Jvm.ClassFile.FieldType.int))), (433, (Jvm.Cond.methodLink "TokenNets" (88 : Nat) ({ cls := "TokenNets$Net", name := "hasPlace", desc := "(I)Z" } : Jvm.MethodName)))]) (by decide +kernel)
set_option maxRecDepth 100000 in
theorem kX8_place : y_ok z_mt zX8_place = true := x_use (wl := [(69, (Jvm.Cond.initialized "TokenNets$Net")), (70, (Jvm.Cond.initialized "TokenNets$History")), (292, (Jvm.Cond.fieldLink "TokenNets" (12 : Nat) "TokenNets" "net" "LTokenNets$Net;")), (293, (Jvm.Cond.fieldLink "TokenNets" (19 : Nat) "TokenNets" "history" "LTokenNets$History;")), (320, (Jvm.Cond.code ({ cls := "TokenNets", name := "place", desc := "(I)I" } : Jvm.MethodName) prog_1_method_2_code (2 : Nat) (Option.some Jvm.ClassFile.FieldType.int))), (321, (Jvm.Cond.methodLink "TokenNets" (59 : Nat) ({ cls := "TokenNets$History", name := "note", desc := "(LTokenNets$Net;)V" } : Jvm.MethodName))), (322, (Jvm.Cond.instanceMethod ({ cls := "TokenNets$History", name := "note", desc := "(LTokenNets$Net;)V" } : Jvm.MethodName))), (323, (Jvm.Cond.selects "TokenNets$History" ({ cls := "TokenNets$History", name := "note", desc := "(LTokenNets$Net;)V" } : Jvm.MethodName) ({ cls := "TokenNets$History", name := "note", desc := "(LTokenNets$Net;)V" } : Jvm.MethodName))), (332, (Jvm.Cond.methodLink "TokenNets" (63 : Nat) ({ cls := "TokenNets$Net", name := "addPlace", desc := "(I)I" } : Jvm.MethodName))), (333, (Jvm.Cond.instanceMethod ({ cls := "TokenNets$Net", name := "addPlace", desc := "(I)I" } : Jvm.MethodName))), (334, (Jvm.Cond.selects "TokenNets$Net" ({ cls := "TokenNets$Net", name := "addPlace", desc := "(I)I" } : Jvm.MethodName) ({ cls := "TokenNets$Net", name := "addPlace", desc := "(I)I" } : Jvm.MethodName))), (336, (Jvm.Cond.methodLink "TokenNets" (67 : Nat) ({ cls := "TokenNets$History", name := "settle", desc := "(I)I" } : Jvm.MethodName))), (337, (Jvm.Cond.instanceMethod ({ cls := "TokenNets$History", name := "settle", desc := "(I)I" } : Jvm.MethodName))), (338, (Jvm.Cond.selects "TokenNets$History" ({ cls := "TokenNets$History", name := "settle", desc := "(I)I" } : Jvm.MethodName) ({ cls := "TokenNets$History", name := "settle", desc := "(I)I" } : Jvm.MethodName)))]) (by decide +kernel)
set_option maxRecDepth 100000 in
theorem kX8_put : y_ok z_mt zX8_put = true := x_use (wl := [(71, (Jvm.Cond.initialized "TokenNets$Pad")), (296, (Jvm.Cond.fieldLink "TokenNets" (34 : Nat) "TokenNets" "pad" "LTokenNets$Pad;")), (671, (Jvm.Cond.code ({ cls := "TokenNets", name := "put", desc := "(J)I" } : Jvm.MethodName) prog_1_method_21_code (3 : Nat) (Option.some Jvm.ClassFile.FieldType.int))), (672, (Jvm.Cond.methodLink "TokenNets" (209 : Nat) ({ cls := "TokenNets$Pad", name := "append", desc := "(J)I" } : Jvm.MethodName))), (673, (Jvm.Cond.instanceMethod ({ cls := "TokenNets$Pad", name := "append", desc := "(J)I" } : Jvm.MethodName))), (674, (Jvm.Cond.selects "TokenNets$Pad" ({ cls := "TokenNets$Pad", name := "append", desc := "(J)I" } : Jvm.MethodName) ({ cls := "TokenNets$Pad", name := "append", desc := "(J)I" } : Jvm.MethodName)))]) (by decide +kernel)
set_option maxRecDepth 100000 in
theorem kX8_reached : y_ok z_mt zX8_reached = true := x_use (wl := [(73, (Jvm.Cond.initialized "TokenNets$Reach")), (229, (Jvm.Cond.fieldLink "TokenNets" (187 : Nat) "TokenNets$Marks" "many" "I")), (233, (Jvm.Cond.fieldLink "TokenNets" (181 : Nat) "TokenNets$Marks" "tooMany" "Z")), (235, (Jvm.Cond.fieldLink "TokenNets" (191 : Nat) "TokenNets$Marks" "possible" "I")), (252, (Jvm.Cond.fieldLink "TokenNets" (177 : Nat) "TokenNets$Reach" "marks" "LTokenNets$Marks;")), (256, (Jvm.Cond.fieldLink "TokenNets" (188 : Nat) "TokenNets$Reach" "dead" "I")), (292, (Jvm.Cond.fieldLink "TokenNets" (12 : Nat) "TokenNets" "net" "LTokenNets$Net;")), (298, (Jvm.Cond.fieldLink "TokenNets" (48 : Nat) "TokenNets" "reach" "LTokenNets$Reach;")), (566, (Jvm.Cond.code ({ cls := "TokenNets", name := "reached", desc := "(I)I" } : Jvm.MethodName) prog_1_method_17_code (2 : Nat) (Option.some Jvm.ClassFile.FieldType.int))), (567, (Jvm.Cond.methodLink "TokenNets" (176 : Nat) ({ cls := "TokenNets$Reach", name := "find", desc := "(LTokenNets$Net;)V" } : Jvm.MethodName))), (568, (Jvm.Cond.instanceMethod ({ cls := "TokenNets$Reach", name := "find", desc := "(LTokenNets$Net;)V" } : Jvm.MethodName))), (569, (Jvm.Cond.selects "TokenNets$Reach" ({ cls := "TokenNets$Reach", name := "find", desc := "(LTokenNets$Net;)V" } : Jvm.MethodName) ({ cls := "TokenNets$Reach", name := "find", desc := "(LTokenNets$Net;)V" } : Jvm.MethodName)))]) (by decide +kernel)
set_option maxRecDepth 100000 in
theorem kX8_restore : y_ok z_mt zX8_restore = true := x_use (wl := [(69, (Jvm.Cond.initialized "TokenNets$Net")), (70, (Jvm.Cond.initialized "TokenNets$History")), (292, (Jvm.Cond.fieldLink "TokenNets" (12 : Nat) "TokenNets" "net" "LTokenNets$Net;")), (293, (Jvm.Cond.fieldLink "TokenNets" (19 : Nat) "TokenNets" "history" "LTokenNets$History;")), (294, (Jvm.Cond.fieldLink "TokenNets" (23 : Nat) "TokenNets" "slots" "[LTokenNets$Net;")), (295, (Jvm.Cond.fieldLink "TokenNets" (27 : Nat) "TokenNets" "saved" "[Z")), (321, (Jvm.Cond.methodLink "TokenNets" (59 : Nat) ({ cls := "TokenNets$History", name := "note", desc := "(LTokenNets$Net;)V" } : Jvm.MethodName))), (322, (Jvm.Cond.instanceMethod ({ cls := "TokenNets$History", name := "note", desc := "(LTokenNets$Net;)V" } : Jvm.MethodName))), (323, (Jvm.Cond.selects "TokenNets$History" ({ cls := "TokenNets$History", name := "note", desc := "(LTokenNets$Net;)V" } : Jvm.MethodName) ({ cls := "TokenNets$History", name := "note", desc := "(LTokenNets$Net;)V" } : Jvm.MethodName))), (326, (Jvm.Cond.instanceMethod ({ cls := "TokenNets$Net", name := "copy", desc := "(LTokenNets$Net;)V" } : Jvm.MethodName))), (327, (Jvm.Cond.selects "TokenNets$Net" ({ cls := "TokenNets$Net", name := "copy", desc := "(LTokenNets$Net;)V" } : Jvm.MethodName) ({ cls := "TokenNets$Net", name := "copy", desc := "(LTokenNets$Net;)V" } : Jvm.MethodName))), (336, (Jvm.Cond.methodLink "TokenNets" (67 : Nat) ({ cls := "TokenNets$History", name := "settle", desc := "(I)I" } : Jvm.MethodName))), (337, (Jvm.Cond.instanceMethod ({ cls := "TokenNets$History", name := "settle", desc := "(I)I" } : Jvm.MethodName))), (338, (Jvm.Cond.selects "TokenNets$History" ({ cls := "TokenNets$History", name := "settle", desc := "(I)I" } : Jvm.MethodName) ({ cls := "TokenNets$History", name := "settle", desc := "(I)I" } : Jvm.MethodName))), (460, (Jvm.Cond.methodLink "TokenNets" (131 : Nat) ({ cls := "TokenNets$Net", name := "allTokens", desc := "()I" } : Jvm.MethodName))), (461, (Jvm.Cond.instanceMethod ({ cls := "TokenNets$Net", name := "allTokens", desc := "()I" } : Jvm.MethodName))), (462, (Jvm.Cond.selects "TokenNets$Net" ({ cls := "TokenNets$Net", name := "allTokens", desc := "()I" } : Jvm.MethodName) ({ cls := "TokenNets$Net", name := "allTokens", desc := "()I" } : Jvm.MethodName))), (760, (Jvm.Cond.methodLink "TokenNets" (245 : Nat) ({ cls := "TokenNets$Net", name := "copy", desc := "(LTokenNets$Net;)V" } : Jvm.MethodName))), (764, (Jvm.Cond.code ({ cls := "TokenNets", name := "restore", desc := "(I)I" } : Jvm.MethodName) prog_1_method_29_code (2 : Nat) (Option.some Jvm.ClassFile.FieldType.int)))]) (by decide +kernel)
set_option maxRecDepth 100000 in
theorem kX8_run : y_ok z_mt zX8_run = true := x_use (wl := [(69, (Jvm.Cond.initialized "TokenNets$Net")), (70, (Jvm.Cond.initialized "TokenNets$History")), (292, (Jvm.Cond.fieldLink "TokenNets" (12 : Nat) "TokenNets" "net" "LTokenNets$Net;")), (293, (Jvm.Cond.fieldLink "TokenNets" (19 : Nat) "TokenNets" "history" "LTokenNets$History;")), (321, (Jvm.Cond.methodLink "TokenNets" (59 : Nat) ({ cls := "TokenNets$History", name := "note", desc := "(LTokenNets$Net;)V" } : Jvm.MethodName))), (322, (Jvm.Cond.instanceMethod ({ cls := "TokenNets$History", name := "note", desc := "(LTokenNets$Net;)V" } : Jvm.MethodName))), (323, (Jvm.Cond.selects "TokenNets$History" ({ cls := "TokenNets$History", name := "note", desc := "(LTokenNets$Net;)V" } : Jvm.MethodName) ({ cls := "TokenNets$History", name := "note", desc := "(LTokenNets$Net;)V" } : Jvm.MethodName))), (336, (Jvm.Cond.methodLink "TokenNets" (67 : Nat) ({ cls := "TokenNets$History", name := "settle", desc := "(I)I" } : Jvm.MethodName))), (337, (Jvm.Cond.instanceMethod ({ cls := "TokenNets$History", name := "settle", desc := "(I)I" } : Jvm.MethodName))), (338, (Jvm.Cond.selects "TokenNets$History" ({ cls := "TokenNets$History", name := "settle", desc := "(I)I" } : Jvm.MethodName) ({ cls := "TokenNets$History", name := "settle", desc := "(I)I" } : Jvm.MethodName))), (417, (Jvm.Cond.code ({ cls := "TokenNets", name := "run", desc := "(II)I" } : Jvm.MethodName) prog_1_method_7_code (3 : Nat) (Option.some Jvm.ClassFile.FieldType.int))), (418, (Jvm.Cond.methodLink "TokenNets" (85 : Nat) ({ cls := "TokenNets$Net", name := "makeBySeed", desc := "(II)I" } : Jvm.MethodName))), (419, (Jvm.Cond.instanceMethod ({ cls := "TokenNets$Net", name := "makeBySeed", desc := "(II)I" } : Jvm.MethodName))), (420, (Jvm.Cond.selects "TokenNets$Net" ({ cls := "TokenNets$Net", name := "makeBySeed", desc := "(II)I" } : Jvm.MethodName) ({ cls := "TokenNets$Net", name := "makeBySeed", desc := "(II)I" } : Jvm.MethodName)))]) (by decide +kernel)
set_option maxRecDepth 100000 in
theorem kX8_save : y_ok z_mt zX8_save = true := x_use (wl := [(69, (Jvm.Cond.initialized "TokenNets$Net")), (292, (Jvm.Cond.fieldLink "TokenNets" (12 : Nat) "TokenNets" "net" "LTokenNets$Net;")), (294, (Jvm.Cond.fieldLink "TokenNets" (23 : Nat) "TokenNets" "slots" "[LTokenNets$Net;")), (295, (Jvm.Cond.fieldLink "TokenNets" (27 : Nat) "TokenNets" "saved" "[Z")), (326, (Jvm.Cond.instanceMethod ({ cls := "TokenNets$Net", name := "copy", desc := "(LTokenNets$Net;)V" } : Jvm.MethodName))), (327, (Jvm.Cond.selects "TokenNets$Net" ({ cls := "TokenNets$Net", name := "copy", desc := "(LTokenNets$Net;)V" } : Jvm.MethodName) ({ cls := "TokenNets$Net", name := "copy", desc := "(LTokenNets$Net;)V" } : Jvm.MethodName))), (460, (Jvm.Cond.methodLink "TokenNets" (131 : Nat) ({ cls := "TokenNets$Net", name := "allTokens", desc := "()I" } : Jvm.MethodName))), (461, (Jvm.Cond.instanceMethod ({ cls := "TokenNets$Net", name := "allTokens", desc := "()I" } : Jvm.MethodName))), (462, (Jvm.Cond.selects "TokenNets$Net" ({ cls := "TokenNets$Net", name := "allTokens", desc := "()I" } : Jvm.MethodName) ({ cls := "TokenNets$Net", name := "allTokens", desc := "()I" } : Jvm.MethodName))), (759, (Jvm.Cond.code ({ cls := "TokenNets", name := "save", desc := "(I)I" } : Jvm.MethodName) prog_1_method_28_code (2 : Nat) (Option.some Jvm.ClassFile.FieldType.int))), (760, (Jvm.Cond.methodLink "TokenNets" (245 : Nat) ({ cls := "TokenNets$Net", name := "copy", desc := "(LTokenNets$Net;)V" } : Jvm.MethodName)))]) (by decide +kernel)
set_option maxRecDepth 100000 in
theorem kX8_share : y_ok z_mt zX8_share = true := x_use (wl := [(69, (Jvm.Cond.initialized "TokenNets$Net")), (109, (Jvm.Cond.fieldLink "TokenNets" (115 : Nat) "TokenNets$Net" "made" "[I")), (292, (Jvm.Cond.fieldLink "TokenNets" (12 : Nat) "TokenNets" "net" "LTokenNets$Net;")), (360, (Jvm.Cond.instanceMethod ({ cls := "TokenNets$Net", name := "hasMove", desc := "(I)Z" } : Jvm.MethodName))), (361, (Jvm.Cond.selects "TokenNets$Net" ({ cls := "TokenNets$Net", name := "hasMove", desc := "(I)Z" } : Jvm.MethodName) ({ cls := "TokenNets$Net", name := "hasMove", desc := "(I)Z" } : Jvm.MethodName))), (442, (Jvm.Cond.methodLink "TokenNets" (109 : Nat) ({ cls := "TokenNets$Net", name := "hasMove", desc := "(I)Z" } : Jvm.MethodName))), (469, (Jvm.Cond.methodLink "TokenNets" (137 : Nat) ({ cls := "TokenNets$Net", name := "allMade", desc := "()I" } : Jvm.MethodName))), (470, (Jvm.Cond.instanceMethod ({ cls := "TokenNets$Net", name := "allMade", desc := "()I" } : Jvm.MethodName))), (471, (Jvm.Cond.selects "TokenNets$Net" ({ cls := "TokenNets$Net", name := "allMade", desc := "()I" } : Jvm.MethodName) ({ cls := "TokenNets$Net", name := "allMade", desc := "()I" } : Jvm.MethodName))), (476, (Jvm.Cond.code ({ cls := "TokenNets", name := "share", desc := "(I)I" } : Jvm.MethodName) prog_1_method_12_code (3 : Nat) (Option.some Jvm.ClassFile.FieldType.int)))]) (by decide +kernel)
set_option maxRecDepth 100000 in
theorem kX8_tokens : y_ok z_mt zX8_tokens = true := x_use (wl := [(69, (Jvm.Cond.initialized "TokenNets$Net")), (70, (Jvm.Cond.initialized "TokenNets$History")), (292, (Jvm.Cond.fieldLink "TokenNets" (12 : Nat) "TokenNets" "net" "LTokenNets$Net;")), (293, (Jvm.Cond.fieldLink "TokenNets" (19 : Nat) "TokenNets" "history" "LTokenNets$History;")), (321, (Jvm.Cond.methodLink "TokenNets" (59 : Nat) ({ cls := "TokenNets$History", name := "note", desc := "(LTokenNets$Net;)V" } : Jvm.MethodName))), (322, (Jvm.Cond.instanceMethod ({ cls := "TokenNets$History", name := "note", desc := "(LTokenNets$Net;)V" } : Jvm.MethodName))), (323, (Jvm.Cond.selects "TokenNets$History" ({ cls := "TokenNets$History", name := "note", desc := "(LTokenNets$Net;)V" } : Jvm.MethodName) ({ cls := "TokenNets$History", name := "note", desc := "(LTokenNets$Net;)V" } : Jvm.MethodName))), (336, (Jvm.Cond.methodLink "TokenNets" (67 : Nat) ({ cls := "TokenNets$History", name := "settle", desc := "(I)I" } : Jvm.MethodName))), (337, (Jvm.Cond.instanceMethod ({ cls := "TokenNets$History", name := "settle", desc := "(I)I" } : Jvm.MethodName))), (338, (Jvm.Cond.selects "TokenNets$History" ({ cls := "TokenNets$History", name := "settle", desc := "(I)I" } : Jvm.MethodName) ({ cls := "TokenNets$History", name := "settle", desc := "(I)I" } : Jvm.MethodName))), (370, (Jvm.Cond.code ({ cls := "TokenNets", name := "tokens", desc := "(II)I" } : Jvm.MethodName) prog_1_method_5_code (3 : Nat) (Option.some Jvm.ClassFile.FieldType.int))), (371, (Jvm.Cond.methodLink "TokenNets" (78 : Nat) ({ cls := "TokenNets$Net", name := "setTokens", desc := "(II)I" } : Jvm.MethodName))), (372, (Jvm.Cond.instanceMethod ({ cls := "TokenNets$Net", name := "setTokens", desc := "(II)I" } : Jvm.MethodName))), (373, (Jvm.Cond.selects "TokenNets$Net" ({ cls := "TokenNets$Net", name := "setTokens", desc := "(II)I" } : Jvm.MethodName) ({ cls := "TokenNets$Net", name := "setTokens", desc := "(II)I" } : Jvm.MethodName)))]) (by decide +kernel)
set_option maxRecDepth 100000 in
theorem kX8_trap : y_ok z_mt zX8_trap = true := x_use (wl := [(69, (Jvm.Cond.initialized "TokenNets$Net")), (98, (Jvm.Cond.fieldLink "TokenNets" (124 : Nat) "TokenNets$Net" "places" "I")), (112, (Jvm.Cond.fieldLink "TokenNets" (96 : Nat) "TokenNets$Net" "takes" "[I")), (115, (Jvm.Cond.fieldLink "TokenNets" (103 : Nat) "TokenNets$Net" "gives" "[I")), (292, (Jvm.Cond.fieldLink "TokenNets" (12 : Nat) "TokenNets" "net" "LTokenNets$Net;")), (465, (Jvm.Cond.instanceMethod ({ cls := "TokenNets$Net", name := "tokensIn", desc := "(I)I" } : Jvm.MethodName))), (466, (Jvm.Cond.selects "TokenNets$Net" ({ cls := "TokenNets$Net", name := "tokensIn", desc := "(I)I" } : Jvm.MethodName) ({ cls := "TokenNets$Net", name := "tokensIn", desc := "(I)I" } : Jvm.MethodName))), (556, (Jvm.Cond.code ({ cls := "TokenNets", name := "trap", desc := "(II)I" } : Jvm.MethodName) prog_1_method_16_code (3 : Nat) (Option.some Jvm.ClassFile.FieldType.int))), (557, (Jvm.Cond.methodLink "TokenNets" (169 : Nat) ({ cls := "TokenNets$Net", name := "greatestClosed", desc := "(I[I[I)I" } : Jvm.MethodName))), (558, (Jvm.Cond.instanceMethod ({ cls := "TokenNets$Net", name := "greatestClosed", desc := "(I[I[I)I" } : Jvm.MethodName))), (559, (Jvm.Cond.selects "TokenNets$Net" ({ cls := "TokenNets$Net", name := "greatestClosed", desc := "(I[I[I)I" } : Jvm.MethodName) ({ cls := "TokenNets$Net", name := "greatestClosed", desc := "(I[I[I)I" } : Jvm.MethodName))), (562, (Jvm.Cond.methodLink "TokenNets" (173 : Nat) ({ cls := "TokenNets$Net", name := "tokensIn", desc := "(I)I" } : Jvm.MethodName)))]) (by decide +kernel)
set_option maxRecDepth 100000 in
theorem kX8_undo : y_ok z_mt zX8_undo = true := x_use (wl := [(70, (Jvm.Cond.initialized "TokenNets$History")), (292, (Jvm.Cond.fieldLink "TokenNets" (12 : Nat) "TokenNets" "net" "LTokenNets$Net;")), (293, (Jvm.Cond.fieldLink "TokenNets" (19 : Nat) "TokenNets" "history" "LTokenNets$History;")), (751, (Jvm.Cond.code ({ cls := "TokenNets", name := "undo", desc := "()I" } : Jvm.MethodName) prog_1_method_27_code (1 : Nat) (Option.some Jvm.ClassFile.FieldType.int))), (752, (Jvm.Cond.methodLink "TokenNets" (241 : Nat) ({ cls := "TokenNets$History", name := "takeBack", desc := "(LTokenNets$Net;)I" } : Jvm.MethodName))), (753, (Jvm.Cond.instanceMethod ({ cls := "TokenNets$History", name := "takeBack", desc := "(LTokenNets$Net;)I" } : Jvm.MethodName))), (754, (Jvm.Cond.selects "TokenNets$History" ({ cls := "TokenNets$History", name := "takeBack", desc := "(LTokenNets$Net;)I" } : Jvm.MethodName) ({ cls := "TokenNets$History", name := "takeBack", desc := "(LTokenNets$Net;)I" } : Jvm.MethodName)))]) (by decide +kernel)
set_option maxRecDepth 100000 in
theorem kX8_wipe : y_ok z_mt zX8_wipe = true := x_use (wl := [(160, (Jvm.Cond.fieldLink "TokenNets" (140 : Nat) "TokenNets$Pad" "length" "I")), (296, (Jvm.Cond.fieldLink "TokenNets" (34 : Nat) "TokenNets" "pad" "LTokenNets$Pad;")), (682, (Jvm.Cond.code ({ cls := "TokenNets", name := "wipe", desc := "()I" } : Jvm.MethodName) prog_1_method_22_code (2 : Nat) (Option.some Jvm.ClassFile.FieldType.int)))]) (by decide +kernel)
set_option maxRecDepth 100000 in
theorem kX1_init : y_ok z_mt zX1_init = true := x_use (wl := [(69, (Jvm.Cond.initialized "TokenNets$Net")), (88, (Jvm.Cond.instanceMethod ({ cls := "java/lang/Object", name := "<init>", desc := "()V" } : Jvm.MethodName))), (89, (Jvm.Cond.code ({ cls := "java/lang/Object", name := "<init>", desc := "()V" } : Jvm.MethodName) object_method_1_code (1 : Nat) (Option.none : Option Jvm.ClassFile.FieldType))), (91, (Jvm.Cond.instantiable "TokenNets$Net" (7 : Nat))), (93, (Jvm.Cond.instanceMethod ({ cls := "TokenNets$Net", name := "<init>", desc := "()V" } : Jvm.MethodName))), (136, (Jvm.Cond.code ({ cls := "TokenNets$History", name := "<init>", desc := "()V" } : Jvm.MethodName) prog_3_method_1_code (2 : Nat) (Option.none : Option Jvm.ClassFile.FieldType))), (137, (Jvm.Cond.methodLink "TokenNets$History" (5 : Nat) ({ cls := "java/lang/Object", name := "<init>", desc := "()V" } : Jvm.MethodName))), (138, (Jvm.Cond.classLink "TokenNets$History" (11 : Nat) "TokenNets$Net")), (141, (Jvm.Cond.fieldLink "TokenNets$History" (13 : Nat) "TokenNets$History" "rows" "[LTokenNets$Net;"))]) (by decide +kernel)
set_option maxRecDepth 100000 in
theorem kX1_note : y_ok z_mt zX1_note = true := x_use (wl := [(69, (Jvm.Cond.initialized "TokenNets$Net")), (141, (Jvm.Cond.fieldLink "TokenNets$History" (13 : Nat) "TokenNets$History" "rows" "[LTokenNets$Net;")), (142, (Jvm.Cond.fieldLink "TokenNets$History" (18 : Nat) "TokenNets$History" "next" "I")), (324, (Jvm.Cond.code ({ cls := "TokenNets$History", name := "note", desc := "(LTokenNets$Net;)V" } : Jvm.MethodName) prog_3_method_2_code (2 : Nat) (Option.none : Option Jvm.ClassFile.FieldType))), (325, (Jvm.Cond.methodLink "TokenNets$History" (22 : Nat) ({ cls := "TokenNets$Net", name := "copy", desc := "(LTokenNets$Net;)V" } : Jvm.MethodName))), (326, (Jvm.Cond.instanceMethod ({ cls := "TokenNets$Net", name := "copy", desc := "(LTokenNets$Net;)V" } : Jvm.MethodName))), (327, (Jvm.Cond.selects "TokenNets$Net" ({ cls := "TokenNets$Net", name := "copy", desc := "(LTokenNets$Net;)V" } : Jvm.MethodName) ({ cls := "TokenNets$Net", name := "copy", desc := "(LTokenNets$Net;)V" } : Jvm.MethodName)))]) (by decide +kernel)
set_option maxRecDepth 100000 in
theorem kX1_settle : y_ok z_mt zX1_settle = true := x_use (wl := [(78, (Jvm.Cond.initialized "java/lang/Math")), (142, (Jvm.Cond.fieldLink "TokenNets$History" (18 : Nat) "TokenNets$History" "next" "I")), (143, (Jvm.Cond.fieldLink "TokenNets$History" (26 : Nat) "TokenNets$History" "many" "I")), (339, (Jvm.Cond.code ({ cls := "TokenNets$History", name := "settle", desc := "(I)I" } : Jvm.MethodName) prog_3_method_3_code (2 : Nat) (Option.some Jvm.ClassFile.FieldType.int))), (340, (Jvm.Cond.methodLink "TokenNets$History" (29 : Nat) ({ cls := "java/lang/Math", name := "min", desc := "(II)I" } : Jvm.MethodName))), (341, (Jvm.Cond.static ({ cls := "java/lang/Math", name := "min", desc := "(II)I" } : Jvm.MethodName))), (342, (Jvm.Cond.code ({ cls := "java/lang/Math", name := "min", desc := "(II)I" } : Jvm.MethodName) prog_14_method_69_code (2 : Nat) (Option.some Jvm.ClassFile.FieldType.int)))]) (by decide +kernel)
set_option maxRecDepth 100000 in
theorem kX1_takeBack : y_ok z_mt zX1_takeBack = true := x_use (wl := [(69, (Jvm.Cond.initialized "TokenNets$Net")), (141, (Jvm.Cond.fieldLink "TokenNets$History" (13 : Nat) "TokenNets$History" "rows" "[LTokenNets$Net;")), (142, (Jvm.Cond.fieldLink "TokenNets$History" (18 : Nat) "TokenNets$History" "next" "I")), (143, (Jvm.Cond.fieldLink "TokenNets$History" (26 : Nat) "TokenNets$History" "many" "I")), (325, (Jvm.Cond.methodLink "TokenNets$History" (22 : Nat) ({ cls := "TokenNets$Net", name := "copy", desc := "(LTokenNets$Net;)V" } : Jvm.MethodName))), (326, (Jvm.Cond.instanceMethod ({ cls := "TokenNets$Net", name := "copy", desc := "(LTokenNets$Net;)V" } : Jvm.MethodName))), (327, (Jvm.Cond.selects "TokenNets$Net" ({ cls := "TokenNets$Net", name := "copy", desc := "(LTokenNets$Net;)V" } : Jvm.MethodName) ({ cls := "TokenNets$Net", name := "copy", desc := "(LTokenNets$Net;)V" } : Jvm.MethodName))), (755, (Jvm.Cond.code ({ cls := "TokenNets$History", name := "takeBack", desc := "(LTokenNets$Net;)I" } : Jvm.MethodName) prog_3_method_4_code (2 : Nat) (Option.some Jvm.ClassFile.FieldType.int)))]) (by decide +kernel)
set_option maxRecDepth 100000 in
theorem kX2_init : y_ok z_mt zX2_init = true := x_use (wl := [(69, (Jvm.Cond.initialized "TokenNets$Net")), (88, (Jvm.Cond.instanceMethod ({ cls := "java/lang/Object", name := "<init>", desc := "()V" } : Jvm.MethodName))), (89, (Jvm.Cond.code ({ cls := "java/lang/Object", name := "<init>", desc := "()V" } : Jvm.MethodName) object_method_1_code (1 : Nat) (Option.none : Option Jvm.ClassFile.FieldType))), (91, (Jvm.Cond.instantiable "TokenNets$Net" (7 : Nat))), (93, (Jvm.Cond.instanceMethod ({ cls := "TokenNets$Net", name := "<init>", desc := "()V" } : Jvm.MethodName))), (131, (Jvm.Cond.arrayClass Jvm.ClassFile.FieldType.int)), (212, (Jvm.Cond.code ({ cls := "TokenNets$Marks", name := "<init>", desc := "()V" } : Jvm.MethodName) prog_4_method_1_code (1 : Nat) (Option.none : Option Jvm.ClassFile.FieldType))), (213, (Jvm.Cond.methodLink "TokenNets$Marks" (3 : Nat) ({ cls := "java/lang/Object", name := "<init>", desc := "()V" } : Jvm.MethodName))), (214, (Jvm.Cond.classLink "TokenNets$Marks" (9 : Nat) "TokenNets$Net")), (216, (Jvm.Cond.fieldLink "TokenNets$Marks" (12 : Nat) "TokenNets$Marks" "net" "LTokenNets$Net;")), (220, (Jvm.Cond.fieldLink "TokenNets$Marks" (18 : Nat) "TokenNets$Marks" "rows" "[I")), (223, (Jvm.Cond.fieldLink "TokenNets$Marks" (22 : Nat) "TokenNets$Marks" "next" "[I"))]) (by decide +kernel)
end
section
set_option maxRecDepth 100000 in
theorem kX2_begins : y_ok z_mt zX2_begins = true := x_use (wl := [(69, (Jvm.Cond.initialized "TokenNets$Net")), (77, (Jvm.Cond.initialized "java/lang/System")), (104, (Jvm.Cond.fieldLink "TokenNets$Marks" (50 : Nat) "TokenNets$Net" "tokens" "[I")), (216, (Jvm.Cond.fieldLink "TokenNets$Marks" (12 : Nat) "TokenNets$Marks" "net" "LTokenNets$Net;")), (219, (Jvm.Cond.fieldLink "TokenNets$Marks" (25 : Nat) "TokenNets$Marks" "known" "Z")), (223, (Jvm.Cond.fieldLink "TokenNets$Marks" (22 : Nat) "TokenNets$Marks" "next" "[I")), (228, (Jvm.Cond.fieldLink "TokenNets$Marks" (40 : Nat) "TokenNets$Marks" "many" "I")), (231, (Jvm.Cond.fieldLink "TokenNets$Marks" (44 : Nat) "TokenNets$Marks" "tooMany" "Z")), (234, (Jvm.Cond.fieldLink "TokenNets$Marks" (47 : Nat) "TokenNets$Marks" "possible" "I")), (326, (Jvm.Cond.instanceMethod ({ cls := "TokenNets$Net", name := "copy", desc := "(LTokenNets$Net;)V" } : Jvm.MethodName))), (327, (Jvm.Cond.selects "TokenNets$Net" ({ cls := "TokenNets$Net", name := "copy", desc := "(LTokenNets$Net;)V" } : Jvm.MethodName) ({ cls := "TokenNets$Net", name := "copy", desc := "(LTokenNets$Net;)V" } : Jvm.MethodName))), (330, (Jvm.Cond.static ({ cls := "java/lang/System", name := "arraycopy", desc := "(Ljava/lang/Object;ILjava/lang/Object;II)V" } : Jvm.MethodName))), (331, (Jvm.Cond.native ({ cls := "java/lang/System", name := "arraycopy", desc := "(Ljava/lang/Object;ILjava/lang/Object;II)V" } : Jvm.MethodName))), (574, (Jvm.Cond.code ({ cls := "TokenNets$Marks", name := "begins", desc := "(LTokenNets$Net;)Z" } : Jvm.MethodName) prog_4_method_2_code (2 : Nat) (Option.some Jvm.ClassFile.FieldType.boolean))), (580, (Jvm.Cond.methodLink "TokenNets$Marks" (36 : Nat) ({ cls := "TokenNets$Net", name := "copy", desc := "(LTokenNets$Net;)V" } : Jvm.MethodName))), (581, (Jvm.Cond.methodLink "TokenNets$Marks" (53 : Nat) ({ cls := "java/lang/System", name := "arraycopy", desc := "(Ljava/lang/Object;ILjava/lang/Object;II)V" } : Jvm.MethodName)))]) (by decide +kernel)
set_option maxRecDepth 100000 in
theorem kX2_takeIn : y_ok z_mt zX2_takeIn = true := x_use (wl := [(77, (Jvm.Cond.initialized "java/lang/System")), (220, (Jvm.Cond.fieldLink "TokenNets$Marks" (18 : Nat) "TokenNets$Marks" "rows" "[I")), (223, (Jvm.Cond.fieldLink "TokenNets$Marks" (22 : Nat) "TokenNets$Marks" "next" "[I")), (228, (Jvm.Cond.fieldLink "TokenNets$Marks" (40 : Nat) "TokenNets$Marks" "many" "I")), (231, (Jvm.Cond.fieldLink "TokenNets$Marks" (44 : Nat) "TokenNets$Marks" "tooMany" "Z")), (330, (Jvm.Cond.static ({ cls := "java/lang/System", name := "arraycopy", desc := "(Ljava/lang/Object;ILjava/lang/Object;II)V" } : Jvm.MethodName))), (331, (Jvm.Cond.native ({ cls := "java/lang/System", name := "arraycopy", desc := "(Ljava/lang/Object;ILjava/lang/Object;II)V" } : Jvm.MethodName))), (581, (Jvm.Cond.methodLink "TokenNets$Marks" (53 : Nat) ({ cls := "java/lang/System", name := "arraycopy", desc := "(Ljava/lang/Object;ILjava/lang/Object;II)V" } : Jvm.MethodName))), (604, (Jvm.Cond.code ({ cls := "TokenNets$Marks", name := "takeIn", desc := "()Z" } : Jvm.MethodName) prog_4_method_4_code (1 : Nat) (Option.some Jvm.ClassFile.FieldType.boolean)))]) (by decide +kernel)
set_option maxRecDepth 100000 in
theorem kX3_init : y_ok z_mt zX3_init = true := x_use (wl := [(88, (Jvm.Cond.instanceMethod ({ cls := "java/lang/Object", name := "<init>", desc := "()V" } : Jvm.MethodName))), (89, (Jvm.Cond.code ({ cls := "java/lang/Object", name := "<init>", desc := "()V" } : Jvm.MethodName) object_method_1_code (1 : Nat) (Option.none : Option Jvm.ClassFile.FieldType))), (94, (Jvm.Cond.code ({ cls := "TokenNets$Net", name := "<init>", desc := "()V" } : Jvm.MethodName) prog_5_method_1_code (1 : Nat) (Option.none : Option Jvm.ClassFile.FieldType))), (95, (Jvm.Cond.methodLink "TokenNets$Net" (3 : Nat) ({ cls := "java/lang/Object", name := "<init>", desc := "()V" } : Jvm.MethodName))), (103, (Jvm.Cond.fieldLink "TokenNets$Net" (9 : Nat) "TokenNets$Net" "tokens" "[I")), (106, (Jvm.Cond.fieldLink "TokenNets$Net" (15 : Nat) "TokenNets$Net" "most" "[I")), (108, (Jvm.Cond.fieldLink "TokenNets$Net" (18 : Nat) "TokenNets$Net" "made" "[I")), (110, (Jvm.Cond.fieldLink "TokenNets$Net" (21 : Nat) "TokenNets$Net" "takes" "[I")), (113, (Jvm.Cond.fieldLink "TokenNets$Net" (24 : Nat) "TokenNets$Net" "gives" "[I")), (131, (Jvm.Cond.arrayClass Jvm.ClassFile.FieldType.int))]) (by decide +kernel)
set_option maxRecDepth 100000 in
theorem kX3_addMove : y_ok z_mt zX3_addMove = true := x_use (wl := [(99, (Jvm.Cond.fieldLink "TokenNets$Net" (31 : Nat) "TokenNets$Net" "moves" "I")), (350, (Jvm.Cond.code ({ cls := "TokenNets$Net", name := "addMove", desc := "()I" } : Jvm.MethodName) prog_5_method_8_code (1 : Nat) (Option.some Jvm.ClassFile.FieldType.int)))]) (by decide +kernel)
set_option maxRecDepth 100000 in
theorem kX3_addPlace : y_ok z_mt zX3_addPlace = true := x_use (wl := [(96, (Jvm.Cond.fieldLink "TokenNets$Net" (27 : Nat) "TokenNets$Net" "places" "I")), (103, (Jvm.Cond.fieldLink "TokenNets$Net" (9 : Nat) "TokenNets$Net" "tokens" "[I")), (106, (Jvm.Cond.fieldLink "TokenNets$Net" (15 : Nat) "TokenNets$Net" "most" "[I")), (335, (Jvm.Cond.code ({ cls := "TokenNets$Net", name := "addPlace", desc := "(I)I" } : Jvm.MethodName) prog_5_method_7_code (2 : Nat) (Option.some Jvm.ClassFile.FieldType.int)))]) (by decide +kernel)
set_option maxRecDepth 100000 in
theorem kX3_allMade : y_ok z_mt zX3_allMade = true := x_use (wl := [(108, (Jvm.Cond.fieldLink "TokenNets$Net" (18 : Nat) "TokenNets$Net" "made" "[I")), (472, (Jvm.Cond.code ({ cls := "TokenNets$Net", name := "allMade", desc := "()I" } : Jvm.MethodName) prog_5_method_21_code (3 : Nat) (Option.some Jvm.ClassFile.FieldType.int)))]) (by decide +kernel)
set_option maxRecDepth 100000 in
theorem kX3_allTokens : y_ok z_mt zX3_allTokens = true := x_use (wl := [(69, (Jvm.Cond.initialized "TokenNets$Net")), (463, (Jvm.Cond.code ({ cls := "TokenNets$Net", name := "allTokens", desc := "()I" } : Jvm.MethodName) prog_5_method_19_code (1 : Nat) (Option.some Jvm.ClassFile.FieldType.int))), (464, (Jvm.Cond.methodLink "TokenNets$Net" (91 : Nat) ({ cls := "TokenNets$Net", name := "tokensIn", desc := "(I)I" } : Jvm.MethodName))), (465, (Jvm.Cond.instanceMethod ({ cls := "TokenNets$Net", name := "tokensIn", desc := "(I)I" } : Jvm.MethodName))), (466, (Jvm.Cond.selects "TokenNets$Net" ({ cls := "TokenNets$Net", name := "tokensIn", desc := "(I)I" } : Jvm.MethodName) ({ cls := "TokenNets$Net", name := "tokensIn", desc := "(I)I" } : Jvm.MethodName)))]) (by decide +kernel)
set_option maxRecDepth 100000 in
theorem kX3_copy : y_ok z_mt zX3_copy = true := x_use (wl := [(77, (Jvm.Cond.initialized "java/lang/System")), (96, (Jvm.Cond.fieldLink "TokenNets$Net" (27 : Nat) "TokenNets$Net" "places" "I")), (99, (Jvm.Cond.fieldLink "TokenNets$Net" (31 : Nat) "TokenNets$Net" "moves" "I")), (103, (Jvm.Cond.fieldLink "TokenNets$Net" (9 : Nat) "TokenNets$Net" "tokens" "[I")), (106, (Jvm.Cond.fieldLink "TokenNets$Net" (15 : Nat) "TokenNets$Net" "most" "[I")), (108, (Jvm.Cond.fieldLink "TokenNets$Net" (18 : Nat) "TokenNets$Net" "made" "[I")), (110, (Jvm.Cond.fieldLink "TokenNets$Net" (21 : Nat) "TokenNets$Net" "takes" "[I")), (113, (Jvm.Cond.fieldLink "TokenNets$Net" (24 : Nat) "TokenNets$Net" "gives" "[I")), (328, (Jvm.Cond.code ({ cls := "TokenNets$Net", name := "copy", desc := "(LTokenNets$Net;)V" } : Jvm.MethodName) prog_5_method_2_code (2 : Nat) (Option.none : Option Jvm.ClassFile.FieldType))), (329, (Jvm.Cond.methodLink "TokenNets$Net" (34 : Nat) ({ cls := "java/lang/System", name := "arraycopy", desc := "(Ljava/lang/Object;ILjava/lang/Object;II)V" } : Jvm.MethodName))), (330, (Jvm.Cond.static ({ cls := "java/lang/System", name := "arraycopy", desc := "(Ljava/lang/Object;ILjava/lang/Object;II)V" } : Jvm.MethodName))), (331, (Jvm.Cond.native ({ cls := "java/lang/System", name := "arraycopy", desc := "(Ljava/lang/Object;ILjava/lang/Object;II)V" } : Jvm.MethodName)))]) (by decide +kernel)
set_option maxRecDepth 100000 in
theorem kX3_greatestClosed : y_ok z_mt zX3_greatestClosed = true := x_use (wl := [(99, (Jvm.Cond.fieldLink "TokenNets$Net" (31 : Nat) "TokenNets$Net" "moves" "I")), (560, (Jvm.Cond.code ({ cls := "TokenNets$Net", name := "greatestClosed", desc := "(I[I[I)I" } : Jvm.MethodName) prog_5_method_25_code (8 : Nat) (Option.some Jvm.ClassFile.FieldType.int)))]) (by decide +kernel)
set_option maxRecDepth 100000 in
theorem kX3_hasMove : y_ok z_mt zX3_hasMove = true := x_use (wl := [(99, (Jvm.Cond.fieldLink "TokenNets$Net" (31 : Nat) "TokenNets$Net" "moves" "I")), (362, (Jvm.Cond.code ({ cls := "TokenNets$Net", name := "hasMove", desc := "(I)Z" } : Jvm.MethodName) prog_5_method_6_code (2 : Nat) (Option.some Jvm.ClassFile.FieldType.boolean)))]) (by decide +kernel)
set_option maxRecDepth 100000 in
theorem kX3_hasPlace : y_ok z_mt zX3_hasPlace = true := x_use (wl := [(96, (Jvm.Cond.fieldLink "TokenNets$Net" (27 : Nat) "TokenNets$Net" "places" "I")), (366, (Jvm.Cond.code ({ cls := "TokenNets$Net", name := "hasPlace", desc := "(I)Z" } : Jvm.MethodName) prog_5_method_5_code (2 : Nat) (Option.some Jvm.ClassFile.FieldType.boolean)))]) (by decide +kernel)
set_option maxRecDepth 100000 in
theorem kX3_makeBySeed : y_ok z_mt zX3_makeBySeed = true := x_use (wl := [(69, (Jvm.Cond.initialized "TokenNets$Net")), (79, (Jvm.Cond.initialized "java/lang/Integer")), (404, (Jvm.Cond.methodLink "TokenNets$Net" (54 : Nat) ({ cls := "TokenNets$Net", name := "possibleMoves", desc := "()I" } : Jvm.MethodName))), (405, (Jvm.Cond.instanceMethod ({ cls := "TokenNets$Net", name := "possibleMoves", desc := "()I" } : Jvm.MethodName))), (406, (Jvm.Cond.selects "TokenNets$Net" ({ cls := "TokenNets$Net", name := "possibleMoves", desc := "()I" } : Jvm.MethodName) ({ cls := "TokenNets$Net", name := "possibleMoves", desc := "()I" } : Jvm.MethodName))), (408, (Jvm.Cond.methodLink "TokenNets$Net" (58 : Nat) ({ cls := "java/lang/Integer", name := "bitCount", desc := "(I)I" } : Jvm.MethodName))), (409, (Jvm.Cond.static ({ cls := "java/lang/Integer", name := "bitCount", desc := "(I)I" } : Jvm.MethodName))), (421, (Jvm.Cond.code ({ cls := "TokenNets$Net", name := "makeBySeed", desc := "(II)I" } : Jvm.MethodName) prog_5_method_12_code (8 : Nat) (Option.some Jvm.ClassFile.FieldType.int))), (422, (Jvm.Cond.constantLong "TokenNets$Net" (64 : Nat) (1103515245 : Int64))), (423, (Jvm.Cond.constantLong "TokenNets$Net" (66 : Nat) (12345 : Int64))), (424, (Jvm.Cond.constantLong "TokenNets$Net" (68 : Nat) (2147483648 : Int64))), (425, (Jvm.Cond.constantLong "TokenNets$Net" (70 : Nat) (65536 : Int64)))]) (by decide +kernel)
set_option maxRecDepth 100000 in
theorem kX3_makeOne : y_ok z_mt zX3_makeOne = true := x_use (wl := [(69, (Jvm.Cond.initialized "TokenNets$Net")), (79, (Jvm.Cond.initialized "java/lang/Integer")), (359, (Jvm.Cond.methodLink "TokenNets$Net" (40 : Nat) ({ cls := "TokenNets$Net", name := "hasMove", desc := "(I)Z" } : Jvm.MethodName))), (360, (Jvm.Cond.instanceMethod ({ cls := "TokenNets$Net", name := "hasMove", desc := "(I)Z" } : Jvm.MethodName))), (361, (Jvm.Cond.selects "TokenNets$Net" ({ cls := "TokenNets$Net", name := "hasMove", desc := "(I)Z" } : Jvm.MethodName) ({ cls := "TokenNets$Net", name := "hasMove", desc := "(I)Z" } : Jvm.MethodName))), (382, (Jvm.Cond.code ({ cls := "TokenNets$Net", name := "makeOne", desc := "(I)I" } : Jvm.MethodName) prog_5_method_11_code (2 : Nat) (Option.some Jvm.ClassFile.FieldType.int))), (404, (Jvm.Cond.methodLink "TokenNets$Net" (54 : Nat) ({ cls := "TokenNets$Net", name := "possibleMoves", desc := "()I" } : Jvm.MethodName))), (405, (Jvm.Cond.instanceMethod ({ cls := "TokenNets$Net", name := "possibleMoves", desc := "()I" } : Jvm.MethodName))), (406, (Jvm.Cond.selects "TokenNets$Net" ({ cls := "TokenNets$Net", name := "possibleMoves", desc := "()I" } : Jvm.MethodName) ({ cls := "TokenNets$Net", name := "possibleMoves", desc := "()I" } : Jvm.MethodName))), (408, (Jvm.Cond.methodLink "TokenNets$Net" (58 : Nat) ({ cls := "java/lang/Integer", name := "bitCount", desc := "(I)I" } : Jvm.MethodName))), (409, (Jvm.Cond.static ({ cls := "java/lang/Integer", name := "bitCount", desc := "(I)I" } : Jvm.MethodName)))]) (by decide +kernel)
set_option maxRecDepth 100000 in
theorem kX3_possibleMoves : y_ok z_mt zX3_possibleMoves = true := x_use (wl := [(99, (Jvm.Cond.fieldLink "TokenNets$Net" (31 : Nat) "TokenNets$Net" "moves" "I")), (407, (Jvm.Cond.code ({ cls := "TokenNets$Net", name := "possibleMoves", desc := "()I" } : Jvm.MethodName) prog_5_method_18_code (3 : Nat) (Option.some Jvm.ClassFile.FieldType.int)))]) (by decide +kernel)
set_option maxRecDepth 100000 in
theorem kX3_setArc : y_ok z_mt zX3_setArc = true := x_use (wl := [(69, (Jvm.Cond.initialized "TokenNets$Net")), (110, (Jvm.Cond.fieldLink "TokenNets$Net" (21 : Nat) "TokenNets$Net" "takes" "[I")), (113, (Jvm.Cond.fieldLink "TokenNets$Net" (24 : Nat) "TokenNets$Net" "gives" "[I")), (358, (Jvm.Cond.code ({ cls := "TokenNets$Net", name := "setArc", desc := "(IIII)I" } : Jvm.MethodName) prog_5_method_9_code (7 : Nat) (Option.some Jvm.ClassFile.FieldType.int))), (359, (Jvm.Cond.methodLink "TokenNets$Net" (40 : Nat) ({ cls := "TokenNets$Net", name := "hasMove", desc := "(I)Z" } : Jvm.MethodName))), (360, (Jvm.Cond.instanceMethod ({ cls := "TokenNets$Net", name := "hasMove", desc := "(I)Z" } : Jvm.MethodName))), (361, (Jvm.Cond.selects "TokenNets$Net" ({ cls := "TokenNets$Net", name := "hasMove", desc := "(I)Z" } : Jvm.MethodName) ({ cls := "TokenNets$Net", name := "hasMove", desc := "(I)Z" } : Jvm.MethodName))), (363, (Jvm.Cond.methodLink "TokenNets$Net" (44 : Nat) ({ cls := "TokenNets$Net", name := "hasPlace", desc := "(I)Z" } : Jvm.MethodName))), (364, (Jvm.Cond.instanceMethod ({ cls := "TokenNets$Net", name := "hasPlace", desc := "(I)Z" } : Jvm.MethodName))), (365, (Jvm.Cond.selects "TokenNets$Net" ({ cls := "TokenNets$Net", name := "hasPlace", desc := "(I)Z" } : Jvm.MethodName) ({ cls := "TokenNets$Net", name := "hasPlace", desc := "(I)Z" } : Jvm.MethodName)))]) (by decide +kernel)
set_option maxRecDepth 100000 in
theorem kX3_setTokens : y_ok z_mt zX3_setTokens = true := x_use (wl := [(69, (Jvm.Cond.initialized "TokenNets$Net")), (103, (Jvm.Cond.fieldLink "TokenNets$Net" (9 : Nat) "TokenNets$Net" "tokens" "[I")), (106, (Jvm.Cond.fieldLink "TokenNets$Net" (15 : Nat) "TokenNets$Net" "most" "[I")), (363, (Jvm.Cond.methodLink "TokenNets$Net" (44 : Nat) ({ cls := "TokenNets$Net", name := "hasPlace", desc := "(I)Z" } : Jvm.MethodName))), (364, (Jvm.Cond.instanceMethod ({ cls := "TokenNets$Net", name := "hasPlace", desc := "(I)Z" } : Jvm.MethodName))), (365, (Jvm.Cond.selects "TokenNets$Net" ({ cls := "TokenNets$Net", name := "hasPlace", desc := "(I)Z" } : Jvm.MethodName) ({ cls := "TokenNets$Net", name := "hasPlace", desc := "(I)Z" } : Jvm.MethodName))), (374, (Jvm.Cond.code ({ cls := "TokenNets$Net", name := "setTokens", desc := "(II)I" } : Jvm.MethodName) prog_5_method_10_code (4 : Nat) (Option.some Jvm.ClassFile.FieldType.int)))]) (by decide +kernel)
set_option maxRecDepth 100000 in
theorem kX3_tokensIn : y_ok z_mt zX3_tokensIn = true := x_use (wl := [(103, (Jvm.Cond.fieldLink "TokenNets$Net" (9 : Nat) "TokenNets$Net" "tokens" "[I")), (467, (Jvm.Cond.code ({ cls := "TokenNets$Net", name := "tokensIn", desc := "(I)I" } : Jvm.MethodName) prog_5_method_20_code (4 : Nat) (Option.some Jvm.ClassFile.FieldType.int)))]) (by decide +kernel)
set_option maxRecDepth 100000 in
theorem kX4_init : y_ok z_mt zX4_init = true := x_use (wl := [(88, (Jvm.Cond.instanceMethod ({ cls := "java/lang/Object", name := "<init>", desc := "()V" } : Jvm.MethodName))), (89, (Jvm.Cond.code ({ cls := "java/lang/Object", name := "<init>", desc := "()V" } : Jvm.MethodName) object_method_1_code (1 : Nat) (Option.none : Option Jvm.ClassFile.FieldType))), (156, (Jvm.Cond.code ({ cls := "TokenNets$Pad", name := "<init>", desc := "()V" } : Jvm.MethodName) prog_6_method_1_code (1 : Nat) (Option.none : Option Jvm.ClassFile.FieldType))), (157, (Jvm.Cond.methodLink "TokenNets$Pad" (3 : Nat) ({ cls := "java/lang/Object", name := "<init>", desc := "()V" } : Jvm.MethodName))), (158, (Jvm.Cond.fieldLink "TokenNets$Pad" (11 : Nat) "TokenNets$Pad" "signs" "[C")), (167, (Jvm.Cond.arrayClass Jvm.ClassFile.FieldType.char))]) (by decide +kernel)
set_option maxRecDepth 100000 in
theorem kX4_append : y_ok z_mt zX4_append = true := x_use (wl := [(158, (Jvm.Cond.fieldLink "TokenNets$Pad" (11 : Nat) "TokenNets$Pad" "signs" "[C")), (159, (Jvm.Cond.fieldLink "TokenNets$Pad" (21 : Nat) "TokenNets$Pad" "length" "I")), (675, (Jvm.Cond.code ({ cls := "TokenNets$Pad", name := "append", desc := "(J)I" } : Jvm.MethodName) prog_6_method_2_code (8 : Nat) (Option.some Jvm.ClassFile.FieldType.int))), (676, (Jvm.Cond.constantLong "TokenNets$Pad" (15 : Nat) (255 : Int64))), (677, (Jvm.Cond.constantLong "TokenNets$Pad" (17 : Nat) (33 : Int64))), (678, (Jvm.Cond.constantLong "TokenNets$Pad" (19 : Nat) (126 : Int64)))]) (by decide +kernel)
set_option maxRecDepth 100000 in
theorem kX4_firstFault : y_ok z_mt zX4_firstFault = true := x_use (wl := [(71, (Jvm.Cond.initialized "TokenNets$Pad")), (159, (Jvm.Cond.fieldLink "TokenNets$Pad" (21 : Nat) "TokenNets$Pad" "length" "I")), (690, (Jvm.Cond.code ({ cls := "TokenNets$Pad", name := "firstFault", desc := "()I" } : Jvm.MethodName) prog_6_method_10_code (3 : Nat) (Option.some Jvm.ClassFile.FieldType.int))), (702, (Jvm.Cond.methodLink "TokenNets$Pad" (41 : Nat) ({ cls := "TokenNets$Pad", name := "mayEnd", desc := "(I)Z" } : Jvm.MethodName))), (703, (Jvm.Cond.static ({ cls := "TokenNets$Pad", name := "mayEnd", desc := "(I)Z" } : Jvm.MethodName)))]) (by decide +kernel)
set_option maxRecDepth 100000 in
theorem kX4_mayEnd : y_ok z_mt zX4_mayEnd = true := x_use (wl := [(704, (Jvm.Cond.code ({ cls := "TokenNets$Pad", name := "mayEnd", desc := "(I)Z" } : Jvm.MethodName) prog_6_method_11_code (1 : Nat) (Option.some Jvm.ClassFile.FieldType.boolean)))]) (by decide +kernel)
set_option maxRecDepth 100000 in
theorem kX5_init : y_ok z_mt zX5_init = true := x_use (wl := [(74, (Jvm.Cond.initialized "TokenNets$Marks")), (88, (Jvm.Cond.instanceMethod ({ cls := "java/lang/Object", name := "<init>", desc := "()V" } : Jvm.MethodName))), (89, (Jvm.Cond.code ({ cls := "java/lang/Object", name := "<init>", desc := "()V" } : Jvm.MethodName) object_method_1_code (1 : Nat) (Option.none : Option Jvm.ClassFile.FieldType))), (131, (Jvm.Cond.arrayClass Jvm.ClassFile.FieldType.int)), (206, (Jvm.Cond.code ({ cls := "TokenNets$Reach", name := "<init>", desc := "()V" } : Jvm.MethodName) prog_7_method_1_code (1 : Nat) (Option.none : Option Jvm.ClassFile.FieldType))), (207, (Jvm.Cond.methodLink "TokenNets$Reach" (3 : Nat) ({ cls := "java/lang/Object", name := "<init>", desc := "()V" } : Jvm.MethodName))), (208, (Jvm.Cond.classLink "TokenNets$Reach" (9 : Nat) "TokenNets$Marks")), (209, (Jvm.Cond.instantiable "TokenNets$Marks" (7 : Nat))), (211, (Jvm.Cond.instanceMethod ({ cls := "TokenNets$Marks", name := "<init>", desc := "()V" } : Jvm.MethodName))), (251, (Jvm.Cond.fieldLink "TokenNets$Reach" (12 : Nat) "TokenNets$Reach" "marks" "LTokenNets$Marks;")), (253, (Jvm.Cond.fieldLink "TokenNets$Reach" (18 : Nat) "TokenNets$Reach" "moves" "[I")), (254, (Jvm.Cond.fieldLink "TokenNets$Reach" (22 : Nat) "TokenNets$Reach" "table" "[I"))]) (by decide +kernel)
set_option maxRecDepth 100000 in
theorem kX5_find : y_ok z_mt zX5_find = true := x_use (wl := [(6, (Jvm.Cond.selects "TokenNets$Reach" ({ cls := "TokenNets$Reach", name := "meet", desc := "(I)V" } : Jvm.MethodName) ({ cls := "TokenNets$Reach", name := "meet", desc := "(I)V" } : Jvm.MethodName))), (8, (Jvm.Cond.selects "TokenNets$Reach" ({ cls := "TokenNets$Reach", name := "follow", desc := "(I)V" } : Jvm.MethodName) ({ cls := "TokenNets$Reach", name := "follow", desc := "(I)V" } : Jvm.MethodName))), (73, (Jvm.Cond.initialized "TokenNets$Reach")), (74, (Jvm.Cond.initialized "TokenNets$Marks")), (81, (Jvm.Cond.initialized "java/util/Arrays")), (227, (Jvm.Cond.fieldLink "TokenNets$Reach" (43 : Nat) "TokenNets$Marks" "many" "I")), (232, (Jvm.Cond.fieldLink "TokenNets$Reach" (46 : Nat) "TokenNets$Marks" "tooMany" "Z")), (251, (Jvm.Cond.fieldLink "TokenNets$Reach" (12 : Nat) "TokenNets$Reach" "marks" "LTokenNets$Marks;")), (254, (Jvm.Cond.fieldLink "TokenNets$Reach" (22 : Nat) "TokenNets$Reach" "table" "[I")), (255, (Jvm.Cond.fieldLink "TokenNets$Reach" (29 : Nat) "TokenNets$Reach" "dead" "I")), (570, (Jvm.Cond.code ({ cls := "TokenNets$Reach", name := "find", desc := "(LTokenNets$Net;)V" } : Jvm.MethodName) prog_7_method_2_code (3 : Nat) (Option.none : Option Jvm.ClassFile.FieldType))), (571, (Jvm.Cond.methodLink "TokenNets$Reach" (25 : Nat) ({ cls := "TokenNets$Marks", name := "begins", desc := "(LTokenNets$Net;)Z" } : Jvm.MethodName))), (572, (Jvm.Cond.instanceMethod ({ cls := "TokenNets$Marks", name := "begins", desc := "(LTokenNets$Net;)Z" } : Jvm.MethodName))), (573, (Jvm.Cond.selects "TokenNets$Marks" ({ cls := "TokenNets$Marks", name := "begins", desc := "(LTokenNets$Net;)Z" } : Jvm.MethodName) ({ cls := "TokenNets$Marks", name := "begins", desc := "(LTokenNets$Net;)Z" } : Jvm.MethodName))), (582, (Jvm.Cond.methodLink "TokenNets$Reach" (33 : Nat) ({ cls := "java/util/Arrays", name := "fill", desc := "([II)V" } : Jvm.MethodName))), (583, (Jvm.Cond.static ({ cls := "java/util/Arrays", name := "fill", desc := "([II)V" } : Jvm.MethodName))), (585, (Jvm.Cond.methodLink "TokenNets$Reach" (39 : Nat) ({ cls := "TokenNets$Reach", name := "meet", desc := "(I)V" } : Jvm.MethodName))), (587, (Jvm.Cond.instanceMethod ({ cls := "TokenNets$Reach", name := "meet", desc := "(I)V" } : Jvm.MethodName))), (605, (Jvm.Cond.methodLink "TokenNets$Reach" (50 : Nat) ({ cls := "TokenNets$Reach", name := "follow", desc := "(I)V" } : Jvm.MethodName))), (607, (Jvm.Cond.instanceMethod ({ cls := "TokenNets$Reach", name := "follow", desc := "(I)V" } : Jvm.MethodName)))]) (by decide +kernel)
set_option maxRecDepth 100000 in
theorem kX5_follow : y_ok z_mt zX5_follow = true := x_use (wl := [(6, (Jvm.Cond.selects "TokenNets$Reach" ({ cls := "TokenNets$Reach", name := "meet", desc := "(I)V" } : Jvm.MethodName) ({ cls := "TokenNets$Reach", name := "meet", desc := "(I)V" } : Jvm.MethodName))), (73, (Jvm.Cond.initialized "TokenNets$Reach")), (100, (Jvm.Cond.fieldLink "TokenNets$Reach" (57 : Nat) "TokenNets$Net" "moves" "I")), (217, (Jvm.Cond.fieldLink "TokenNets$Reach" (53 : Nat) "TokenNets$Marks" "net" "LTokenNets$Net;")), (251, (Jvm.Cond.fieldLink "TokenNets$Reach" (12 : Nat) "TokenNets$Reach" "marks" "LTokenNets$Marks;")), (253, (Jvm.Cond.fieldLink "TokenNets$Reach" (18 : Nat) "TokenNets$Reach" "moves" "[I")), (255, (Jvm.Cond.fieldLink "TokenNets$Reach" (29 : Nat) "TokenNets$Reach" "dead" "I")), (585, (Jvm.Cond.methodLink "TokenNets$Reach" (39 : Nat) ({ cls := "TokenNets$Reach", name := "meet", desc := "(I)V" } : Jvm.MethodName))), (587, (Jvm.Cond.instanceMethod ({ cls := "TokenNets$Reach", name := "meet", desc := "(I)V" } : Jvm.MethodName))), (608, (Jvm.Cond.code ({ cls := "TokenNets$Reach", name := "follow", desc := "(I)V" } : Jvm.MethodName) prog_7_method_3_code (4 : Nat) (Option.none : Option Jvm.ClassFile.FieldType))), (609, (Jvm.Cond.constant "TokenNets$Reach" (61 : Nat) (99999 : Int32)))]) (by decide +kernel)
set_option maxRecDepth 100000 in
theorem kX5_hash : y_ok z_mt zX5_hash = true := x_use (wl := [(591, (Jvm.Cond.code ({ cls := "TokenNets$Reach", name := "hash", desc := "([I)I" } : Jvm.MethodName) prog_7_method_5_code (3 : Nat) (Option.some Jvm.ClassFile.FieldType.int))), (592, (Jvm.Cond.constant "TokenNets$Reach" (81 : Nat) (-1640531527 : Int32)))]) (by decide +kernel)
set_option maxRecDepth 100000 in
theorem kX5_meet : y_ok z_mt zX5_meet = true := x_use (wl := [(73, (Jvm.Cond.initialized "TokenNets$Reach")), (74, (Jvm.Cond.initialized "TokenNets$Marks")), (224, (Jvm.Cond.fieldLink "TokenNets$Reach" (66 : Nat) "TokenNets$Marks" "next" "[I")), (227, (Jvm.Cond.fieldLink "TokenNets$Reach" (43 : Nat) "TokenNets$Marks" "many" "I")), (251, (Jvm.Cond.fieldLink "TokenNets$Reach" (12 : Nat) "TokenNets$Reach" "marks" "LTokenNets$Marks;")), (253, (Jvm.Cond.fieldLink "TokenNets$Reach" (18 : Nat) "TokenNets$Reach" "moves" "[I")), (254, (Jvm.Cond.fieldLink "TokenNets$Reach" (22 : Nat) "TokenNets$Reach" "table" "[I")), (588, (Jvm.Cond.code ({ cls := "TokenNets$Reach", name := "meet", desc := "(I)V" } : Jvm.MethodName) prog_7_method_4_code (4 : Nat) (Option.none : Option Jvm.ClassFile.FieldType))), (589, (Jvm.Cond.methodLink "TokenNets$Reach" (69 : Nat) ({ cls := "TokenNets$Reach", name := "hash", desc := "([I)I" } : Jvm.MethodName))), (590, (Jvm.Cond.static ({ cls := "TokenNets$Reach", name := "hash", desc := "([I)I" } : Jvm.MethodName))), (601, (Jvm.Cond.methodLink "TokenNets$Reach" (77 : Nat) ({ cls := "TokenNets$Marks", name := "takeIn", desc := "()Z" } : Jvm.MethodName))), (602, (Jvm.Cond.instanceMethod ({ cls := "TokenNets$Marks", name := "takeIn", desc := "()Z" } : Jvm.MethodName))), (603, (Jvm.Cond.selects "TokenNets$Marks" ({ cls := "TokenNets$Marks", name := "takeIn", desc := "()Z" } : Jvm.MethodName) ({ cls := "TokenNets$Marks", name := "takeIn", desc := "()Z" } : Jvm.MethodName)))]) (by decide +kernel)
set_option maxRecDepth 100000 in
theorem kX6_init : y_ok z_mt zX6_init = true := x_use (wl := [(69, (Jvm.Cond.initialized "TokenNets$Net")), (88, (Jvm.Cond.instanceMethod ({ cls := "java/lang/Object", name := "<init>", desc := "()V" } : Jvm.MethodName))), (89, (Jvm.Cond.code ({ cls := "java/lang/Object", name := "<init>", desc := "()V" } : Jvm.MethodName) object_method_1_code (1 : Nat) (Option.none : Option Jvm.ClassFile.FieldType))), (91, (Jvm.Cond.instantiable "TokenNets$Net" (7 : Nat))), (93, (Jvm.Cond.instanceMethod ({ cls := "TokenNets$Net", name := "<init>", desc := "()V" } : Jvm.MethodName))), (131, (Jvm.Cond.arrayClass Jvm.ClassFile.FieldType.int)), (166, (Jvm.Cond.arrayClass Jvm.ClassFile.FieldType.boolean)), (172, (Jvm.Cond.code ({ cls := "TokenNets$Sums", name := "<init>", desc := "()V" } : Jvm.MethodName) prog_8_method_1_code (1 : Nat) (Option.none : Option Jvm.ClassFile.FieldType))), (173, (Jvm.Cond.methodLink "TokenNets$Sums" (3 : Nat) ({ cls := "java/lang/Object", name := "<init>", desc := "()V" } : Jvm.MethodName))), (174, (Jvm.Cond.classLink "TokenNets$Sums" (9 : Nat) "TokenNets$Net")), (176, (Jvm.Cond.fieldLink "TokenNets$Sums" (12 : Nat) "TokenNets$Sums" "seen" "LTokenNets$Net;")), (178, (Jvm.Cond.fieldLink "TokenNets$Sums" (18 : Nat) "TokenNets$Sums" "gains" "[I")), (179, (Jvm.Cond.fieldLink "TokenNets$Sums" (22 : Nat) "TokenNets$Sums" "balances" "[I")), (180, (Jvm.Cond.fieldLink "TokenNets$Sums" (25 : Nat) "TokenNets$Sums" "weights" "[I")), (181, (Jvm.Cond.fieldLink "TokenNets$Sums" (28 : Nat) "TokenNets$Sums" "covered" "[Z")), (182, (Jvm.Cond.fieldLink "TokenNets$Sums" (32 : Nat) "TokenNets$Sums" "found" "[I"))]) (by decide +kernel)
set_option maxRecDepth 100000 in
theorem kX6_find : y_ok z_mt zX6_find = true := x_use (wl := [(69, (Jvm.Cond.initialized "TokenNets$Net")), (97, (Jvm.Cond.fieldLink "TokenNets$Sums" (61 : Nat) "TokenNets$Net" "places" "I")), (111, (Jvm.Cond.fieldLink "TokenNets$Sums" (58 : Nat) "TokenNets$Net" "takes" "[I")), (114, (Jvm.Cond.fieldLink "TokenNets$Sums" (55 : Nat) "TokenNets$Net" "gives" "[I")), (176, (Jvm.Cond.fieldLink "TokenNets$Sums" (12 : Nat) "TokenNets$Sums" "seen" "LTokenNets$Net;")), (177, (Jvm.Cond.fieldLink "TokenNets$Sums" (39 : Nat) "TokenNets$Sums" "known" "Z")), (178, (Jvm.Cond.fieldLink "TokenNets$Sums" (18 : Nat) "TokenNets$Sums" "gains" "[I")), (181, (Jvm.Cond.fieldLink "TokenNets$Sums" (28 : Nat) "TokenNets$Sums" "covered" "[Z")), (183, (Jvm.Cond.fieldLink "TokenNets$Sums" (51 : Nat) "TokenNets$Sums" "many" "I")), (326, (Jvm.Cond.instanceMethod ({ cls := "TokenNets$Net", name := "copy", desc := "(LTokenNets$Net;)V" } : Jvm.MethodName))), (327, (Jvm.Cond.selects "TokenNets$Net" ({ cls := "TokenNets$Net", name := "copy", desc := "(LTokenNets$Net;)V" } : Jvm.MethodName) ({ cls := "TokenNets$Net", name := "copy", desc := "(LTokenNets$Net;)V" } : Jvm.MethodName))), (499, (Jvm.Cond.code ({ cls := "TokenNets$Sums", name := "find", desc := "(LTokenNets$Net;)V" } : Jvm.MethodName) prog_8_method_4_code (3 : Nat) (Option.none : Option Jvm.ClassFile.FieldType))), (504, (Jvm.Cond.methodLink "TokenNets$Sums" (47 : Nat) ({ cls := "TokenNets$Net", name := "copy", desc := "(LTokenNets$Net;)V" } : Jvm.MethodName)))]) (by decide +kernel)
set_option maxRecDepth 100000 in
theorem kX7_init : y_ok z_mt zX7_init = true := x_use (wl := [(74, (Jvm.Cond.initialized "TokenNets$Marks")), (88, (Jvm.Cond.instanceMethod ({ cls := "java/lang/Object", name := "<init>", desc := "()V" } : Jvm.MethodName))), (89, (Jvm.Cond.code ({ cls := "java/lang/Object", name := "<init>", desc := "()V" } : Jvm.MethodName) object_method_1_code (1 : Nat) (Option.none : Option Jvm.ClassFile.FieldType))), (131, (Jvm.Cond.arrayClass Jvm.ClassFile.FieldType.int)), (209, (Jvm.Cond.instantiable "TokenNets$Marks" (7 : Nat))), (211, (Jvm.Cond.instanceMethod ({ cls := "TokenNets$Marks", name := "<init>", desc := "()V" } : Jvm.MethodName))), (270, (Jvm.Cond.code ({ cls := "TokenNets$Tree", name := "<init>", desc := "()V" } : Jvm.MethodName) prog_9_method_1_code (1 : Nat) (Option.none : Option Jvm.ClassFile.FieldType))), (271, (Jvm.Cond.methodLink "TokenNets$Tree" (3 : Nat) ({ cls := "java/lang/Object", name := "<init>", desc := "()V" } : Jvm.MethodName))), (272, (Jvm.Cond.classLink "TokenNets$Tree" (9 : Nat) "TokenNets$Marks")), (274, (Jvm.Cond.fieldLink "TokenNets$Tree" (12 : Nat) "TokenNets$Tree" "marks" "LTokenNets$Marks;")), (276, (Jvm.Cond.fieldLink "TokenNets$Tree" (18 : Nat) "TokenNets$Tree" "above" "[I")), (277, (Jvm.Cond.fieldLink "TokenNets$Tree" (22 : Nat) "TokenNets$Tree" "depths" "[I")), (278, (Jvm.Cond.fieldLink "TokenNets$Tree" (25 : Nat) "TokenNets$Tree" "path" "[I"))]) (by decide +kernel)
set_option maxRecDepth 100000 in
theorem kX7_add : y_ok z_mt zX7_add = true := x_use (wl := [(74, (Jvm.Cond.initialized "TokenNets$Marks")), (78, (Jvm.Cond.initialized "java/lang/Math")), (226, (Jvm.Cond.fieldLink "TokenNets$Tree" (40 : Nat) "TokenNets$Marks" "many" "I")), (274, (Jvm.Cond.fieldLink "TokenNets$Tree" (12 : Nat) "TokenNets$Tree" "marks" "LTokenNets$Marks;")), (276, (Jvm.Cond.fieldLink "TokenNets$Tree" (18 : Nat) "TokenNets$Tree" "above" "[I")), (277, (Jvm.Cond.fieldLink "TokenNets$Tree" (22 : Nat) "TokenNets$Tree" "depths" "[I")), (279, (Jvm.Cond.fieldLink "TokenNets$Tree" (32 : Nat) "TokenNets$Tree" "deepest" "I")), (402, (Jvm.Cond.static ({ cls := "java/lang/Math", name := "max", desc := "(II)I" } : Jvm.MethodName))), (403, (Jvm.Cond.code ({ cls := "java/lang/Math", name := "max", desc := "(II)I" } : Jvm.MethodName) prog_14_method_65_code (2 : Nat) (Option.some Jvm.ClassFile.FieldType.int))), (602, (Jvm.Cond.instanceMethod ({ cls := "TokenNets$Marks", name := "takeIn", desc := "()Z" } : Jvm.MethodName))), (603, (Jvm.Cond.selects "TokenNets$Marks" ({ cls := "TokenNets$Marks", name := "takeIn", desc := "()Z" } : Jvm.MethodName) ({ cls := "TokenNets$Marks", name := "takeIn", desc := "()Z" } : Jvm.MethodName))), (636, (Jvm.Cond.code ({ cls := "TokenNets$Tree", name := "add", desc := "(II)V" } : Jvm.MethodName) prog_9_method_3_code (3 : Nat) (Option.none : Option Jvm.ClassFile.FieldType))), (637, (Jvm.Cond.methodLink "TokenNets$Tree" (51 : Nat) ({ cls := "TokenNets$Marks", name := "takeIn", desc := "()Z" } : Jvm.MethodName))), (638, (Jvm.Cond.methodLink "TokenNets$Tree" (55 : Nat) ({ cls := "java/lang/Math", name := "max", desc := "(II)I" } : Jvm.MethodName)))]) (by decide +kernel)
set_option maxRecDepth 100000 in
theorem kX7_endlessPlaces : y_ok z_mt zX7_endlessPlaces = true := x_use (wl := [(75, (Jvm.Cond.initialized "TokenNets$Tree")), (653, (Jvm.Cond.constant "TokenNets$Tree" (89 : Nat) (1073741824 : Int32))), (657, (Jvm.Cond.code ({ cls := "TokenNets$Tree", name := "endlessPlaces", desc := "()I" } : Jvm.MethodName) prog_9_method_7_code (3 : Nat) (Option.some Jvm.ClassFile.FieldType.int))), (658, (Jvm.Cond.methodLink "TokenNets$Tree" (90 : Nat) ({ cls := "TokenNets$Tree", name := "mostTokens", desc := "(I)I" } : Jvm.MethodName))), (659, (Jvm.Cond.instanceMethod ({ cls := "TokenNets$Tree", name := "mostTokens", desc := "(I)I" } : Jvm.MethodName))), (660, (Jvm.Cond.selects "TokenNets$Tree" ({ cls := "TokenNets$Tree", name := "mostTokens", desc := "(I)I" } : Jvm.MethodName) ({ cls := "TokenNets$Tree", name := "mostTokens", desc := "(I)I" } : Jvm.MethodName)))]) (by decide +kernel)
set_option maxRecDepth 100000 in
theorem kX7_find : y_ok z_mt zX7_find = true := x_use (wl := [(9, (Jvm.Cond.selects "TokenNets$Tree" ({ cls := "TokenNets$Tree", name := "add", desc := "(II)V" } : Jvm.MethodName) ({ cls := "TokenNets$Tree", name := "add", desc := "(II)V" } : Jvm.MethodName))), (10, (Jvm.Cond.selects "TokenNets$Tree" ({ cls := "TokenNets$Tree", name := "follow", desc := "(I)V" } : Jvm.MethodName) ({ cls := "TokenNets$Tree", name := "follow", desc := "(I)V" } : Jvm.MethodName))), (74, (Jvm.Cond.initialized "TokenNets$Marks")), (75, (Jvm.Cond.initialized "TokenNets$Tree")), (226, (Jvm.Cond.fieldLink "TokenNets$Tree" (40 : Nat) "TokenNets$Marks" "many" "I")), (230, (Jvm.Cond.fieldLink "TokenNets$Tree" (43 : Nat) "TokenNets$Marks" "tooMany" "Z")), (274, (Jvm.Cond.fieldLink "TokenNets$Tree" (12 : Nat) "TokenNets$Tree" "marks" "LTokenNets$Marks;")), (279, (Jvm.Cond.fieldLink "TokenNets$Tree" (32 : Nat) "TokenNets$Tree" "deepest" "I")), (572, (Jvm.Cond.instanceMethod ({ cls := "TokenNets$Marks", name := "begins", desc := "(LTokenNets$Net;)Z" } : Jvm.MethodName))), (573, (Jvm.Cond.selects "TokenNets$Marks" ({ cls := "TokenNets$Marks", name := "begins", desc := "(LTokenNets$Net;)Z" } : Jvm.MethodName) ({ cls := "TokenNets$Marks", name := "begins", desc := "(LTokenNets$Net;)Z" } : Jvm.MethodName))), (631, (Jvm.Cond.code ({ cls := "TokenNets$Tree", name := "find", desc := "(LTokenNets$Net;)V" } : Jvm.MethodName) prog_9_method_2_code (3 : Nat) (Option.none : Option Jvm.ClassFile.FieldType))), (632, (Jvm.Cond.methodLink "TokenNets$Tree" (28 : Nat) ({ cls := "TokenNets$Marks", name := "begins", desc := "(LTokenNets$Net;)Z" } : Jvm.MethodName))), (633, (Jvm.Cond.methodLink "TokenNets$Tree" (36 : Nat) ({ cls := "TokenNets$Tree", name := "add", desc := "(II)V" } : Jvm.MethodName))), (635, (Jvm.Cond.instanceMethod ({ cls := "TokenNets$Tree", name := "add", desc := "(II)V" } : Jvm.MethodName))), (639, (Jvm.Cond.methodLink "TokenNets$Tree" (47 : Nat) ({ cls := "TokenNets$Tree", name := "follow", desc := "(I)V" } : Jvm.MethodName))), (641, (Jvm.Cond.instanceMethod ({ cls := "TokenNets$Tree", name := "follow", desc := "(I)V" } : Jvm.MethodName)))]) (by decide +kernel)
end
section
set_option maxRecDepth 100000 in
theorem kX7_follow : y_ok z_mt zX7_follow = true := x_use (wl := [(9, (Jvm.Cond.selects "TokenNets$Tree" ({ cls := "TokenNets$Tree", name := "add", desc := "(II)V" } : Jvm.MethodName) ({ cls := "TokenNets$Tree", name := "add", desc := "(II)V" } : Jvm.MethodName))), (75, (Jvm.Cond.initialized "TokenNets$Tree")), (101, (Jvm.Cond.fieldLink "TokenNets$Tree" (69 : Nat) "TokenNets$Net" "moves" "I")), (218, (Jvm.Cond.fieldLink "TokenNets$Tree" (65 : Nat) "TokenNets$Marks" "net" "LTokenNets$Net;")), (225, (Jvm.Cond.fieldLink "TokenNets$Tree" (79 : Nat) "TokenNets$Marks" "next" "[I")), (230, (Jvm.Cond.fieldLink "TokenNets$Tree" (43 : Nat) "TokenNets$Marks" "tooMany" "Z")), (274, (Jvm.Cond.fieldLink "TokenNets$Tree" (12 : Nat) "TokenNets$Tree" "marks" "LTokenNets$Marks;")), (276, (Jvm.Cond.fieldLink "TokenNets$Tree" (18 : Nat) "TokenNets$Tree" "above" "[I")), (277, (Jvm.Cond.fieldLink "TokenNets$Tree" (22 : Nat) "TokenNets$Tree" "depths" "[I")), (278, (Jvm.Cond.fieldLink "TokenNets$Tree" (25 : Nat) "TokenNets$Tree" "path" "[I")), (633, (Jvm.Cond.methodLink "TokenNets$Tree" (36 : Nat) ({ cls := "TokenNets$Tree", name := "add", desc := "(II)V" } : Jvm.MethodName))), (635, (Jvm.Cond.instanceMethod ({ cls := "TokenNets$Tree", name := "add", desc := "(II)V" } : Jvm.MethodName))), (642, (Jvm.Cond.code ({ cls := "TokenNets$Tree", name := "follow", desc := "(I)V" } : Jvm.MethodName) prog_9_method_4_code (6 : Nat) (Option.none : Option Jvm.ClassFile.FieldType))), (647, (Jvm.Cond.constant "TokenNets$Tree" (74 : Nat) (1073741833 : Int32)))]) (by decide +kernel)
set_option maxRecDepth 100000 in
theorem kX7_mostTokens : y_ok z_mt zX7_mostTokens = true := x_use (wl := [(78, (Jvm.Cond.initialized "java/lang/Math")), (221, (Jvm.Cond.fieldLink "TokenNets$Tree" (86 : Nat) "TokenNets$Marks" "rows" "[I")), (226, (Jvm.Cond.fieldLink "TokenNets$Tree" (40 : Nat) "TokenNets$Marks" "many" "I")), (274, (Jvm.Cond.fieldLink "TokenNets$Tree" (12 : Nat) "TokenNets$Tree" "marks" "LTokenNets$Marks;")), (402, (Jvm.Cond.static ({ cls := "java/lang/Math", name := "max", desc := "(II)I" } : Jvm.MethodName))), (403, (Jvm.Cond.code ({ cls := "java/lang/Math", name := "max", desc := "(II)I" } : Jvm.MethodName) prog_14_method_65_code (2 : Nat) (Option.some Jvm.ClassFile.FieldType.int))), (638, (Jvm.Cond.methodLink "TokenNets$Tree" (55 : Nat) ({ cls := "java/lang/Math", name := "max", desc := "(II)I" } : Jvm.MethodName))), (661, (Jvm.Cond.code ({ cls := "TokenNets$Tree", name := "mostTokens", desc := "(I)I" } : Jvm.MethodName) prog_9_method_6_code (4 : Nat) (Option.some Jvm.ClassFile.FieldType.int)))]) (by decide +kernel)
set_option maxRecDepth 100000 in
theorem kX9_init : y_ok z_mt zX9_init = true := x_use (wl := [(88, (Jvm.Cond.instanceMethod ({ cls := "java/lang/Object", name := "<init>", desc := "()V" } : Jvm.MethodName))), (89, (Jvm.Cond.code ({ cls := "java/lang/Object", name := "<init>", desc := "()V" } : Jvm.MethodName) object_method_1_code (1 : Nat) (Option.none : Option Jvm.ClassFile.FieldType))), (131, (Jvm.Cond.arrayClass Jvm.ClassFile.FieldType.int)), (166, (Jvm.Cond.arrayClass Jvm.ClassFile.FieldType.boolean)), (769, (Jvm.Cond.code ({ cls := "TokenNetsModel", name := "<init>", desc := "()V" } : Jvm.MethodName) prog_11_method_1_code (1 : Nat) (Option.none : Option Jvm.ClassFile.FieldType))), (770, (Jvm.Cond.methodLink "TokenNetsModel" (1 : Nat) ({ cls := "java/lang/Object", name := "<init>", desc := "()V" } : Jvm.MethodName))), (771, (Jvm.Cond.fieldLink "TokenNetsModel" (7 : Nat) "TokenNetsModel" "state" "[I")), (772, (Jvm.Cond.fieldLink "TokenNetsModel" (13 : Nat) "TokenNetsModel" "history" "[I")), (774, (Jvm.Cond.fieldLink "TokenNetsModel" (16 : Nat) "TokenNetsModel" "slots" "[I")), (775, (Jvm.Cond.fieldLink "TokenNetsModel" (19 : Nat) "TokenNetsModel" "isSaved" "[I")), (776, (Jvm.Cond.fieldLink "TokenNetsModel" (22 : Nat) "TokenNetsModel" "pad" "[I")), (778, (Jvm.Cond.fieldLink "TokenNetsModel" (25 : Nat) "TokenNetsModel" "marks" "[I")), (779, (Jvm.Cond.fieldLink "TokenNetsModel" (28 : Nat) "TokenNetsModel" "levels" "[I")), (780, (Jvm.Cond.fieldLink "TokenNetsModel" (31 : Nat) "TokenNetsModel" "above" "[I")), (782, (Jvm.Cond.fieldLink "TokenNetsModel" (34 : Nat) "TokenNetsModel" "tried" "[I")), (783, (Jvm.Cond.fieldLink "TokenNetsModel" (37 : Nat) "TokenNetsModel" "weights" "[I")), (784, (Jvm.Cond.fieldLink "TokenNetsModel" (40 : Nat) "TokenNetsModel" "isKept" "[Z")), (789, (Jvm.Cond.fieldLink "TokenNetsModel" (44 : Nat) "TokenNetsModel" "taken" "[I")), (790, (Jvm.Cond.fieldLink "TokenNetsModel" (47 : Nat) "TokenNetsModel" "given" "[I"))]) (by decide +kernel)
set_option maxRecDepth 100000 in
theorem kX9_allMade : y_ok z_mt zX9_allMade = true := x_use (wl := [(771, (Jvm.Cond.fieldLink "TokenNetsModel" (7 : Nat) "TokenNetsModel" "state" "[I")), (971, (Jvm.Cond.code ({ cls := "TokenNetsModel", name := "allMade", desc := "()I" } : Jvm.MethodName) prog_11_method_35_code (3 : Nat) (Option.some Jvm.ClassFile.FieldType.int)))]) (by decide +kernel)
set_option maxRecDepth 100000 in
theorem kX9_allTokens : y_ok z_mt zX9_allTokens = true := x_use (wl := [(771, (Jvm.Cond.fieldLink "TokenNetsModel" (7 : Nat) "TokenNetsModel" "state" "[I")), (967, (Jvm.Cond.code ({ cls := "TokenNetsModel", name := "allTokens", desc := "()I" } : Jvm.MethodName) prog_11_method_15_code (3 : Nat) (Option.some Jvm.ClassFile.FieldType.int)))]) (by decide +kernel)
set_option maxRecDepth 100000 in
theorem kX9_arc : y_ok z_mt zX9_arc = true := x_use (wl := [(16, (Jvm.Cond.selects "TokenNetsModel" ({ cls := "TokenNetsModel", name := "record", desc := "()V" } : Jvm.MethodName) ({ cls := "TokenNetsModel", name := "record", desc := "()V" } : Jvm.MethodName))), (18, (Jvm.Cond.selects "TokenNetsModel" ({ cls := "TokenNetsModel", name := "isMove", desc := "(I)Z" } : Jvm.MethodName) ({ cls := "TokenNetsModel", name := "isMove", desc := "(I)Z" } : Jvm.MethodName))), (19, (Jvm.Cond.selects "TokenNetsModel" ({ cls := "TokenNetsModel", name := "isPlace", desc := "(I)Z" } : Jvm.MethodName) ({ cls := "TokenNetsModel", name := "isPlace", desc := "(I)Z" } : Jvm.MethodName))), (76, (Jvm.Cond.initialized "TokenNetsModel")), (843, (Jvm.Cond.methodLink "TokenNetsModel" (58 : Nat) ({ cls := "TokenNetsModel", name := "within", desc := "(III)Z" } : Jvm.MethodName))), (844, (Jvm.Cond.static ({ cls := "TokenNetsModel", name := "within", desc := "(III)Z" } : Jvm.MethodName))), (846, (Jvm.Cond.methodLink "TokenNetsModel" (82 : Nat) ({ cls := "TokenNetsModel", name := "record", desc := "()V" } : Jvm.MethodName))), (848, (Jvm.Cond.instanceMethod ({ cls := "TokenNetsModel", name := "record", desc := "()V" } : Jvm.MethodName))), (864, (Jvm.Cond.code ({ cls := "TokenNetsModel", name := "arc", desc := "(IIII)I" } : Jvm.MethodName) prog_11_method_21_code (6 : Nat) (Option.some Jvm.ClassFile.FieldType.int))), (865, (Jvm.Cond.methodLink "TokenNetsModel" (88 : Nat) ({ cls := "TokenNetsModel", name := "isMove", desc := "(I)Z" } : Jvm.MethodName))), (867, (Jvm.Cond.instanceMethod ({ cls := "TokenNetsModel", name := "isMove", desc := "(I)Z" } : Jvm.MethodName))), (869, (Jvm.Cond.methodLink "TokenNetsModel" (92 : Nat) ({ cls := "TokenNetsModel", name := "isPlace", desc := "(I)Z" } : Jvm.MethodName))), (871, (Jvm.Cond.instanceMethod ({ cls := "TokenNetsModel", name := "isPlace", desc := "(I)Z" } : Jvm.MethodName)))]) (by decide +kernel)
set_option maxRecDepth 100000 in
theorem kX9_begins : y_ok z_mt zX9_begins = true := x_use (wl := [(48, (Jvm.Cond.selects "TokenNetsModel" ({ cls := "TokenNetsModel", name := "keepTried", desc := "(II)V" } : Jvm.MethodName) ({ cls := "TokenNetsModel", name := "keepTried", desc := "(II)V" } : Jvm.MethodName))), (76, (Jvm.Cond.initialized "TokenNetsModel")), (771, (Jvm.Cond.fieldLink "TokenNetsModel" (7 : Nat) "TokenNetsModel" "state" "[I")), (781, (Jvm.Cond.fieldLink "TokenNetsModel" (218 : Nat) "TokenNetsModel" "found" "I")), (782, (Jvm.Cond.fieldLink "TokenNetsModel" (34 : Nat) "TokenNetsModel" "tried" "[I")), (1066, (Jvm.Cond.code ({ cls := "TokenNetsModel", name := "begins", desc := "()V" } : Jvm.MethodName) prog_11_method_62_code (2 : Nat) (Option.none : Option Jvm.ClassFile.FieldType))), (1067, (Jvm.Cond.methodLink "TokenNetsModel" (224 : Nat) ({ cls := "TokenNetsModel", name := "keepTried", desc := "(II)V" } : Jvm.MethodName))), (1069, (Jvm.Cond.instanceMethod ({ cls := "TokenNetsModel", name := "keepTried", desc := "(II)V" } : Jvm.MethodName)))]) (by decide +kernel)
set_option maxRecDepth 100000 in
theorem kX9_bound : y_ok z_mt zX9_bound = true := x_use (wl := [(19, (Jvm.Cond.selects "TokenNetsModel" ({ cls := "TokenNetsModel", name := "isPlace", desc := "(I)Z" } : Jvm.MethodName) ({ cls := "TokenNetsModel", name := "isPlace", desc := "(I)Z" } : Jvm.MethodName))), (53, (Jvm.Cond.selects "TokenNetsModel" ({ cls := "TokenNetsModel", name := "findTree", desc := "()Z" } : Jvm.MethodName) ({ cls := "TokenNetsModel", name := "findTree", desc := "()Z" } : Jvm.MethodName))), (76, (Jvm.Cond.initialized "TokenNetsModel")), (781, (Jvm.Cond.fieldLink "TokenNetsModel" (218 : Nat) "TokenNetsModel" "found" "I")), (869, (Jvm.Cond.methodLink "TokenNetsModel" (92 : Nat) ({ cls := "TokenNetsModel", name := "isPlace", desc := "(I)Z" } : Jvm.MethodName))), (871, (Jvm.Cond.instanceMethod ({ cls := "TokenNetsModel", name := "isPlace", desc := "(I)Z" } : Jvm.MethodName))), (1079, (Jvm.Cond.constant "TokenNetsModel" (217 : Nat) (1000000000 : Int32))), (1096, (Jvm.Cond.methodLink "TokenNetsModel" (249 : Nat) ({ cls := "TokenNetsModel", name := "findTree", desc := "()Z" } : Jvm.MethodName))), (1098, (Jvm.Cond.instanceMethod ({ cls := "TokenNetsModel", name := "findTree", desc := "()Z" } : Jvm.MethodName))), (1115, (Jvm.Cond.code ({ cls := "TokenNetsModel", name := "bound", desc := "(I)I" } : Jvm.MethodName) prog_11_method_71_code (4 : Nat) (Option.some Jvm.ClassFile.FieldType.int)))]) (by decide +kernel)
set_option maxRecDepth 100000 in
theorem kX9_carryOut : y_ok z_mt zX9_carryOut = true := x_use (wl := [(16, (Jvm.Cond.selects "TokenNetsModel" ({ cls := "TokenNetsModel", name := "record", desc := "()V" } : Jvm.MethodName) ({ cls := "TokenNetsModel", name := "record", desc := "()V" } : Jvm.MethodName))), (57, (Jvm.Cond.selects "TokenNetsModel" ({ cls := "TokenNetsModel", name := "findFault", desc := "()I" } : Jvm.MethodName) ({ cls := "TokenNetsModel", name := "findFault", desc := "()I" } : Jvm.MethodName))), (58, (Jvm.Cond.selects "TokenNetsModel" ({ cls := "TokenNetsModel", name := "readsOrder", desc := "()Z" } : Jvm.MethodName) ({ cls := "TokenNetsModel", name := "readsOrder", desc := "()Z" } : Jvm.MethodName))), (76, (Jvm.Cond.initialized "TokenNetsModel")), (777, (Jvm.Cond.fieldLink "TokenNetsModel" (146 : Nat) "TokenNetsModel" "padLength" "I")), (785, (Jvm.Cond.fieldLink "TokenNetsModel" (254 : Nat) "TokenNetsModel" "at" "I")), (846, (Jvm.Cond.methodLink "TokenNetsModel" (82 : Nat) ({ cls := "TokenNetsModel", name := "record", desc := "()V" } : Jvm.MethodName))), (848, (Jvm.Cond.instanceMethod ({ cls := "TokenNetsModel", name := "record", desc := "()V" } : Jvm.MethodName))), (1129, (Jvm.Cond.methodLink "TokenNetsModel" (291 : Nat) ({ cls := "TokenNetsModel", name := "findFault", desc := "()I" } : Jvm.MethodName))), (1131, (Jvm.Cond.instanceMethod ({ cls := "TokenNetsModel", name := "findFault", desc := "()I" } : Jvm.MethodName))), (1133, (Jvm.Cond.methodLink "TokenNetsModel" (288 : Nat) ({ cls := "TokenNetsModel", name := "readsOrder", desc := "()Z" } : Jvm.MethodName))), (1135, (Jvm.Cond.instanceMethod ({ cls := "TokenNetsModel", name := "readsOrder", desc := "()Z" } : Jvm.MethodName))), (1164, (Jvm.Cond.code ({ cls := "TokenNetsModel", name := "carryOut", desc := "()I" } : Jvm.MethodName) prog_11_method_85_code (3 : Nat) (Option.some Jvm.ClassFile.FieldType.int)))]) (by decide +kernel)
set_option maxRecDepth 100000 in
theorem kX9_character : y_ok z_mt zX9_character = true := x_use (wl := [(776, (Jvm.Cond.fieldLink "TokenNetsModel" (22 : Nat) "TokenNetsModel" "pad" "[I")), (777, (Jvm.Cond.fieldLink "TokenNetsModel" (146 : Nat) "TokenNetsModel" "padLength" "I")), (1140, (Jvm.Cond.code ({ cls := "TokenNetsModel", name := "character", desc := "(I)I" } : Jvm.MethodName) prog_11_method_74_code (2 : Nat) (Option.some Jvm.ClassFile.FieldType.int)))]) (by decide +kernel)
set_option maxRecDepth 100000 in
theorem kX9_codes : y_ok z_mt zX9_codes = true := x_use (wl := [(771, (Jvm.Cond.fieldLink "TokenNetsModel" (7 : Nat) "TokenNetsModel" "state" "[I")), (1017, (Jvm.Cond.code ({ cls := "TokenNetsModel", name := "codes", desc := "()I" } : Jvm.MethodName) prog_11_method_47_code (1 : Nat) (Option.some Jvm.ClassFile.FieldType.int)))]) (by decide +kernel)
set_option maxRecDepth 100000 in
theorem kX9_count : y_ok z_mt zX9_count = true := x_use (wl := [(28, (Jvm.Cond.selects "TokenNetsModel" ({ cls := "TokenNetsModel", name := "movesNow", desc := "()I" } : Jvm.MethodName) ({ cls := "TokenNetsModel", name := "movesNow", desc := "()I" } : Jvm.MethodName))), (33, (Jvm.Cond.selects "TokenNetsModel" ({ cls := "TokenNetsModel", name := "allTokens", desc := "()I" } : Jvm.MethodName) ({ cls := "TokenNetsModel", name := "allTokens", desc := "()I" } : Jvm.MethodName))), (34, (Jvm.Cond.selects "TokenNetsModel" ({ cls := "TokenNetsModel", name := "allMade", desc := "()I" } : Jvm.MethodName) ({ cls := "TokenNetsModel", name := "allMade", desc := "()I" } : Jvm.MethodName))), (76, (Jvm.Cond.initialized "TokenNetsModel")), (771, (Jvm.Cond.fieldLink "TokenNetsModel" (7 : Nat) "TokenNetsModel" "state" "[I")), (773, (Jvm.Cond.fieldLink "TokenNetsModel" (50 : Nat) "TokenNetsModel" "recorded" "I")), (777, (Jvm.Cond.fieldLink "TokenNetsModel" (146 : Nat) "TokenNetsModel" "padLength" "I")), (914, (Jvm.Cond.methodLink "TokenNetsModel" (112 : Nat) ({ cls := "TokenNetsModel", name := "movesNow", desc := "()I" } : Jvm.MethodName))), (916, (Jvm.Cond.instanceMethod ({ cls := "TokenNetsModel", name := "movesNow", desc := "()I" } : Jvm.MethodName))), (963, (Jvm.Cond.code ({ cls := "TokenNetsModel", name := "count", desc := "(I)I" } : Jvm.MethodName) prog_11_method_36_code (2 : Nat) (Option.some Jvm.ClassFile.FieldType.int))), (964, (Jvm.Cond.methodLink "TokenNetsModel" (140 : Nat) ({ cls := "TokenNetsModel", name := "allTokens", desc := "()I" } : Jvm.MethodName))), (966, (Jvm.Cond.instanceMethod ({ cls := "TokenNetsModel", name := "allTokens", desc := "()I" } : Jvm.MethodName))), (968, (Jvm.Cond.methodLink "TokenNetsModel" (143 : Nat) ({ cls := "TokenNetsModel", name := "allMade", desc := "()I" } : Jvm.MethodName))), (970, (Jvm.Cond.instanceMethod ({ cls := "TokenNetsModel", name := "allMade", desc := "()I" } : Jvm.MethodName)))]) (by decide +kernel)
set_option maxRecDepth 100000 in
theorem kX9_fault : y_ok z_mt zX9_fault = true := x_use (wl := [(57, (Jvm.Cond.selects "TokenNetsModel" ({ cls := "TokenNetsModel", name := "findFault", desc := "()I" } : Jvm.MethodName) ({ cls := "TokenNetsModel", name := "findFault", desc := "()I" } : Jvm.MethodName))), (76, (Jvm.Cond.initialized "TokenNetsModel")), (1128, (Jvm.Cond.code ({ cls := "TokenNetsModel", name := "fault", desc := "()I" } : Jvm.MethodName) prog_11_method_82_code (1 : Nat) (Option.some Jvm.ClassFile.FieldType.int))), (1129, (Jvm.Cond.methodLink "TokenNetsModel" (291 : Nat) ({ cls := "TokenNetsModel", name := "findFault", desc := "()I" } : Jvm.MethodName))), (1131, (Jvm.Cond.instanceMethod ({ cls := "TokenNetsModel", name := "findFault", desc := "()I" } : Jvm.MethodName)))]) (by decide +kernel)
set_option maxRecDepth 100000 in
theorem kX9_fewest : y_ok z_mt zX9_fewest = true := x_use (wl := [(19, (Jvm.Cond.selects "TokenNetsModel" ({ cls := "TokenNetsModel", name := "isPlace", desc := "(I)Z" } : Jvm.MethodName) ({ cls := "TokenNetsModel", name := "isPlace", desc := "(I)Z" } : Jvm.MethodName))), (46, (Jvm.Cond.selects "TokenNetsModel" ({ cls := "TokenNetsModel", name := "findReached", desc := "()Z" } : Jvm.MethodName) ({ cls := "TokenNetsModel", name := "findReached", desc := "()Z" } : Jvm.MethodName))), (76, (Jvm.Cond.initialized "TokenNetsModel")), (779, (Jvm.Cond.fieldLink "TokenNetsModel" (28 : Nat) "TokenNetsModel" "levels" "[I")), (781, (Jvm.Cond.fieldLink "TokenNetsModel" (218 : Nat) "TokenNetsModel" "found" "I")), (843, (Jvm.Cond.methodLink "TokenNetsModel" (58 : Nat) ({ cls := "TokenNetsModel", name := "within", desc := "(III)Z" } : Jvm.MethodName))), (844, (Jvm.Cond.static ({ cls := "TokenNetsModel", name := "within", desc := "(III)Z" } : Jvm.MethodName))), (869, (Jvm.Cond.methodLink "TokenNetsModel" (92 : Nat) ({ cls := "TokenNetsModel", name := "isPlace", desc := "(I)Z" } : Jvm.MethodName))), (871, (Jvm.Cond.instanceMethod ({ cls := "TokenNetsModel", name := "isPlace", desc := "(I)Z" } : Jvm.MethodName))), (1059, (Jvm.Cond.methodLink "TokenNetsModel" (237 : Nat) ({ cls := "TokenNetsModel", name := "findReached", desc := "()Z" } : Jvm.MethodName))), (1061, (Jvm.Cond.instanceMethod ({ cls := "TokenNetsModel", name := "findReached", desc := "()Z" } : Jvm.MethodName))), (1091, (Jvm.Cond.code ({ cls := "TokenNetsModel", name := "fewest", desc := "(II)I" } : Jvm.MethodName) prog_11_method_65_code (4 : Nat) (Option.some Jvm.ClassFile.FieldType.int)))]) (by decide +kernel)
set_option maxRecDepth 100000 in
theorem kX9_findFault : y_ok z_mt zX9_findFault = true := x_use (wl := [(58, (Jvm.Cond.selects "TokenNetsModel" ({ cls := "TokenNetsModel", name := "readsOrder", desc := "()Z" } : Jvm.MethodName) ({ cls := "TokenNetsModel", name := "readsOrder", desc := "()Z" } : Jvm.MethodName))), (76, (Jvm.Cond.initialized "TokenNetsModel")), (777, (Jvm.Cond.fieldLink "TokenNetsModel" (146 : Nat) "TokenNetsModel" "padLength" "I")), (785, (Jvm.Cond.fieldLink "TokenNetsModel" (254 : Nat) "TokenNetsModel" "at" "I")), (1132, (Jvm.Cond.code ({ cls := "TokenNetsModel", name := "findFault", desc := "()I" } : Jvm.MethodName) prog_11_method_81_code (1 : Nat) (Option.some Jvm.ClassFile.FieldType.int))), (1133, (Jvm.Cond.methodLink "TokenNetsModel" (288 : Nat) ({ cls := "TokenNetsModel", name := "readsOrder", desc := "()Z" } : Jvm.MethodName))), (1135, (Jvm.Cond.instanceMethod ({ cls := "TokenNetsModel", name := "readsOrder", desc := "()Z" } : Jvm.MethodName)))]) (by decide +kernel)
set_option maxRecDepth 100000 in
theorem kX9_findReached : y_ok z_mt zX9_findReached = true := x_use (wl := [(47, (Jvm.Cond.selects "TokenNetsModel" ({ cls := "TokenNetsModel", name := "begins", desc := "()V" } : Jvm.MethodName) ({ cls := "TokenNetsModel", name := "begins", desc := "()V" } : Jvm.MethodName))), (48, (Jvm.Cond.selects "TokenNetsModel" ({ cls := "TokenNetsModel", name := "keepTried", desc := "(II)V" } : Jvm.MethodName) ({ cls := "TokenNetsModel", name := "keepTried", desc := "(II)V" } : Jvm.MethodName))), (76, (Jvm.Cond.initialized "TokenNetsModel")), (771, (Jvm.Cond.fieldLink "TokenNetsModel" (7 : Nat) "TokenNetsModel" "state" "[I")), (778, (Jvm.Cond.fieldLink "TokenNetsModel" (25 : Nat) "TokenNetsModel" "marks" "[I")), (779, (Jvm.Cond.fieldLink "TokenNetsModel" (28 : Nat) "TokenNetsModel" "levels" "[I")), (781, (Jvm.Cond.fieldLink "TokenNetsModel" (218 : Nat) "TokenNetsModel" "found" "I")), (1062, (Jvm.Cond.code ({ cls := "TokenNetsModel", name := "findReached", desc := "()Z" } : Jvm.MethodName) prog_11_method_63_code (3 : Nat) (Option.some Jvm.ClassFile.FieldType.boolean))), (1063, (Jvm.Cond.methodLink "TokenNetsModel" (228 : Nat) ({ cls := "TokenNetsModel", name := "begins", desc := "()V" } : Jvm.MethodName))), (1065, (Jvm.Cond.instanceMethod ({ cls := "TokenNetsModel", name := "begins", desc := "()V" } : Jvm.MethodName))), (1067, (Jvm.Cond.methodLink "TokenNetsModel" (224 : Nat) ({ cls := "TokenNetsModel", name := "keepTried", desc := "(II)V" } : Jvm.MethodName))), (1069, (Jvm.Cond.instanceMethod ({ cls := "TokenNetsModel", name := "keepTried", desc := "(II)V" } : Jvm.MethodName)))]) (by decide +kernel)
set_option maxRecDepth 100000 in
theorem kX9_findSets : y_ok z_mt zX9_findSets = true := x_use (wl := [(37, (Jvm.Cond.selects "TokenNetsModel" ({ cls := "TokenNetsModel", name := "codes", desc := "()I" } : Jvm.MethodName) ({ cls := "TokenNetsModel", name := "codes", desc := "()I" } : Jvm.MethodName))), (76, (Jvm.Cond.initialized "TokenNetsModel")), (784, (Jvm.Cond.fieldLink "TokenNetsModel" (40 : Nat) "TokenNetsModel" "isKept" "[Z")), (1013, (Jvm.Cond.code ({ cls := "TokenNetsModel", name := "findSets", desc := "()V" } : Jvm.MethodName) prog_11_method_48_code (2 : Nat) (Option.none : Option Jvm.ClassFile.FieldType))), (1014, (Jvm.Cond.methodLink "TokenNetsModel" (176 : Nat) ({ cls := "TokenNetsModel", name := "codes", desc := "()I" } : Jvm.MethodName))), (1016, (Jvm.Cond.instanceMethod ({ cls := "TokenNetsModel", name := "codes", desc := "()I" } : Jvm.MethodName)))]) (by decide +kernel)
set_option maxRecDepth 100000 in
theorem kX9_findTree : y_ok z_mt zX9_findTree = true := x_use (wl := [(47, (Jvm.Cond.selects "TokenNetsModel" ({ cls := "TokenNetsModel", name := "begins", desc := "()V" } : Jvm.MethodName) ({ cls := "TokenNetsModel", name := "begins", desc := "()V" } : Jvm.MethodName))), (48, (Jvm.Cond.selects "TokenNetsModel" ({ cls := "TokenNetsModel", name := "keepTried", desc := "(II)V" } : Jvm.MethodName) ({ cls := "TokenNetsModel", name := "keepTried", desc := "(II)V" } : Jvm.MethodName))), (54, (Jvm.Cond.selects "TokenNetsModel" ({ cls := "TokenNetsModel", name := "isRepeated", desc := "(I)Z" } : Jvm.MethodName) ({ cls := "TokenNetsModel", name := "isRepeated", desc := "(I)Z" } : Jvm.MethodName))), (76, (Jvm.Cond.initialized "TokenNetsModel")), (771, (Jvm.Cond.fieldLink "TokenNetsModel" (7 : Nat) "TokenNetsModel" "state" "[I")), (778, (Jvm.Cond.fieldLink "TokenNetsModel" (25 : Nat) "TokenNetsModel" "marks" "[I")), (779, (Jvm.Cond.fieldLink "TokenNetsModel" (28 : Nat) "TokenNetsModel" "levels" "[I")), (781, (Jvm.Cond.fieldLink "TokenNetsModel" (218 : Nat) "TokenNetsModel" "found" "I")), (1063, (Jvm.Cond.methodLink "TokenNetsModel" (228 : Nat) ({ cls := "TokenNetsModel", name := "begins", desc := "()V" } : Jvm.MethodName))), (1065, (Jvm.Cond.instanceMethod ({ cls := "TokenNetsModel", name := "begins", desc := "()V" } : Jvm.MethodName))), (1067, (Jvm.Cond.methodLink "TokenNetsModel" (224 : Nat) ({ cls := "TokenNetsModel", name := "keepTried", desc := "(II)V" } : Jvm.MethodName))), (1069, (Jvm.Cond.instanceMethod ({ cls := "TokenNetsModel", name := "keepTried", desc := "(II)V" } : Jvm.MethodName))), (1099, (Jvm.Cond.code ({ cls := "TokenNetsModel", name := "findTree", desc := "()Z" } : Jvm.MethodName) prog_11_method_69_code (5 : Nat) (Option.some Jvm.ClassFile.FieldType.boolean))), (1100, (Jvm.Cond.methodLink "TokenNetsModel" (240 : Nat) ({ cls := "TokenNetsModel", name := "isRepeated", desc := "(I)Z" } : Jvm.MethodName))), (1102, (Jvm.Cond.instanceMethod ({ cls := "TokenNetsModel", name := "isRepeated", desc := "(I)Z" } : Jvm.MethodName)))]) (by decide +kernel)
set_option maxRecDepth 100000 in
theorem kX9_goTo : y_ok z_mt zX9_goTo = true := x_use (wl := [(36, (Jvm.Cond.selects "TokenNetsModel" ({ cls := "TokenNetsModel", name := "findSets", desc := "()V" } : Jvm.MethodName) ({ cls := "TokenNetsModel", name := "findSets", desc := "()V" } : Jvm.MethodName))), (37, (Jvm.Cond.selects "TokenNetsModel" ({ cls := "TokenNetsModel", name := "codes", desc := "()I" } : Jvm.MethodName) ({ cls := "TokenNetsModel", name := "codes", desc := "()I" } : Jvm.MethodName))), (76, (Jvm.Cond.initialized "TokenNetsModel")), (1009, (Jvm.Cond.code ({ cls := "TokenNetsModel", name := "goTo", desc := "(I)I" } : Jvm.MethodName) prog_11_method_50_code (4 : Nat) (Option.some Jvm.ClassFile.FieldType.int))), (1010, (Jvm.Cond.methodLink "TokenNetsModel" (192 : Nat) ({ cls := "TokenNetsModel", name := "findSets", desc := "()V" } : Jvm.MethodName))), (1012, (Jvm.Cond.instanceMethod ({ cls := "TokenNetsModel", name := "findSets", desc := "()V" } : Jvm.MethodName))), (1014, (Jvm.Cond.methodLink "TokenNetsModel" (176 : Nat) ({ cls := "TokenNetsModel", name := "codes", desc := "()I" } : Jvm.MethodName))), (1016, (Jvm.Cond.instanceMethod ({ cls := "TokenNetsModel", name := "codes", desc := "()I" } : Jvm.MethodName)))]) (by decide +kernel)
set_option maxRecDepth 100000 in
theorem kX9_greatest : y_ok z_mt zX9_greatest = true := x_use (wl := [(771, (Jvm.Cond.fieldLink "TokenNetsModel" (7 : Nat) "TokenNetsModel" "state" "[I")), (1046, (Jvm.Cond.code ({ cls := "TokenNetsModel", name := "greatest", desc := "(IZ)I" } : Jvm.MethodName) prog_11_method_54_code (6 : Nat) (Option.some Jvm.ClassFile.FieldType.int)))]) (by decide +kernel)
set_option maxRecDepth 100000 in
theorem kX9_growth : y_ok z_mt zX9_growth = true := x_use (wl := [(29, (Jvm.Cond.selects "TokenNetsModel" ({ cls := "TokenNetsModel", name := "movesBy", desc := "([IIZ)I" } : Jvm.MethodName) ({ cls := "TokenNetsModel", name := "movesBy", desc := "([IIZ)I" } : Jvm.MethodName))), (53, (Jvm.Cond.selects "TokenNetsModel" ({ cls := "TokenNetsModel", name := "findTree", desc := "()Z" } : Jvm.MethodName) ({ cls := "TokenNetsModel", name := "findTree", desc := "()Z" } : Jvm.MethodName))), (76, (Jvm.Cond.initialized "TokenNetsModel")), (771, (Jvm.Cond.fieldLink "TokenNetsModel" (7 : Nat) "TokenNetsModel" "state" "[I")), (778, (Jvm.Cond.fieldLink "TokenNetsModel" (25 : Nat) "TokenNetsModel" "marks" "[I")), (779, (Jvm.Cond.fieldLink "TokenNetsModel" (28 : Nat) "TokenNetsModel" "levels" "[I")), (781, (Jvm.Cond.fieldLink "TokenNetsModel" (218 : Nat) "TokenNetsModel" "found" "I")), (843, (Jvm.Cond.methodLink "TokenNetsModel" (58 : Nat) ({ cls := "TokenNetsModel", name := "within", desc := "(III)Z" } : Jvm.MethodName))), (844, (Jvm.Cond.static ({ cls := "TokenNetsModel", name := "within", desc := "(III)Z" } : Jvm.MethodName))), (918, (Jvm.Cond.methodLink "TokenNetsModel" (74 : Nat) ({ cls := "TokenNetsModel", name := "movesBy", desc := "([IIZ)I" } : Jvm.MethodName))), (920, (Jvm.Cond.instanceMethod ({ cls := "TokenNetsModel", name := "movesBy", desc := "([IIZ)I" } : Jvm.MethodName))), (1079, (Jvm.Cond.constant "TokenNetsModel" (217 : Nat) (1000000000 : Int32))), (1095, (Jvm.Cond.code ({ cls := "TokenNetsModel", name := "growth", desc := "(I)I" } : Jvm.MethodName) prog_11_method_70_code (7 : Nat) (Option.some Jvm.ClassFile.FieldType.int))), (1096, (Jvm.Cond.methodLink "TokenNetsModel" (249 : Nat) ({ cls := "TokenNetsModel", name := "findTree", desc := "()Z" } : Jvm.MethodName))), (1098, (Jvm.Cond.instanceMethod ({ cls := "TokenNetsModel", name := "findTree", desc := "()Z" } : Jvm.MethodName)))]) (by decide +kernel)
set_option maxRecDepth 100000 in
theorem kX9_isMove : y_ok z_mt zX9_isMove = true := x_use (wl := [(76, (Jvm.Cond.initialized "TokenNetsModel")), (771, (Jvm.Cond.fieldLink "TokenNetsModel" (7 : Nat) "TokenNetsModel" "state" "[I")), (843, (Jvm.Cond.methodLink "TokenNetsModel" (58 : Nat) ({ cls := "TokenNetsModel", name := "within", desc := "(III)Z" } : Jvm.MethodName))), (844, (Jvm.Cond.static ({ cls := "TokenNetsModel", name := "within", desc := "(III)Z" } : Jvm.MethodName))), (868, (Jvm.Cond.code ({ cls := "TokenNetsModel", name := "isMove", desc := "(I)Z" } : Jvm.MethodName) prog_11_method_7_code (2 : Nat) (Option.some Jvm.ClassFile.FieldType.boolean)))]) (by decide +kernel)
set_option maxRecDepth 100000 in
theorem kX9_isPlace : y_ok z_mt zX9_isPlace = true := x_use (wl := [(76, (Jvm.Cond.initialized "TokenNetsModel")), (771, (Jvm.Cond.fieldLink "TokenNetsModel" (7 : Nat) "TokenNetsModel" "state" "[I")), (843, (Jvm.Cond.methodLink "TokenNetsModel" (58 : Nat) ({ cls := "TokenNetsModel", name := "within", desc := "(III)Z" } : Jvm.MethodName))), (844, (Jvm.Cond.static ({ cls := "TokenNetsModel", name := "within", desc := "(III)Z" } : Jvm.MethodName))), (872, (Jvm.Cond.code ({ cls := "TokenNetsModel", name := "isPlace", desc := "(I)Z" } : Jvm.MethodName) prog_11_method_6_code (2 : Nat) (Option.some Jvm.ClassFile.FieldType.boolean)))]) (by decide +kernel)
set_option maxRecDepth 100000 in
theorem kX9_isRepeated : y_ok z_mt zX9_isRepeated = true := x_use (wl := [(771, (Jvm.Cond.fieldLink "TokenNetsModel" (7 : Nat) "TokenNetsModel" "state" "[I")), (780, (Jvm.Cond.fieldLink "TokenNetsModel" (31 : Nat) "TokenNetsModel" "above" "[I")), (1103, (Jvm.Cond.code ({ cls := "TokenNetsModel", name := "isRepeated", desc := "(I)Z" } : Jvm.MethodName) prog_11_method_66_code (6 : Nat) (Option.some Jvm.ClassFile.FieldType.boolean)))]) (by decide +kernel)
set_option maxRecDepth 100000 in
theorem kX9_keepTried : y_ok z_mt zX9_keepTried = true := x_use (wl := [(771, (Jvm.Cond.fieldLink "TokenNetsModel" (7 : Nat) "TokenNetsModel" "state" "[I")), (778, (Jvm.Cond.fieldLink "TokenNetsModel" (25 : Nat) "TokenNetsModel" "marks" "[I")), (779, (Jvm.Cond.fieldLink "TokenNetsModel" (28 : Nat) "TokenNetsModel" "levels" "[I")), (780, (Jvm.Cond.fieldLink "TokenNetsModel" (31 : Nat) "TokenNetsModel" "above" "[I")), (781, (Jvm.Cond.fieldLink "TokenNetsModel" (218 : Nat) "TokenNetsModel" "found" "I")), (782, (Jvm.Cond.fieldLink "TokenNetsModel" (34 : Nat) "TokenNetsModel" "tried" "[I")), (1070, (Jvm.Cond.code ({ cls := "TokenNetsModel", name := "keepTried", desc := "(II)V" } : Jvm.MethodName) prog_11_method_61_code (4 : Nat) (Option.none : Option Jvm.ClassFile.FieldType)))]) (by decide +kernel)
set_option maxRecDepth 100000 in
theorem kX9_kept : y_ok z_mt zX9_kept = true := x_use (wl := [(19, (Jvm.Cond.selects "TokenNetsModel" ({ cls := "TokenNetsModel", name := "isPlace", desc := "(I)Z" } : Jvm.MethodName) ({ cls := "TokenNetsModel", name := "isPlace", desc := "(I)Z" } : Jvm.MethodName))), (35, (Jvm.Cond.selects "TokenNetsModel" ({ cls := "TokenNetsModel", name := "goTo", desc := "(I)I" } : Jvm.MethodName) ({ cls := "TokenNetsModel", name := "goTo", desc := "(I)I" } : Jvm.MethodName))), (76, (Jvm.Cond.initialized "TokenNetsModel")), (771, (Jvm.Cond.fieldLink "TokenNetsModel" (7 : Nat) "TokenNetsModel" "state" "[I")), (783, (Jvm.Cond.fieldLink "TokenNetsModel" (37 : Nat) "TokenNetsModel" "weights" "[I")), (869, (Jvm.Cond.methodLink "TokenNetsModel" (92 : Nat) ({ cls := "TokenNetsModel", name := "isPlace", desc := "(I)Z" } : Jvm.MethodName))), (871, (Jvm.Cond.instanceMethod ({ cls := "TokenNetsModel", name := "isPlace", desc := "(I)Z" } : Jvm.MethodName))), (1001, (Jvm.Cond.code ({ cls := "TokenNetsModel", name := "kept", desc := "(II)I" } : Jvm.MethodName) prog_11_method_51_code (5 : Nat) (Option.some Jvm.ClassFile.FieldType.int))), (1002, (Jvm.Cond.methodLink "TokenNetsModel" (198 : Nat) ({ cls := "TokenNetsModel", name := "keptMany", desc := "()I" } : Jvm.MethodName))), (1003, (Jvm.Cond.instanceMethod ({ cls := "TokenNetsModel", name := "keptMany", desc := "()I" } : Jvm.MethodName))), (1004, (Jvm.Cond.selects "TokenNetsModel" ({ cls := "TokenNetsModel", name := "keptMany", desc := "()I" } : Jvm.MethodName) ({ cls := "TokenNetsModel", name := "keptMany", desc := "()I" } : Jvm.MethodName))), (1006, (Jvm.Cond.methodLink "TokenNetsModel" (201 : Nat) ({ cls := "TokenNetsModel", name := "goTo", desc := "(I)I" } : Jvm.MethodName))), (1008, (Jvm.Cond.instanceMethod ({ cls := "TokenNetsModel", name := "goTo", desc := "(I)I" } : Jvm.MethodName)))]) (by decide +kernel)
set_option maxRecDepth 100000 in
theorem kX9_keptMany : y_ok z_mt zX9_keptMany = true := x_use (wl := [(35, (Jvm.Cond.selects "TokenNetsModel" ({ cls := "TokenNetsModel", name := "goTo", desc := "(I)I" } : Jvm.MethodName) ({ cls := "TokenNetsModel", name := "goTo", desc := "(I)I" } : Jvm.MethodName))), (76, (Jvm.Cond.initialized "TokenNetsModel")), (1005, (Jvm.Cond.code ({ cls := "TokenNetsModel", name := "keptMany", desc := "()I" } : Jvm.MethodName) prog_11_method_52_code (1 : Nat) (Option.some Jvm.ClassFile.FieldType.int))), (1006, (Jvm.Cond.methodLink "TokenNetsModel" (201 : Nat) ({ cls := "TokenNetsModel", name := "goTo", desc := "(I)I" } : Jvm.MethodName))), (1008, (Jvm.Cond.instanceMethod ({ cls := "TokenNetsModel", name := "goTo", desc := "(I)I" } : Jvm.MethodName)))]) (by decide +kernel)
set_option maxRecDepth 100000 in
theorem kX9_make : y_ok z_mt zX9_make = true := x_use (wl := [(16, (Jvm.Cond.selects "TokenNetsModel" ({ cls := "TokenNetsModel", name := "record", desc := "()V" } : Jvm.MethodName) ({ cls := "TokenNetsModel", name := "record", desc := "()V" } : Jvm.MethodName))), (25, (Jvm.Cond.selects "TokenNetsModel" ({ cls := "TokenNetsModel", name := "whyNotMade", desc := "(I)I" } : Jvm.MethodName) ({ cls := "TokenNetsModel", name := "whyNotMade", desc := "(I)I" } : Jvm.MethodName))), (28, (Jvm.Cond.selects "TokenNetsModel" ({ cls := "TokenNetsModel", name := "movesNow", desc := "()I" } : Jvm.MethodName) ({ cls := "TokenNetsModel", name := "movesNow", desc := "()I" } : Jvm.MethodName))), (76, (Jvm.Cond.initialized "TokenNetsModel")), (846, (Jvm.Cond.methodLink "TokenNetsModel" (82 : Nat) ({ cls := "TokenNetsModel", name := "record", desc := "()V" } : Jvm.MethodName))), (848, (Jvm.Cond.instanceMethod ({ cls := "TokenNetsModel", name := "record", desc := "()V" } : Jvm.MethodName))), (900, (Jvm.Cond.code ({ cls := "TokenNetsModel", name := "make", desc := "(I)I" } : Jvm.MethodName) prog_11_method_26_code (3 : Nat) (Option.some Jvm.ClassFile.FieldType.int))), (901, (Jvm.Cond.methodLink "TokenNetsModel" (105 : Nat) ({ cls := "TokenNetsModel", name := "whyNotMade", desc := "(I)I" } : Jvm.MethodName))), (903, (Jvm.Cond.instanceMethod ({ cls := "TokenNetsModel", name := "whyNotMade", desc := "(I)I" } : Jvm.MethodName))), (914, (Jvm.Cond.methodLink "TokenNetsModel" (112 : Nat) ({ cls := "TokenNetsModel", name := "movesNow", desc := "()I" } : Jvm.MethodName))), (916, (Jvm.Cond.instanceMethod ({ cls := "TokenNetsModel", name := "movesNow", desc := "()I" } : Jvm.MethodName)))]) (by decide +kernel)
set_option maxRecDepth 100000 in
theorem kX9_mean : y_ok z_mt zX9_mean = true := x_use (wl := [(33, (Jvm.Cond.selects "TokenNetsModel" ({ cls := "TokenNetsModel", name := "allTokens", desc := "()I" } : Jvm.MethodName) ({ cls := "TokenNetsModel", name := "allTokens", desc := "()I" } : Jvm.MethodName))), (76, (Jvm.Cond.initialized "TokenNetsModel")), (771, (Jvm.Cond.fieldLink "TokenNetsModel" (7 : Nat) "TokenNetsModel" "state" "[I")), (843, (Jvm.Cond.methodLink "TokenNetsModel" (58 : Nat) ({ cls := "TokenNetsModel", name := "within", desc := "(III)Z" } : Jvm.MethodName))), (844, (Jvm.Cond.static ({ cls := "TokenNetsModel", name := "within", desc := "(III)Z" } : Jvm.MethodName))), (964, (Jvm.Cond.methodLink "TokenNetsModel" (140 : Nat) ({ cls := "TokenNetsModel", name := "allTokens", desc := "()I" } : Jvm.MethodName))), (966, (Jvm.Cond.instanceMethod ({ cls := "TokenNetsModel", name := "allTokens", desc := "()I" } : Jvm.MethodName))), (987, (Jvm.Cond.code ({ cls := "TokenNetsModel", name := "mean", desc := "(I)J" } : Jvm.MethodName) prog_11_method_42_code (6 : Nat) (Option.some Jvm.ClassFile.FieldType.long))), (988, (Jvm.Cond.constantLong "TokenNetsModel" (168 : Nat) (-2 : Int64))), (989, (Jvm.Cond.constantLong "TokenNetsModel" (170 : Nat) (9007199254740992 : Int64))), (990, (Jvm.Cond.constantLong "TokenNetsModel" (149 : Nat) (4503599627370496 : Int64))), (991, (Jvm.Cond.constantLong "TokenNetsModel" (162 : Nat) (1023 : Int64)))]) (by decide +kernel)
set_option maxRecDepth 100000 in
theorem kX9_move : y_ok z_mt zX9_move = true := x_use (wl := [(16, (Jvm.Cond.selects "TokenNetsModel" ({ cls := "TokenNetsModel", name := "record", desc := "()V" } : Jvm.MethodName) ({ cls := "TokenNetsModel", name := "record", desc := "()V" } : Jvm.MethodName))), (76, (Jvm.Cond.initialized "TokenNetsModel")), (771, (Jvm.Cond.fieldLink "TokenNetsModel" (7 : Nat) "TokenNetsModel" "state" "[I")), (846, (Jvm.Cond.methodLink "TokenNetsModel" (82 : Nat) ({ cls := "TokenNetsModel", name := "record", desc := "()V" } : Jvm.MethodName))), (848, (Jvm.Cond.instanceMethod ({ cls := "TokenNetsModel", name := "record", desc := "()V" } : Jvm.MethodName))), (860, (Jvm.Cond.code ({ cls := "TokenNetsModel", name := "move", desc := "()I" } : Jvm.MethodName) prog_11_method_19_code (1 : Nat) (Option.some Jvm.ClassFile.FieldType.int)))]) (by decide +kernel)
set_option maxRecDepth 100000 in
theorem kX9_moves : y_ok z_mt zX9_moves = true := x_use (wl := [(852, (Jvm.Cond.code ({ cls := "TokenNetsModel", name := "moves", desc := "([II[II)V" } : Jvm.MethodName) prog_11_method_3_code (5 : Nat) (Option.none : Option Jvm.ClassFile.FieldType)))]) (by decide +kernel)
set_option maxRecDepth 100000 in
theorem kX9_movesBy : y_ok z_mt zX9_movesBy = true := x_use (wl := [(771, (Jvm.Cond.fieldLink "TokenNetsModel" (7 : Nat) "TokenNetsModel" "state" "[I")), (921, (Jvm.Cond.code ({ cls := "TokenNetsModel", name := "movesBy", desc := "([IIZ)I" } : Jvm.MethodName) prog_11_method_11_code (6 : Nat) (Option.some Jvm.ClassFile.FieldType.int)))]) (by decide +kernel)
end
section
set_option maxRecDepth 100000 in
theorem kX9_movesNow : y_ok z_mt zX9_movesNow = true := x_use (wl := [(29, (Jvm.Cond.selects "TokenNetsModel" ({ cls := "TokenNetsModel", name := "movesBy", desc := "([IIZ)I" } : Jvm.MethodName) ({ cls := "TokenNetsModel", name := "movesBy", desc := "([IIZ)I" } : Jvm.MethodName))), (76, (Jvm.Cond.initialized "TokenNetsModel")), (771, (Jvm.Cond.fieldLink "TokenNetsModel" (7 : Nat) "TokenNetsModel" "state" "[I")), (917, (Jvm.Cond.code ({ cls := "TokenNetsModel", name := "movesNow", desc := "()I" } : Jvm.MethodName) prog_11_method_12_code (1 : Nat) (Option.some Jvm.ClassFile.FieldType.int))), (918, (Jvm.Cond.methodLink "TokenNetsModel" (74 : Nat) ({ cls := "TokenNetsModel", name := "movesBy", desc := "([IIZ)I" } : Jvm.MethodName))), (920, (Jvm.Cond.instanceMethod ({ cls := "TokenNetsModel", name := "movesBy", desc := "([IIZ)I" } : Jvm.MethodName)))]) (by decide +kernel)
set_option maxRecDepth 100000 in
theorem kX9_ofArc : y_ok z_mt zX9_ofArc = true := x_use (wl := [(18, (Jvm.Cond.selects "TokenNetsModel" ({ cls := "TokenNetsModel", name := "isMove", desc := "(I)Z" } : Jvm.MethodName) ({ cls := "TokenNetsModel", name := "isMove", desc := "(I)Z" } : Jvm.MethodName))), (19, (Jvm.Cond.selects "TokenNetsModel" ({ cls := "TokenNetsModel", name := "isPlace", desc := "(I)Z" } : Jvm.MethodName) ({ cls := "TokenNetsModel", name := "isPlace", desc := "(I)Z" } : Jvm.MethodName))), (76, (Jvm.Cond.initialized "TokenNetsModel")), (865, (Jvm.Cond.methodLink "TokenNetsModel" (88 : Nat) ({ cls := "TokenNetsModel", name := "isMove", desc := "(I)Z" } : Jvm.MethodName))), (867, (Jvm.Cond.instanceMethod ({ cls := "TokenNetsModel", name := "isMove", desc := "(I)Z" } : Jvm.MethodName))), (869, (Jvm.Cond.methodLink "TokenNetsModel" (92 : Nat) ({ cls := "TokenNetsModel", name := "isPlace", desc := "(I)Z" } : Jvm.MethodName))), (871, (Jvm.Cond.instanceMethod ({ cls := "TokenNetsModel", name := "isPlace", desc := "(I)Z" } : Jvm.MethodName))), (959, (Jvm.Cond.code ({ cls := "TokenNetsModel", name := "ofArc", desc := "(III)I" } : Jvm.MethodName) prog_11_method_34_code (4 : Nat) (Option.some Jvm.ClassFile.FieldType.int)))]) (by decide +kernel)
set_option maxRecDepth 100000 in
theorem kX9_ofMove : y_ok z_mt zX9_ofMove = true := x_use (wl := [(18, (Jvm.Cond.selects "TokenNetsModel" ({ cls := "TokenNetsModel", name := "isMove", desc := "(I)Z" } : Jvm.MethodName) ({ cls := "TokenNetsModel", name := "isMove", desc := "(I)Z" } : Jvm.MethodName))), (28, (Jvm.Cond.selects "TokenNetsModel" ({ cls := "TokenNetsModel", name := "movesNow", desc := "()I" } : Jvm.MethodName) ({ cls := "TokenNetsModel", name := "movesNow", desc := "()I" } : Jvm.MethodName))), (76, (Jvm.Cond.initialized "TokenNetsModel")), (771, (Jvm.Cond.fieldLink "TokenNetsModel" (7 : Nat) "TokenNetsModel" "state" "[I")), (865, (Jvm.Cond.methodLink "TokenNetsModel" (88 : Nat) ({ cls := "TokenNetsModel", name := "isMove", desc := "(I)Z" } : Jvm.MethodName))), (867, (Jvm.Cond.instanceMethod ({ cls := "TokenNetsModel", name := "isMove", desc := "(I)Z" } : Jvm.MethodName))), (914, (Jvm.Cond.methodLink "TokenNetsModel" (112 : Nat) ({ cls := "TokenNetsModel", name := "movesNow", desc := "()I" } : Jvm.MethodName))), (916, (Jvm.Cond.instanceMethod ({ cls := "TokenNetsModel", name := "movesNow", desc := "()I" } : Jvm.MethodName))), (947, (Jvm.Cond.code ({ cls := "TokenNetsModel", name := "ofMove", desc := "(II)I" } : Jvm.MethodName) prog_11_method_33_code (3 : Nat) (Option.some Jvm.ClassFile.FieldType.int)))]) (by decide +kernel)
set_option maxRecDepth 100000 in
theorem kX9_ofPlace : y_ok z_mt zX9_ofPlace = true := x_use (wl := [(19, (Jvm.Cond.selects "TokenNetsModel" ({ cls := "TokenNetsModel", name := "isPlace", desc := "(I)Z" } : Jvm.MethodName) ({ cls := "TokenNetsModel", name := "isPlace", desc := "(I)Z" } : Jvm.MethodName))), (76, (Jvm.Cond.initialized "TokenNetsModel")), (771, (Jvm.Cond.fieldLink "TokenNetsModel" (7 : Nat) "TokenNetsModel" "state" "[I")), (869, (Jvm.Cond.methodLink "TokenNetsModel" (92 : Nat) ({ cls := "TokenNetsModel", name := "isPlace", desc := "(I)Z" } : Jvm.MethodName))), (871, (Jvm.Cond.instanceMethod ({ cls := "TokenNetsModel", name := "isPlace", desc := "(I)Z" } : Jvm.MethodName))), (939, (Jvm.Cond.code ({ cls := "TokenNetsModel", name := "ofPlace", desc := "(II)I" } : Jvm.MethodName) prog_11_method_31_code (3 : Nat) (Option.some Jvm.ClassFile.FieldType.int)))]) (by decide +kernel)
set_option maxRecDepth 100000 in
theorem kX9_place : y_ok z_mt zX9_place = true := x_use (wl := [(15, (Jvm.Cond.selects "TokenNetsModel" ({ cls := "TokenNetsModel", name := "whyNoPlace", desc := "(I)I" } : Jvm.MethodName) ({ cls := "TokenNetsModel", name := "whyNoPlace", desc := "(I)I" } : Jvm.MethodName))), (16, (Jvm.Cond.selects "TokenNetsModel" ({ cls := "TokenNetsModel", name := "record", desc := "()V" } : Jvm.MethodName) ({ cls := "TokenNetsModel", name := "record", desc := "()V" } : Jvm.MethodName))), (17, (Jvm.Cond.selects "TokenNetsModel" ({ cls := "TokenNetsModel", name := "placed", desc := "(I)I" } : Jvm.MethodName) ({ cls := "TokenNetsModel", name := "placed", desc := "(I)I" } : Jvm.MethodName))), (76, (Jvm.Cond.initialized "TokenNetsModel")), (838, (Jvm.Cond.code ({ cls := "TokenNetsModel", name := "place", desc := "(I)I" } : Jvm.MethodName) prog_11_method_18_code (3 : Nat) (Option.some Jvm.ClassFile.FieldType.int))), (839, (Jvm.Cond.methodLink "TokenNetsModel" (78 : Nat) ({ cls := "TokenNetsModel", name := "whyNoPlace", desc := "(I)I" } : Jvm.MethodName))), (841, (Jvm.Cond.instanceMethod ({ cls := "TokenNetsModel", name := "whyNoPlace", desc := "(I)I" } : Jvm.MethodName))), (846, (Jvm.Cond.methodLink "TokenNetsModel" (82 : Nat) ({ cls := "TokenNetsModel", name := "record", desc := "()V" } : Jvm.MethodName))), (848, (Jvm.Cond.instanceMethod ({ cls := "TokenNetsModel", name := "record", desc := "()V" } : Jvm.MethodName))), (853, (Jvm.Cond.methodLink "TokenNetsModel" (85 : Nat) ({ cls := "TokenNetsModel", name := "placed", desc := "(I)I" } : Jvm.MethodName))), (855, (Jvm.Cond.instanceMethod ({ cls := "TokenNetsModel", name := "placed", desc := "(I)I" } : Jvm.MethodName)))]) (by decide +kernel)
set_option maxRecDepth 100000 in
theorem kX9_placed : y_ok z_mt zX9_placed = true := x_use (wl := [(771, (Jvm.Cond.fieldLink "TokenNetsModel" (7 : Nat) "TokenNetsModel" "state" "[I")), (856, (Jvm.Cond.code ({ cls := "TokenNetsModel", name := "placed", desc := "(I)I" } : Jvm.MethodName) prog_11_method_17_code (3 : Nat) (Option.some Jvm.ClassFile.FieldType.int)))]) (by decide +kernel)
set_option maxRecDepth 100000 in
theorem kX9_put : y_ok z_mt zX9_put = true := x_use (wl := [(76, (Jvm.Cond.initialized "TokenNetsModel")), (776, (Jvm.Cond.fieldLink "TokenNetsModel" (22 : Nat) "TokenNetsModel" "pad" "[I")), (777, (Jvm.Cond.fieldLink "TokenNetsModel" (146 : Nat) "TokenNetsModel" "padLength" "I")), (843, (Jvm.Cond.methodLink "TokenNetsModel" (58 : Nat) ({ cls := "TokenNetsModel", name := "within", desc := "(III)Z" } : Jvm.MethodName))), (844, (Jvm.Cond.static ({ cls := "TokenNetsModel", name := "within", desc := "(III)Z" } : Jvm.MethodName))), (1119, (Jvm.Cond.code ({ cls := "TokenNetsModel", name := "put", desc := "(J)I" } : Jvm.MethodName) prog_11_method_72_code (8 : Nat) (Option.some Jvm.ClassFile.FieldType.int))), (1120, (Jvm.Cond.constantLong "TokenNetsModel" (252 : Nat) (255 : Int64)))]) (by decide +kernel)
set_option maxRecDepth 100000 in
theorem kX9_reached : y_ok z_mt zX9_reached = true := x_use (wl := [(29, (Jvm.Cond.selects "TokenNetsModel" ({ cls := "TokenNetsModel", name := "movesBy", desc := "([IIZ)I" } : Jvm.MethodName) ({ cls := "TokenNetsModel", name := "movesBy", desc := "([IIZ)I" } : Jvm.MethodName))), (46, (Jvm.Cond.selects "TokenNetsModel" ({ cls := "TokenNetsModel", name := "findReached", desc := "()Z" } : Jvm.MethodName) ({ cls := "TokenNetsModel", name := "findReached", desc := "()Z" } : Jvm.MethodName))), (76, (Jvm.Cond.initialized "TokenNetsModel")), (778, (Jvm.Cond.fieldLink "TokenNetsModel" (25 : Nat) "TokenNetsModel" "marks" "[I")), (781, (Jvm.Cond.fieldLink "TokenNetsModel" (218 : Nat) "TokenNetsModel" "found" "I")), (843, (Jvm.Cond.methodLink "TokenNetsModel" (58 : Nat) ({ cls := "TokenNetsModel", name := "within", desc := "(III)Z" } : Jvm.MethodName))), (844, (Jvm.Cond.static ({ cls := "TokenNetsModel", name := "within", desc := "(III)Z" } : Jvm.MethodName))), (918, (Jvm.Cond.methodLink "TokenNetsModel" (74 : Nat) ({ cls := "TokenNetsModel", name := "movesBy", desc := "([IIZ)I" } : Jvm.MethodName))), (920, (Jvm.Cond.instanceMethod ({ cls := "TokenNetsModel", name := "movesBy", desc := "([IIZ)I" } : Jvm.MethodName))), (1058, (Jvm.Cond.code ({ cls := "TokenNetsModel", name := "reached", desc := "(I)I" } : Jvm.MethodName) prog_11_method_64_code (6 : Nat) (Option.some Jvm.ClassFile.FieldType.int))), (1059, (Jvm.Cond.methodLink "TokenNetsModel" (237 : Nat) ({ cls := "TokenNetsModel", name := "findReached", desc := "()Z" } : Jvm.MethodName))), (1061, (Jvm.Cond.instanceMethod ({ cls := "TokenNetsModel", name := "findReached", desc := "()Z" } : Jvm.MethodName)))]) (by decide +kernel)
set_option maxRecDepth 100000 in
theorem kX9_readsOrder : y_ok z_mt zX9_readsOrder = true := x_use (wl := [(59, (Jvm.Cond.selects "TokenNetsModel" ({ cls := "TokenNetsModel", name := "character", desc := "(I)I" } : Jvm.MethodName) ({ cls := "TokenNetsModel", name := "character", desc := "(I)I" } : Jvm.MethodName))), (76, (Jvm.Cond.initialized "TokenNetsModel")), (785, (Jvm.Cond.fieldLink "TokenNetsModel" (254 : Nat) "TokenNetsModel" "at" "I")), (786, (Jvm.Cond.fieldLink "TokenNetsModel" (273 : Nat) "TokenNetsModel" "letter" "I")), (787, (Jvm.Cond.fieldLink "TokenNetsModel" (279 : Nat) "TokenNetsModel" "first" "I")), (788, (Jvm.Cond.fieldLink "TokenNetsModel" (285 : Nat) "TokenNetsModel" "second" "I")), (1136, (Jvm.Cond.code ({ cls := "TokenNetsModel", name := "readsOrder", desc := "()Z" } : Jvm.MethodName) prog_11_method_80_code (1 : Nat) (Option.some Jvm.ClassFile.FieldType.boolean))), (1137, (Jvm.Cond.methodLink "TokenNetsModel" (257 : Nat) ({ cls := "TokenNetsModel", name := "character", desc := "(I)I" } : Jvm.MethodName))), (1139, (Jvm.Cond.instanceMethod ({ cls := "TokenNetsModel", name := "character", desc := "(I)I" } : Jvm.MethodName)))]) (by decide +kernel)
set_option maxRecDepth 100000 in
theorem kX9_record : y_ok z_mt zX9_record = true := x_use (wl := [(76, (Jvm.Cond.initialized "TokenNetsModel")), (771, (Jvm.Cond.fieldLink "TokenNetsModel" (7 : Nat) "TokenNetsModel" "state" "[I")), (772, (Jvm.Cond.fieldLink "TokenNetsModel" (13 : Nat) "TokenNetsModel" "history" "[I")), (773, (Jvm.Cond.fieldLink "TokenNetsModel" (50 : Nat) "TokenNetsModel" "recorded" "I")), (849, (Jvm.Cond.code ({ cls := "TokenNetsModel", name := "record", desc := "()V" } : Jvm.MethodName) prog_11_method_5_code (2 : Nat) (Option.none : Option Jvm.ClassFile.FieldType))), (850, (Jvm.Cond.methodLink "TokenNetsModel" (54 : Nat) ({ cls := "TokenNetsModel", name := "moves", desc := "([II[II)V" } : Jvm.MethodName))), (851, (Jvm.Cond.static ({ cls := "TokenNetsModel", name := "moves", desc := "([II[II)V" } : Jvm.MethodName)))]) (by decide +kernel)
set_option maxRecDepth 100000 in
theorem kX9_restore : y_ok z_mt zX9_restore = true := x_use (wl := [(16, (Jvm.Cond.selects "TokenNetsModel" ({ cls := "TokenNetsModel", name := "record", desc := "()V" } : Jvm.MethodName) ({ cls := "TokenNetsModel", name := "record", desc := "()V" } : Jvm.MethodName))), (33, (Jvm.Cond.selects "TokenNetsModel" ({ cls := "TokenNetsModel", name := "allTokens", desc := "()I" } : Jvm.MethodName) ({ cls := "TokenNetsModel", name := "allTokens", desc := "()I" } : Jvm.MethodName))), (76, (Jvm.Cond.initialized "TokenNetsModel")), (771, (Jvm.Cond.fieldLink "TokenNetsModel" (7 : Nat) "TokenNetsModel" "state" "[I")), (774, (Jvm.Cond.fieldLink "TokenNetsModel" (16 : Nat) "TokenNetsModel" "slots" "[I")), (775, (Jvm.Cond.fieldLink "TokenNetsModel" (19 : Nat) "TokenNetsModel" "isSaved" "[I")), (843, (Jvm.Cond.methodLink "TokenNetsModel" (58 : Nat) ({ cls := "TokenNetsModel", name := "within", desc := "(III)Z" } : Jvm.MethodName))), (844, (Jvm.Cond.static ({ cls := "TokenNetsModel", name := "within", desc := "(III)Z" } : Jvm.MethodName))), (846, (Jvm.Cond.methodLink "TokenNetsModel" (82 : Nat) ({ cls := "TokenNetsModel", name := "record", desc := "()V" } : Jvm.MethodName))), (848, (Jvm.Cond.instanceMethod ({ cls := "TokenNetsModel", name := "record", desc := "()V" } : Jvm.MethodName))), (850, (Jvm.Cond.methodLink "TokenNetsModel" (54 : Nat) ({ cls := "TokenNetsModel", name := "moves", desc := "([II[II)V" } : Jvm.MethodName))), (851, (Jvm.Cond.static ({ cls := "TokenNetsModel", name := "moves", desc := "([II[II)V" } : Jvm.MethodName))), (964, (Jvm.Cond.methodLink "TokenNetsModel" (140 : Nat) ({ cls := "TokenNetsModel", name := "allTokens", desc := "()I" } : Jvm.MethodName))), (966, (Jvm.Cond.instanceMethod ({ cls := "TokenNetsModel", name := "allTokens", desc := "()I" } : Jvm.MethodName))), (1184, (Jvm.Cond.code ({ cls := "TokenNetsModel", name := "restore", desc := "(I)I" } : Jvm.MethodName) prog_11_method_88_code (2 : Nat) (Option.some Jvm.ClassFile.FieldType.int)))]) (by decide +kernel)
set_option maxRecDepth 100000 in
theorem kX9_run : y_ok z_mt zX9_run = true := x_use (wl := [(16, (Jvm.Cond.selects "TokenNetsModel" ({ cls := "TokenNetsModel", name := "record", desc := "()V" } : Jvm.MethodName) ({ cls := "TokenNetsModel", name := "record", desc := "()V" } : Jvm.MethodName))), (28, (Jvm.Cond.selects "TokenNetsModel" ({ cls := "TokenNetsModel", name := "movesNow", desc := "()I" } : Jvm.MethodName) ({ cls := "TokenNetsModel", name := "movesNow", desc := "()I" } : Jvm.MethodName))), (76, (Jvm.Cond.initialized "TokenNetsModel")), (843, (Jvm.Cond.methodLink "TokenNetsModel" (58 : Nat) ({ cls := "TokenNetsModel", name := "within", desc := "(III)Z" } : Jvm.MethodName))), (844, (Jvm.Cond.static ({ cls := "TokenNetsModel", name := "within", desc := "(III)Z" } : Jvm.MethodName))), (846, (Jvm.Cond.methodLink "TokenNetsModel" (82 : Nat) ({ cls := "TokenNetsModel", name := "record", desc := "()V" } : Jvm.MethodName))), (848, (Jvm.Cond.instanceMethod ({ cls := "TokenNetsModel", name := "record", desc := "()V" } : Jvm.MethodName))), (914, (Jvm.Cond.methodLink "TokenNetsModel" (112 : Nat) ({ cls := "TokenNetsModel", name := "movesNow", desc := "()I" } : Jvm.MethodName))), (916, (Jvm.Cond.instanceMethod ({ cls := "TokenNetsModel", name := "movesNow", desc := "()I" } : Jvm.MethodName))), (928, (Jvm.Cond.code ({ cls := "TokenNetsModel", name := "run", desc := "(II)I" } : Jvm.MethodName) prog_11_method_28_code (7 : Nat) (Option.some Jvm.ClassFile.FieldType.int))), (929, (Jvm.Cond.constantLong "TokenNetsModel" (119 : Nat) (1103515245 : Int64))), (930, (Jvm.Cond.constantLong "TokenNetsModel" (121 : Nat) (12345 : Int64))), (931, (Jvm.Cond.constantLong "TokenNetsModel" (123 : Nat) (2147483648 : Int64))), (932, (Jvm.Cond.constantLong "TokenNetsModel" (125 : Nat) (65536 : Int64)))]) (by decide +kernel)
set_option maxRecDepth 100000 in
theorem kX9_save : y_ok z_mt zX9_save = true := x_use (wl := [(33, (Jvm.Cond.selects "TokenNetsModel" ({ cls := "TokenNetsModel", name := "allTokens", desc := "()I" } : Jvm.MethodName) ({ cls := "TokenNetsModel", name := "allTokens", desc := "()I" } : Jvm.MethodName))), (76, (Jvm.Cond.initialized "TokenNetsModel")), (771, (Jvm.Cond.fieldLink "TokenNetsModel" (7 : Nat) "TokenNetsModel" "state" "[I")), (774, (Jvm.Cond.fieldLink "TokenNetsModel" (16 : Nat) "TokenNetsModel" "slots" "[I")), (775, (Jvm.Cond.fieldLink "TokenNetsModel" (19 : Nat) "TokenNetsModel" "isSaved" "[I")), (843, (Jvm.Cond.methodLink "TokenNetsModel" (58 : Nat) ({ cls := "TokenNetsModel", name := "within", desc := "(III)Z" } : Jvm.MethodName))), (844, (Jvm.Cond.static ({ cls := "TokenNetsModel", name := "within", desc := "(III)Z" } : Jvm.MethodName))), (850, (Jvm.Cond.methodLink "TokenNetsModel" (54 : Nat) ({ cls := "TokenNetsModel", name := "moves", desc := "([II[II)V" } : Jvm.MethodName))), (851, (Jvm.Cond.static ({ cls := "TokenNetsModel", name := "moves", desc := "([II[II)V" } : Jvm.MethodName))), (964, (Jvm.Cond.methodLink "TokenNetsModel" (140 : Nat) ({ cls := "TokenNetsModel", name := "allTokens", desc := "()I" } : Jvm.MethodName))), (966, (Jvm.Cond.instanceMethod ({ cls := "TokenNetsModel", name := "allTokens", desc := "()I" } : Jvm.MethodName))), (1180, (Jvm.Cond.code ({ cls := "TokenNetsModel", name := "save", desc := "(I)I" } : Jvm.MethodName) prog_11_method_87_code (2 : Nat) (Option.some Jvm.ClassFile.FieldType.int)))]) (by decide +kernel)
set_option maxRecDepth 100000 in
theorem kX9_share : y_ok z_mt zX9_share = true := x_use (wl := [(18, (Jvm.Cond.selects "TokenNetsModel" ({ cls := "TokenNetsModel", name := "isMove", desc := "(I)Z" } : Jvm.MethodName) ({ cls := "TokenNetsModel", name := "isMove", desc := "(I)Z" } : Jvm.MethodName))), (34, (Jvm.Cond.selects "TokenNetsModel" ({ cls := "TokenNetsModel", name := "allMade", desc := "()I" } : Jvm.MethodName) ({ cls := "TokenNetsModel", name := "allMade", desc := "()I" } : Jvm.MethodName))), (76, (Jvm.Cond.initialized "TokenNetsModel")), (771, (Jvm.Cond.fieldLink "TokenNetsModel" (7 : Nat) "TokenNetsModel" "state" "[I")), (865, (Jvm.Cond.methodLink "TokenNetsModel" (88 : Nat) ({ cls := "TokenNetsModel", name := "isMove", desc := "(I)Z" } : Jvm.MethodName))), (867, (Jvm.Cond.instanceMethod ({ cls := "TokenNetsModel", name := "isMove", desc := "(I)Z" } : Jvm.MethodName))), (968, (Jvm.Cond.methodLink "TokenNetsModel" (143 : Nat) ({ cls := "TokenNetsModel", name := "allMade", desc := "()I" } : Jvm.MethodName))), (970, (Jvm.Cond.instanceMethod ({ cls := "TokenNetsModel", name := "allMade", desc := "()I" } : Jvm.MethodName))), (975, (Jvm.Cond.code ({ cls := "TokenNetsModel", name := "share", desc := "(I)I" } : Jvm.MethodName) prog_11_method_40_code (5 : Nat) (Option.some Jvm.ClassFile.FieldType.int))), (983, (Jvm.Cond.constant "TokenNetsModel" (161 : Nat) (8388608 : Int32)))]) (by decide +kernel)
set_option maxRecDepth 100000 in
theorem kX9_tokens : y_ok z_mt zX9_tokens = true := x_use (wl := [(16, (Jvm.Cond.selects "TokenNetsModel" ({ cls := "TokenNetsModel", name := "record", desc := "()V" } : Jvm.MethodName) ({ cls := "TokenNetsModel", name := "record", desc := "()V" } : Jvm.MethodName))), (23, (Jvm.Cond.selects "TokenNetsModel" ({ cls := "TokenNetsModel", name := "whyNoTokens", desc := "(II)I" } : Jvm.MethodName) ({ cls := "TokenNetsModel", name := "whyNoTokens", desc := "(II)I" } : Jvm.MethodName))), (76, (Jvm.Cond.initialized "TokenNetsModel")), (846, (Jvm.Cond.methodLink "TokenNetsModel" (82 : Nat) ({ cls := "TokenNetsModel", name := "record", desc := "()V" } : Jvm.MethodName))), (848, (Jvm.Cond.instanceMethod ({ cls := "TokenNetsModel", name := "record", desc := "()V" } : Jvm.MethodName))), (888, (Jvm.Cond.code ({ cls := "TokenNetsModel", name := "tokens", desc := "(II)I" } : Jvm.MethodName) prog_11_method_24_code (4 : Nat) (Option.some Jvm.ClassFile.FieldType.int))), (889, (Jvm.Cond.methodLink "TokenNetsModel" (99 : Nat) ({ cls := "TokenNetsModel", name := "whyNoTokens", desc := "(II)I" } : Jvm.MethodName))), (891, (Jvm.Cond.instanceMethod ({ cls := "TokenNetsModel", name := "whyNoTokens", desc := "(II)I" } : Jvm.MethodName)))]) (by decide +kernel)
set_option maxRecDepth 100000 in
theorem kX9_tokensIn : y_ok z_mt zX9_tokensIn = true := x_use (wl := [(771, (Jvm.Cond.fieldLink "TokenNetsModel" (7 : Nat) "TokenNetsModel" "state" "[I")), (1054, (Jvm.Cond.code ({ cls := "TokenNetsModel", name := "tokensIn", desc := "(I)I" } : Jvm.MethodName) prog_11_method_55_code (4 : Nat) (Option.some Jvm.ClassFile.FieldType.int)))]) (by decide +kernel)
set_option maxRecDepth 100000 in
theorem kX9_trap : y_ok z_mt zX9_trap = true := x_use (wl := [(43, (Jvm.Cond.selects "TokenNetsModel" ({ cls := "TokenNetsModel", name := "greatest", desc := "(IZ)I" } : Jvm.MethodName) ({ cls := "TokenNetsModel", name := "greatest", desc := "(IZ)I" } : Jvm.MethodName))), (45, (Jvm.Cond.selects "TokenNetsModel" ({ cls := "TokenNetsModel", name := "tokensIn", desc := "(I)I" } : Jvm.MethodName) ({ cls := "TokenNetsModel", name := "tokensIn", desc := "(I)I" } : Jvm.MethodName))), (76, (Jvm.Cond.initialized "TokenNetsModel")), (771, (Jvm.Cond.fieldLink "TokenNetsModel" (7 : Nat) "TokenNetsModel" "state" "[I")), (843, (Jvm.Cond.methodLink "TokenNetsModel" (58 : Nat) ({ cls := "TokenNetsModel", name := "within", desc := "(III)Z" } : Jvm.MethodName))), (844, (Jvm.Cond.static ({ cls := "TokenNetsModel", name := "within", desc := "(III)Z" } : Jvm.MethodName))), (1042, (Jvm.Cond.code ({ cls := "TokenNetsModel", name := "trap", desc := "(II)I" } : Jvm.MethodName) prog_11_method_56_code (4 : Nat) (Option.some Jvm.ClassFile.FieldType.int))), (1043, (Jvm.Cond.methodLink "TokenNetsModel" (208 : Nat) ({ cls := "TokenNetsModel", name := "greatest", desc := "(IZ)I" } : Jvm.MethodName))), (1045, (Jvm.Cond.instanceMethod ({ cls := "TokenNetsModel", name := "greatest", desc := "(IZ)I" } : Jvm.MethodName))), (1051, (Jvm.Cond.methodLink "TokenNetsModel" (211 : Nat) ({ cls := "TokenNetsModel", name := "tokensIn", desc := "(I)I" } : Jvm.MethodName))), (1053, (Jvm.Cond.instanceMethod ({ cls := "TokenNetsModel", name := "tokensIn", desc := "(I)I" } : Jvm.MethodName)))]) (by decide +kernel)
set_option maxRecDepth 100000 in
theorem kX9_undo : y_ok z_mt zX9_undo = true := x_use (wl := [(76, (Jvm.Cond.initialized "TokenNetsModel")), (771, (Jvm.Cond.fieldLink "TokenNetsModel" (7 : Nat) "TokenNetsModel" "state" "[I")), (772, (Jvm.Cond.fieldLink "TokenNetsModel" (13 : Nat) "TokenNetsModel" "history" "[I")), (773, (Jvm.Cond.fieldLink "TokenNetsModel" (50 : Nat) "TokenNetsModel" "recorded" "I")), (850, (Jvm.Cond.methodLink "TokenNetsModel" (54 : Nat) ({ cls := "TokenNetsModel", name := "moves", desc := "([II[II)V" } : Jvm.MethodName))), (851, (Jvm.Cond.static ({ cls := "TokenNetsModel", name := "moves", desc := "([II[II)V" } : Jvm.MethodName))), (1176, (Jvm.Cond.code ({ cls := "TokenNetsModel", name := "undo", desc := "()I" } : Jvm.MethodName) prog_11_method_86_code (1 : Nat) (Option.some Jvm.ClassFile.FieldType.int)))]) (by decide +kernel)
set_option maxRecDepth 100000 in
theorem kX9_whyNoPlace : y_ok z_mt zX9_whyNoPlace = true := x_use (wl := [(76, (Jvm.Cond.initialized "TokenNetsModel")), (771, (Jvm.Cond.fieldLink "TokenNetsModel" (7 : Nat) "TokenNetsModel" "state" "[I")), (842, (Jvm.Cond.code ({ cls := "TokenNetsModel", name := "whyNoPlace", desc := "(I)I" } : Jvm.MethodName) prog_11_method_16_code (2 : Nat) (Option.some Jvm.ClassFile.FieldType.int))), (843, (Jvm.Cond.methodLink "TokenNetsModel" (58 : Nat) ({ cls := "TokenNetsModel", name := "within", desc := "(III)Z" } : Jvm.MethodName))), (844, (Jvm.Cond.static ({ cls := "TokenNetsModel", name := "within", desc := "(III)Z" } : Jvm.MethodName)))]) (by decide +kernel)
set_option maxRecDepth 100000 in
theorem kX9_whyNoTokens : y_ok z_mt zX9_whyNoTokens = true := x_use (wl := [(19, (Jvm.Cond.selects "TokenNetsModel" ({ cls := "TokenNetsModel", name := "isPlace", desc := "(I)Z" } : Jvm.MethodName) ({ cls := "TokenNetsModel", name := "isPlace", desc := "(I)Z" } : Jvm.MethodName))), (76, (Jvm.Cond.initialized "TokenNetsModel")), (843, (Jvm.Cond.methodLink "TokenNetsModel" (58 : Nat) ({ cls := "TokenNetsModel", name := "within", desc := "(III)Z" } : Jvm.MethodName))), (844, (Jvm.Cond.static ({ cls := "TokenNetsModel", name := "within", desc := "(III)Z" } : Jvm.MethodName))), (869, (Jvm.Cond.methodLink "TokenNetsModel" (92 : Nat) ({ cls := "TokenNetsModel", name := "isPlace", desc := "(I)Z" } : Jvm.MethodName))), (871, (Jvm.Cond.instanceMethod ({ cls := "TokenNetsModel", name := "isPlace", desc := "(I)Z" } : Jvm.MethodName))), (892, (Jvm.Cond.code ({ cls := "TokenNetsModel", name := "whyNoTokens", desc := "(II)I" } : Jvm.MethodName) prog_11_method_22_code (3 : Nat) (Option.some Jvm.ClassFile.FieldType.int)))]) (by decide +kernel)
set_option maxRecDepth 100000 in
theorem kX9_whyNotMade : y_ok z_mt zX9_whyNotMade = true := x_use (wl := [(18, (Jvm.Cond.selects "TokenNetsModel" ({ cls := "TokenNetsModel", name := "isMove", desc := "(I)Z" } : Jvm.MethodName) ({ cls := "TokenNetsModel", name := "isMove", desc := "(I)Z" } : Jvm.MethodName))), (76, (Jvm.Cond.initialized "TokenNetsModel")), (771, (Jvm.Cond.fieldLink "TokenNetsModel" (7 : Nat) "TokenNetsModel" "state" "[I")), (865, (Jvm.Cond.methodLink "TokenNetsModel" (88 : Nat) ({ cls := "TokenNetsModel", name := "isMove", desc := "(I)Z" } : Jvm.MethodName))), (867, (Jvm.Cond.instanceMethod ({ cls := "TokenNetsModel", name := "isMove", desc := "(I)Z" } : Jvm.MethodName))), (904, (Jvm.Cond.code ({ cls := "TokenNetsModel", name := "whyNotMade", desc := "(I)I" } : Jvm.MethodName) prog_11_method_25_code (2 : Nat) (Option.some Jvm.ClassFile.FieldType.int)))]) (by decide +kernel)
set_option maxRecDepth 100000 in
theorem kX9_wipe : y_ok z_mt zX9_wipe = true := x_use (wl := [(777, (Jvm.Cond.fieldLink "TokenNetsModel" (146 : Nat) "TokenNetsModel" "padLength" "I")), (1124, (Jvm.Cond.code ({ cls := "TokenNetsModel", name := "wipe", desc := "()I" } : Jvm.MethodName) prog_11_method_73_code (2 : Nat) (Option.some Jvm.ClassFile.FieldType.int)))]) (by decide +kernel)
set_option maxRecDepth 100000 in
theorem kX9_within : y_ok z_mt zX9_within = true := x_use (wl := [(845, (Jvm.Cond.code ({ cls := "TokenNetsModel", name := "within", desc := "(III)Z" } : Jvm.MethodName) prog_11_method_4_code (3 : Nat) (Option.some Jvm.ClassFile.FieldType.boolean)))]) (by decide +kernel)
set_option maxRecDepth 100000 in
theorem kJ6_bitCount_0f7a4 : y_ok z_mt zJ6_bitCount_0f7a4 = true := x_use (wl := [(410, (Jvm.Cond.code ({ cls := "java/lang/Integer", name := "bitCount", desc := "(I)I" } : Jvm.MethodName) prog_13_method_49_code (1 : Nat) (Option.some Jvm.ClassFile.FieldType.int))), (411, (Jvm.Cond.constant "java/lang/Integer" (265 : Nat) (1431655765 : Int32))), (412, (Jvm.Cond.constant "java/lang/Integer" (266 : Nat) (858993459 : Int32))), (413, (Jvm.Cond.constant "java/lang/Integer" (267 : Nat) (252645135 : Int32)))]) (by decide +kernel)
set_option maxRecDepth 100000 in
theorem kJ7_fill_53178 : y_ok z_mt zJ7_fill_53178 = true := x_use (wl := [(584, (Jvm.Cond.code ({ cls := "java/util/Arrays", name := "fill", desc := "([II)V" } : Jvm.MethodName) prog_16_method_103_code (4 : Nat) (Option.none : Option Jvm.ClassFile.FieldType)))]) (by decide +kernel)
end
section
set_option maxRecDepth 100000 in
theorem kL_0 : y_ch z_mt zL_law zL_p0 = true := x_usec (wl := [(68, (Jvm.Cond.initialized "TokenNets")), (76, (Jvm.Cond.initialized "TokenNetsModel")), (82, (Jvm.Cond.classLink "TokenNetsLaw" (7 : Nat) "TokenNets")), (83, (Jvm.Cond.instantiable "TokenNets" (8 : Nat))), (84, (Jvm.Cond.methodLink "TokenNetsLaw" (9 : Nat) ({ cls := "TokenNets", name := "<init>", desc := "()V" } : Jvm.MethodName))), (85, (Jvm.Cond.instanceMethod ({ cls := "TokenNets", name := "<init>", desc := "()V" } : Jvm.MethodName))), (317, (Jvm.Cond.methodLink "TokenNetsLaw" (13 : Nat) ({ cls := "TokenNets", name := "place", desc := "(I)I" } : Jvm.MethodName))), (318, (Jvm.Cond.instanceMethod ({ cls := "TokenNets", name := "place", desc := "(I)I" } : Jvm.MethodName))), (319, (Jvm.Cond.selects "TokenNets" ({ cls := "TokenNets", name := "place", desc := "(I)I" } : Jvm.MethodName) ({ cls := "TokenNets", name := "place", desc := "(I)I" } : Jvm.MethodName))), (343, (Jvm.Cond.methodLink "TokenNetsLaw" (18 : Nat) ({ cls := "TokenNets", name := "move", desc := "()I" } : Jvm.MethodName))), (344, (Jvm.Cond.instanceMethod ({ cls := "TokenNets", name := "move", desc := "()I" } : Jvm.MethodName))), (345, (Jvm.Cond.selects "TokenNets" ({ cls := "TokenNets", name := "move", desc := "()I" } : Jvm.MethodName) ({ cls := "TokenNets", name := "move", desc := "()I" } : Jvm.MethodName))), (765, (Jvm.Cond.classLink "TokenNetsLaw" (10 : Nat) "TokenNetsModel")), (766, (Jvm.Cond.instantiable "TokenNetsModel" (21 : Nat))), (767, (Jvm.Cond.methodLink "TokenNetsLaw" (12 : Nat) ({ cls := "TokenNetsModel", name := "<init>", desc := "()V" } : Jvm.MethodName))), (768, (Jvm.Cond.instanceMethod ({ cls := "TokenNetsModel", name := "<init>", desc := "()V" } : Jvm.MethodName))), (835, (Jvm.Cond.methodLink "TokenNetsLaw" (17 : Nat) ({ cls := "TokenNetsModel", name := "place", desc := "(I)I" } : Jvm.MethodName))), (836, (Jvm.Cond.instanceMethod ({ cls := "TokenNetsModel", name := "place", desc := "(I)I" } : Jvm.MethodName))), (837, (Jvm.Cond.selects "TokenNetsModel" ({ cls := "TokenNetsModel", name := "place", desc := "(I)I" } : Jvm.MethodName) ({ cls := "TokenNetsModel", name := "place", desc := "(I)I" } : Jvm.MethodName))), (857, (Jvm.Cond.methodLink "TokenNetsLaw" (22 : Nat) ({ cls := "TokenNetsModel", name := "move", desc := "()I" } : Jvm.MethodName))), (858, (Jvm.Cond.instanceMethod ({ cls := "TokenNetsModel", name := "move", desc := "()I" } : Jvm.MethodName))), (859, (Jvm.Cond.selects "TokenNetsModel" ({ cls := "TokenNetsModel", name := "move", desc := "()I" } : Jvm.MethodName) ({ cls := "TokenNetsModel", name := "move", desc := "()I" } : Jvm.MethodName)))]) (by decide +kernel)
set_option maxRecDepth 100000 in
theorem kL_1 : y_ch z_mt zL_law zL_p1 = true := x_usec (wl := [(68, (Jvm.Cond.initialized "TokenNets")), (76, (Jvm.Cond.initialized "TokenNetsModel")), (351, (Jvm.Cond.methodLink "TokenNetsLaw" (23 : Nat) ({ cls := "TokenNets", name := "arc", desc := "(IIII)I" } : Jvm.MethodName))), (352, (Jvm.Cond.instanceMethod ({ cls := "TokenNets", name := "arc", desc := "(IIII)I" } : Jvm.MethodName))), (353, (Jvm.Cond.selects "TokenNets" ({ cls := "TokenNets", name := "arc", desc := "(IIII)I" } : Jvm.MethodName) ({ cls := "TokenNets", name := "arc", desc := "(IIII)I" } : Jvm.MethodName))), (367, (Jvm.Cond.methodLink "TokenNetsLaw" (28 : Nat) ({ cls := "TokenNets", name := "tokens", desc := "(II)I" } : Jvm.MethodName))), (368, (Jvm.Cond.instanceMethod ({ cls := "TokenNets", name := "tokens", desc := "(II)I" } : Jvm.MethodName))), (369, (Jvm.Cond.selects "TokenNets" ({ cls := "TokenNets", name := "tokens", desc := "(II)I" } : Jvm.MethodName) ({ cls := "TokenNets", name := "tokens", desc := "(II)I" } : Jvm.MethodName))), (861, (Jvm.Cond.methodLink "TokenNetsLaw" (27 : Nat) ({ cls := "TokenNetsModel", name := "arc", desc := "(IIII)I" } : Jvm.MethodName))), (862, (Jvm.Cond.instanceMethod ({ cls := "TokenNetsModel", name := "arc", desc := "(IIII)I" } : Jvm.MethodName))), (863, (Jvm.Cond.selects "TokenNetsModel" ({ cls := "TokenNetsModel", name := "arc", desc := "(IIII)I" } : Jvm.MethodName) ({ cls := "TokenNetsModel", name := "arc", desc := "(IIII)I" } : Jvm.MethodName)))]) (by decide +kernel)
set_option maxRecDepth 100000 in
theorem kL_2 : y_ch z_mt zL_law zL_p2 = true := x_usec (wl := [(68, (Jvm.Cond.initialized "TokenNets")), (76, (Jvm.Cond.initialized "TokenNetsModel")), (375, (Jvm.Cond.methodLink "TokenNetsLaw" (33 : Nat) ({ cls := "TokenNets", name := "make", desc := "(I)I" } : Jvm.MethodName))), (376, (Jvm.Cond.instanceMethod ({ cls := "TokenNets", name := "make", desc := "(I)I" } : Jvm.MethodName))), (377, (Jvm.Cond.selects "TokenNets" ({ cls := "TokenNets", name := "make", desc := "(I)I" } : Jvm.MethodName) ({ cls := "TokenNets", name := "make", desc := "(I)I" } : Jvm.MethodName))), (414, (Jvm.Cond.methodLink "TokenNetsLaw" (37 : Nat) ({ cls := "TokenNets", name := "run", desc := "(II)I" } : Jvm.MethodName))), (415, (Jvm.Cond.instanceMethod ({ cls := "TokenNets", name := "run", desc := "(II)I" } : Jvm.MethodName))), (416, (Jvm.Cond.selects "TokenNets" ({ cls := "TokenNets", name := "run", desc := "(II)I" } : Jvm.MethodName) ({ cls := "TokenNets", name := "run", desc := "(II)I" } : Jvm.MethodName))), (885, (Jvm.Cond.methodLink "TokenNetsLaw" (32 : Nat) ({ cls := "TokenNetsModel", name := "tokens", desc := "(II)I" } : Jvm.MethodName))), (886, (Jvm.Cond.instanceMethod ({ cls := "TokenNetsModel", name := "tokens", desc := "(II)I" } : Jvm.MethodName))), (887, (Jvm.Cond.selects "TokenNetsModel" ({ cls := "TokenNetsModel", name := "tokens", desc := "(II)I" } : Jvm.MethodName) ({ cls := "TokenNetsModel", name := "tokens", desc := "(II)I" } : Jvm.MethodName))), (897, (Jvm.Cond.methodLink "TokenNetsLaw" (36 : Nat) ({ cls := "TokenNetsModel", name := "make", desc := "(I)I" } : Jvm.MethodName))), (898, (Jvm.Cond.instanceMethod ({ cls := "TokenNetsModel", name := "make", desc := "(I)I" } : Jvm.MethodName))), (899, (Jvm.Cond.selects "TokenNetsModel" ({ cls := "TokenNetsModel", name := "make", desc := "(I)I" } : Jvm.MethodName) ({ cls := "TokenNetsModel", name := "make", desc := "(I)I" } : Jvm.MethodName))), (925, (Jvm.Cond.methodLink "TokenNetsLaw" (40 : Nat) ({ cls := "TokenNetsModel", name := "run", desc := "(II)I" } : Jvm.MethodName))), (926, (Jvm.Cond.instanceMethod ({ cls := "TokenNetsModel", name := "run", desc := "(II)I" } : Jvm.MethodName))), (927, (Jvm.Cond.selects "TokenNetsModel" ({ cls := "TokenNetsModel", name := "run", desc := "(II)I" } : Jvm.MethodName) ({ cls := "TokenNetsModel", name := "run", desc := "(II)I" } : Jvm.MethodName)))]) (by decide +kernel)
set_option maxRecDepth 100000 in
theorem kL_3 : y_ch z_mt zL_law zL_p3 = true := x_usec (wl := [(68, (Jvm.Cond.initialized "TokenNets")), (76, (Jvm.Cond.initialized "TokenNetsModel")), (429, (Jvm.Cond.methodLink "TokenNetsLaw" (41 : Nat) ({ cls := "TokenNets", name := "ofPlace", desc := "(II)I" } : Jvm.MethodName))), (430, (Jvm.Cond.instanceMethod ({ cls := "TokenNets", name := "ofPlace", desc := "(II)I" } : Jvm.MethodName))), (431, (Jvm.Cond.selects "TokenNets" ({ cls := "TokenNets", name := "ofPlace", desc := "(II)I" } : Jvm.MethodName) ({ cls := "TokenNets", name := "ofPlace", desc := "(II)I" } : Jvm.MethodName))), (438, (Jvm.Cond.methodLink "TokenNetsLaw" (45 : Nat) ({ cls := "TokenNets", name := "ofMove", desc := "(II)I" } : Jvm.MethodName))), (439, (Jvm.Cond.instanceMethod ({ cls := "TokenNets", name := "ofMove", desc := "(II)I" } : Jvm.MethodName))), (440, (Jvm.Cond.selects "TokenNets" ({ cls := "TokenNets", name := "ofMove", desc := "(II)I" } : Jvm.MethodName) ({ cls := "TokenNets", name := "ofMove", desc := "(II)I" } : Jvm.MethodName))), (936, (Jvm.Cond.methodLink "TokenNetsLaw" (44 : Nat) ({ cls := "TokenNetsModel", name := "ofPlace", desc := "(II)I" } : Jvm.MethodName))), (937, (Jvm.Cond.instanceMethod ({ cls := "TokenNetsModel", name := "ofPlace", desc := "(II)I" } : Jvm.MethodName))), (938, (Jvm.Cond.selects "TokenNetsModel" ({ cls := "TokenNetsModel", name := "ofPlace", desc := "(II)I" } : Jvm.MethodName) ({ cls := "TokenNetsModel", name := "ofPlace", desc := "(II)I" } : Jvm.MethodName))), (944, (Jvm.Cond.methodLink "TokenNetsLaw" (48 : Nat) ({ cls := "TokenNetsModel", name := "ofMove", desc := "(II)I" } : Jvm.MethodName))), (945, (Jvm.Cond.instanceMethod ({ cls := "TokenNetsModel", name := "ofMove", desc := "(II)I" } : Jvm.MethodName))), (946, (Jvm.Cond.selects "TokenNetsModel" ({ cls := "TokenNetsModel", name := "ofMove", desc := "(II)I" } : Jvm.MethodName) ({ cls := "TokenNetsModel", name := "ofMove", desc := "(II)I" } : Jvm.MethodName)))]) (by decide +kernel)
set_option maxRecDepth 100000 in
theorem kL_4 : y_ch z_mt zL_law zL_p4 = true := x_usec (wl := [(68, (Jvm.Cond.initialized "TokenNets")), (76, (Jvm.Cond.initialized "TokenNetsModel")), (452, (Jvm.Cond.methodLink "TokenNetsLaw" (49 : Nat) ({ cls := "TokenNets", name := "ofArc", desc := "(III)I" } : Jvm.MethodName))), (453, (Jvm.Cond.instanceMethod ({ cls := "TokenNets", name := "ofArc", desc := "(III)I" } : Jvm.MethodName))), (454, (Jvm.Cond.selects "TokenNets" ({ cls := "TokenNets", name := "ofArc", desc := "(III)I" } : Jvm.MethodName) ({ cls := "TokenNets", name := "ofArc", desc := "(III)I" } : Jvm.MethodName))), (456, (Jvm.Cond.methodLink "TokenNetsLaw" (54 : Nat) ({ cls := "TokenNets", name := "count", desc := "(I)I" } : Jvm.MethodName))), (457, (Jvm.Cond.instanceMethod ({ cls := "TokenNets", name := "count", desc := "(I)I" } : Jvm.MethodName))), (458, (Jvm.Cond.selects "TokenNets" ({ cls := "TokenNets", name := "count", desc := "(I)I" } : Jvm.MethodName) ({ cls := "TokenNets", name := "count", desc := "(I)I" } : Jvm.MethodName))), (473, (Jvm.Cond.methodLink "TokenNetsLaw" (58 : Nat) ({ cls := "TokenNets", name := "share", desc := "(I)I" } : Jvm.MethodName))), (474, (Jvm.Cond.instanceMethod ({ cls := "TokenNets", name := "share", desc := "(I)I" } : Jvm.MethodName))), (475, (Jvm.Cond.selects "TokenNets" ({ cls := "TokenNets", name := "share", desc := "(I)I" } : Jvm.MethodName) ({ cls := "TokenNets", name := "share", desc := "(I)I" } : Jvm.MethodName))), (956, (Jvm.Cond.methodLink "TokenNetsLaw" (53 : Nat) ({ cls := "TokenNetsModel", name := "ofArc", desc := "(III)I" } : Jvm.MethodName))), (957, (Jvm.Cond.instanceMethod ({ cls := "TokenNetsModel", name := "ofArc", desc := "(III)I" } : Jvm.MethodName))), (958, (Jvm.Cond.selects "TokenNetsModel" ({ cls := "TokenNetsModel", name := "ofArc", desc := "(III)I" } : Jvm.MethodName) ({ cls := "TokenNetsModel", name := "ofArc", desc := "(III)I" } : Jvm.MethodName))), (960, (Jvm.Cond.methodLink "TokenNetsLaw" (57 : Nat) ({ cls := "TokenNetsModel", name := "count", desc := "(I)I" } : Jvm.MethodName))), (961, (Jvm.Cond.instanceMethod ({ cls := "TokenNetsModel", name := "count", desc := "(I)I" } : Jvm.MethodName))), (962, (Jvm.Cond.selects "TokenNetsModel" ({ cls := "TokenNetsModel", name := "count", desc := "(I)I" } : Jvm.MethodName) ({ cls := "TokenNetsModel", name := "count", desc := "(I)I" } : Jvm.MethodName)))]) (by decide +kernel)
end
section
set_option maxRecDepth 100000 in
theorem kL_5 : y_ch z_mt zL_law zL_p5 = true := x_usec (wl := [(68, (Jvm.Cond.initialized "TokenNets")), (76, (Jvm.Cond.initialized "TokenNetsModel")), (481, (Jvm.Cond.methodLink "TokenNetsLaw" (62 : Nat) ({ cls := "TokenNets", name := "mean", desc := "(I)J" } : Jvm.MethodName))), (482, (Jvm.Cond.instanceMethod ({ cls := "TokenNets", name := "mean", desc := "(I)J" } : Jvm.MethodName))), (483, (Jvm.Cond.selects "TokenNets" ({ cls := "TokenNets", name := "mean", desc := "(I)J" } : Jvm.MethodName) ({ cls := "TokenNets", name := "mean", desc := "(I)J" } : Jvm.MethodName))), (492, (Jvm.Cond.methodLink "TokenNetsLaw" (67 : Nat) ({ cls := "TokenNets", name := "kept", desc := "(II)I" } : Jvm.MethodName))), (493, (Jvm.Cond.instanceMethod ({ cls := "TokenNets", name := "kept", desc := "(II)I" } : Jvm.MethodName))), (494, (Jvm.Cond.selects "TokenNets" ({ cls := "TokenNets", name := "kept", desc := "(II)I" } : Jvm.MethodName) ({ cls := "TokenNets", name := "kept", desc := "(II)I" } : Jvm.MethodName))), (549, (Jvm.Cond.methodLink "TokenNetsLaw" (71 : Nat) ({ cls := "TokenNets", name := "keptMany", desc := "()I" } : Jvm.MethodName))), (550, (Jvm.Cond.instanceMethod ({ cls := "TokenNets", name := "keptMany", desc := "()I" } : Jvm.MethodName))), (551, (Jvm.Cond.selects "TokenNets" ({ cls := "TokenNets", name := "keptMany", desc := "()I" } : Jvm.MethodName) ({ cls := "TokenNets", name := "keptMany", desc := "()I" } : Jvm.MethodName))), (972, (Jvm.Cond.methodLink "TokenNetsLaw" (61 : Nat) ({ cls := "TokenNetsModel", name := "share", desc := "(I)I" } : Jvm.MethodName))), (973, (Jvm.Cond.instanceMethod ({ cls := "TokenNetsModel", name := "share", desc := "(I)I" } : Jvm.MethodName))), (974, (Jvm.Cond.selects "TokenNetsModel" ({ cls := "TokenNetsModel", name := "share", desc := "(I)I" } : Jvm.MethodName) ({ cls := "TokenNetsModel", name := "share", desc := "(I)I" } : Jvm.MethodName))), (984, (Jvm.Cond.methodLink "TokenNetsLaw" (66 : Nat) ({ cls := "TokenNetsModel", name := "mean", desc := "(I)J" } : Jvm.MethodName))), (985, (Jvm.Cond.instanceMethod ({ cls := "TokenNetsModel", name := "mean", desc := "(I)J" } : Jvm.MethodName))), (986, (Jvm.Cond.selects "TokenNetsModel" ({ cls := "TokenNetsModel", name := "mean", desc := "(I)J" } : Jvm.MethodName) ({ cls := "TokenNetsModel", name := "mean", desc := "(I)J" } : Jvm.MethodName))), (998, (Jvm.Cond.methodLink "TokenNetsLaw" (70 : Nat) ({ cls := "TokenNetsModel", name := "kept", desc := "(II)I" } : Jvm.MethodName))), (999, (Jvm.Cond.instanceMethod ({ cls := "TokenNetsModel", name := "kept", desc := "(II)I" } : Jvm.MethodName))), (1000, (Jvm.Cond.selects "TokenNetsModel" ({ cls := "TokenNetsModel", name := "kept", desc := "(II)I" } : Jvm.MethodName) ({ cls := "TokenNetsModel", name := "kept", desc := "(II)I" } : Jvm.MethodName)))]) (by decide +kernel)
set_option maxRecDepth 100000 in
theorem kL_6 : y_ch z_mt zL_law zL_p6 = true := x_usec (wl := [(68, (Jvm.Cond.initialized "TokenNets")), (76, (Jvm.Cond.initialized "TokenNetsModel")), (553, (Jvm.Cond.methodLink "TokenNetsLaw" (75 : Nat) ({ cls := "TokenNets", name := "trap", desc := "(II)I" } : Jvm.MethodName))), (554, (Jvm.Cond.instanceMethod ({ cls := "TokenNets", name := "trap", desc := "(II)I" } : Jvm.MethodName))), (555, (Jvm.Cond.selects "TokenNets" ({ cls := "TokenNets", name := "trap", desc := "(II)I" } : Jvm.MethodName) ({ cls := "TokenNets", name := "trap", desc := "(II)I" } : Jvm.MethodName))), (563, (Jvm.Cond.methodLink "TokenNetsLaw" (79 : Nat) ({ cls := "TokenNets", name := "reached", desc := "(I)I" } : Jvm.MethodName))), (564, (Jvm.Cond.instanceMethod ({ cls := "TokenNets", name := "reached", desc := "(I)I" } : Jvm.MethodName))), (565, (Jvm.Cond.selects "TokenNets" ({ cls := "TokenNets", name := "reached", desc := "(I)I" } : Jvm.MethodName) ({ cls := "TokenNets", name := "reached", desc := "(I)I" } : Jvm.MethodName))), (1003, (Jvm.Cond.instanceMethod ({ cls := "TokenNetsModel", name := "keptMany", desc := "()I" } : Jvm.MethodName))), (1004, (Jvm.Cond.selects "TokenNetsModel" ({ cls := "TokenNetsModel", name := "keptMany", desc := "()I" } : Jvm.MethodName) ({ cls := "TokenNetsModel", name := "keptMany", desc := "()I" } : Jvm.MethodName))), (1038, (Jvm.Cond.methodLink "TokenNetsLaw" (74 : Nat) ({ cls := "TokenNetsModel", name := "keptMany", desc := "()I" } : Jvm.MethodName))), (1039, (Jvm.Cond.methodLink "TokenNetsLaw" (78 : Nat) ({ cls := "TokenNetsModel", name := "trap", desc := "(II)I" } : Jvm.MethodName))), (1040, (Jvm.Cond.instanceMethod ({ cls := "TokenNetsModel", name := "trap", desc := "(II)I" } : Jvm.MethodName))), (1041, (Jvm.Cond.selects "TokenNetsModel" ({ cls := "TokenNetsModel", name := "trap", desc := "(II)I" } : Jvm.MethodName) ({ cls := "TokenNetsModel", name := "trap", desc := "(II)I" } : Jvm.MethodName))), (1055, (Jvm.Cond.methodLink "TokenNetsLaw" (82 : Nat) ({ cls := "TokenNetsModel", name := "reached", desc := "(I)I" } : Jvm.MethodName))), (1056, (Jvm.Cond.instanceMethod ({ cls := "TokenNetsModel", name := "reached", desc := "(I)I" } : Jvm.MethodName))), (1057, (Jvm.Cond.selects "TokenNetsModel" ({ cls := "TokenNetsModel", name := "reached", desc := "(I)I" } : Jvm.MethodName) ({ cls := "TokenNetsModel", name := "reached", desc := "(I)I" } : Jvm.MethodName)))]) (by decide +kernel)
set_option maxRecDepth 100000 in
theorem kL_7 : y_ch z_mt zL_law zL_p7 = true := x_usec (wl := [(68, (Jvm.Cond.initialized "TokenNets")), (76, (Jvm.Cond.initialized "TokenNetsModel")), (616, (Jvm.Cond.methodLink "TokenNetsLaw" (83 : Nat) ({ cls := "TokenNets", name := "fewest", desc := "(II)I" } : Jvm.MethodName))), (617, (Jvm.Cond.instanceMethod ({ cls := "TokenNets", name := "fewest", desc := "(II)I" } : Jvm.MethodName))), (618, (Jvm.Cond.selects "TokenNets" ({ cls := "TokenNets", name := "fewest", desc := "(II)I" } : Jvm.MethodName) ({ cls := "TokenNets", name := "fewest", desc := "(II)I" } : Jvm.MethodName))), (624, (Jvm.Cond.methodLink "TokenNetsLaw" (87 : Nat) ({ cls := "TokenNets", name := "growth", desc := "(I)I" } : Jvm.MethodName))), (625, (Jvm.Cond.instanceMethod ({ cls := "TokenNets", name := "growth", desc := "(I)I" } : Jvm.MethodName))), (626, (Jvm.Cond.selects "TokenNets" ({ cls := "TokenNets", name := "growth", desc := "(I)I" } : Jvm.MethodName) ({ cls := "TokenNets", name := "growth", desc := "(I)I" } : Jvm.MethodName))), (662, (Jvm.Cond.methodLink "TokenNetsLaw" (91 : Nat) ({ cls := "TokenNets", name := "bound", desc := "(I)I" } : Jvm.MethodName))), (663, (Jvm.Cond.instanceMethod ({ cls := "TokenNets", name := "bound", desc := "(I)I" } : Jvm.MethodName))), (664, (Jvm.Cond.selects "TokenNets" ({ cls := "TokenNets", name := "bound", desc := "(I)I" } : Jvm.MethodName) ({ cls := "TokenNets", name := "bound", desc := "(I)I" } : Jvm.MethodName))), (1088, (Jvm.Cond.methodLink "TokenNetsLaw" (86 : Nat) ({ cls := "TokenNetsModel", name := "fewest", desc := "(II)I" } : Jvm.MethodName))), (1089, (Jvm.Cond.instanceMethod ({ cls := "TokenNetsModel", name := "fewest", desc := "(II)I" } : Jvm.MethodName))), (1090, (Jvm.Cond.selects "TokenNetsModel" ({ cls := "TokenNetsModel", name := "fewest", desc := "(II)I" } : Jvm.MethodName) ({ cls := "TokenNetsModel", name := "fewest", desc := "(II)I" } : Jvm.MethodName))), (1092, (Jvm.Cond.methodLink "TokenNetsLaw" (90 : Nat) ({ cls := "TokenNetsModel", name := "growth", desc := "(I)I" } : Jvm.MethodName))), (1093, (Jvm.Cond.instanceMethod ({ cls := "TokenNetsModel", name := "growth", desc := "(I)I" } : Jvm.MethodName))), (1094, (Jvm.Cond.selects "TokenNetsModel" ({ cls := "TokenNetsModel", name := "growth", desc := "(I)I" } : Jvm.MethodName) ({ cls := "TokenNetsModel", name := "growth", desc := "(I)I" } : Jvm.MethodName))), (1112, (Jvm.Cond.methodLink "TokenNetsLaw" (94 : Nat) ({ cls := "TokenNetsModel", name := "bound", desc := "(I)I" } : Jvm.MethodName))), (1113, (Jvm.Cond.instanceMethod ({ cls := "TokenNetsModel", name := "bound", desc := "(I)I" } : Jvm.MethodName))), (1114, (Jvm.Cond.selects "TokenNetsModel" ({ cls := "TokenNetsModel", name := "bound", desc := "(I)I" } : Jvm.MethodName) ({ cls := "TokenNetsModel", name := "bound", desc := "(I)I" } : Jvm.MethodName)))]) (by decide +kernel)
set_option maxRecDepth 100000 in
theorem kL_8 : y_ch z_mt zL_law zL_p8 = true := x_usec (wl := [(68, (Jvm.Cond.initialized "TokenNets")), (76, (Jvm.Cond.initialized "TokenNetsModel")), (668, (Jvm.Cond.methodLink "TokenNetsLaw" (97 : Nat) ({ cls := "TokenNets", name := "put", desc := "(J)I" } : Jvm.MethodName))), (669, (Jvm.Cond.instanceMethod ({ cls := "TokenNets", name := "put", desc := "(J)I" } : Jvm.MethodName))), (670, (Jvm.Cond.selects "TokenNets" ({ cls := "TokenNets", name := "put", desc := "(J)I" } : Jvm.MethodName) ({ cls := "TokenNets", name := "put", desc := "(J)I" } : Jvm.MethodName))), (679, (Jvm.Cond.methodLink "TokenNetsLaw" (102 : Nat) ({ cls := "TokenNets", name := "wipe", desc := "()I" } : Jvm.MethodName))), (680, (Jvm.Cond.instanceMethod ({ cls := "TokenNets", name := "wipe", desc := "()I" } : Jvm.MethodName))), (681, (Jvm.Cond.selects "TokenNets" ({ cls := "TokenNets", name := "wipe", desc := "()I" } : Jvm.MethodName) ({ cls := "TokenNets", name := "wipe", desc := "()I" } : Jvm.MethodName))), (683, (Jvm.Cond.methodLink "TokenNetsLaw" (106 : Nat) ({ cls := "TokenNets", name := "fault", desc := "()I" } : Jvm.MethodName))), (684, (Jvm.Cond.instanceMethod ({ cls := "TokenNets", name := "fault", desc := "()I" } : Jvm.MethodName))), (685, (Jvm.Cond.selects "TokenNets" ({ cls := "TokenNets", name := "fault", desc := "()I" } : Jvm.MethodName) ({ cls := "TokenNets", name := "fault", desc := "()I" } : Jvm.MethodName))), (714, (Jvm.Cond.methodLink "TokenNetsLaw" (110 : Nat) ({ cls := "TokenNets", name := "carryOut", desc := "()I" } : Jvm.MethodName))), (715, (Jvm.Cond.instanceMethod ({ cls := "TokenNets", name := "carryOut", desc := "()I" } : Jvm.MethodName))), (716, (Jvm.Cond.selects "TokenNets" ({ cls := "TokenNets", name := "carryOut", desc := "()I" } : Jvm.MethodName) ({ cls := "TokenNets", name := "carryOut", desc := "()I" } : Jvm.MethodName))), (1116, (Jvm.Cond.methodLink "TokenNetsLaw" (101 : Nat) ({ cls := "TokenNetsModel", name := "put", desc := "(J)I" } : Jvm.MethodName))), (1117, (Jvm.Cond.instanceMethod ({ cls := "TokenNetsModel", name := "put", desc := "(J)I" } : Jvm.MethodName))), (1118, (Jvm.Cond.selects "TokenNetsModel" ({ cls := "TokenNetsModel", name := "put", desc := "(J)I" } : Jvm.MethodName) ({ cls := "TokenNetsModel", name := "put", desc := "(J)I" } : Jvm.MethodName))), (1121, (Jvm.Cond.methodLink "TokenNetsLaw" (105 : Nat) ({ cls := "TokenNetsModel", name := "wipe", desc := "()I" } : Jvm.MethodName))), (1122, (Jvm.Cond.instanceMethod ({ cls := "TokenNetsModel", name := "wipe", desc := "()I" } : Jvm.MethodName))), (1123, (Jvm.Cond.selects "TokenNetsModel" ({ cls := "TokenNetsModel", name := "wipe", desc := "()I" } : Jvm.MethodName) ({ cls := "TokenNetsModel", name := "wipe", desc := "()I" } : Jvm.MethodName))), (1125, (Jvm.Cond.methodLink "TokenNetsLaw" (109 : Nat) ({ cls := "TokenNetsModel", name := "fault", desc := "()I" } : Jvm.MethodName))), (1126, (Jvm.Cond.instanceMethod ({ cls := "TokenNetsModel", name := "fault", desc := "()I" } : Jvm.MethodName))), (1127, (Jvm.Cond.selects "TokenNetsModel" ({ cls := "TokenNetsModel", name := "fault", desc := "()I" } : Jvm.MethodName) ({ cls := "TokenNetsModel", name := "fault", desc := "()I" } : Jvm.MethodName))), (1185, (Jvm.Cond.constantLong "TokenNetsLaw" (95 : Nat) (4294967295 : Int64)))]) (by decide +kernel)
set_option maxRecDepth 100000 in
theorem kL_9 : y_ch z_mt zL_law zL_p9 = true := x_usec (wl := [(68, (Jvm.Cond.initialized "TokenNets")), (76, (Jvm.Cond.initialized "TokenNetsModel")), (748, (Jvm.Cond.methodLink "TokenNetsLaw" (114 : Nat) ({ cls := "TokenNets", name := "undo", desc := "()I" } : Jvm.MethodName))), (749, (Jvm.Cond.instanceMethod ({ cls := "TokenNets", name := "undo", desc := "()I" } : Jvm.MethodName))), (750, (Jvm.Cond.selects "TokenNets" ({ cls := "TokenNets", name := "undo", desc := "()I" } : Jvm.MethodName) ({ cls := "TokenNets", name := "undo", desc := "()I" } : Jvm.MethodName))), (756, (Jvm.Cond.methodLink "TokenNetsLaw" (118 : Nat) ({ cls := "TokenNets", name := "save", desc := "(I)I" } : Jvm.MethodName))), (757, (Jvm.Cond.instanceMethod ({ cls := "TokenNets", name := "save", desc := "(I)I" } : Jvm.MethodName))), (758, (Jvm.Cond.selects "TokenNets" ({ cls := "TokenNets", name := "save", desc := "(I)I" } : Jvm.MethodName) ({ cls := "TokenNets", name := "save", desc := "(I)I" } : Jvm.MethodName))), (761, (Jvm.Cond.methodLink "TokenNetsLaw" (122 : Nat) ({ cls := "TokenNets", name := "restore", desc := "(I)I" } : Jvm.MethodName))), (762, (Jvm.Cond.instanceMethod ({ cls := "TokenNets", name := "restore", desc := "(I)I" } : Jvm.MethodName))), (763, (Jvm.Cond.selects "TokenNets" ({ cls := "TokenNets", name := "restore", desc := "(I)I" } : Jvm.MethodName) ({ cls := "TokenNets", name := "restore", desc := "(I)I" } : Jvm.MethodName))), (1161, (Jvm.Cond.methodLink "TokenNetsLaw" (113 : Nat) ({ cls := "TokenNetsModel", name := "carryOut", desc := "()I" } : Jvm.MethodName))), (1162, (Jvm.Cond.instanceMethod ({ cls := "TokenNetsModel", name := "carryOut", desc := "()I" } : Jvm.MethodName))), (1163, (Jvm.Cond.selects "TokenNetsModel" ({ cls := "TokenNetsModel", name := "carryOut", desc := "()I" } : Jvm.MethodName) ({ cls := "TokenNetsModel", name := "carryOut", desc := "()I" } : Jvm.MethodName))), (1173, (Jvm.Cond.methodLink "TokenNetsLaw" (117 : Nat) ({ cls := "TokenNetsModel", name := "undo", desc := "()I" } : Jvm.MethodName))), (1174, (Jvm.Cond.instanceMethod ({ cls := "TokenNetsModel", name := "undo", desc := "()I" } : Jvm.MethodName))), (1175, (Jvm.Cond.selects "TokenNetsModel" ({ cls := "TokenNetsModel", name := "undo", desc := "()I" } : Jvm.MethodName) ({ cls := "TokenNetsModel", name := "undo", desc := "()I" } : Jvm.MethodName))), (1177, (Jvm.Cond.methodLink "TokenNetsLaw" (121 : Nat) ({ cls := "TokenNetsModel", name := "save", desc := "(I)I" } : Jvm.MethodName))), (1178, (Jvm.Cond.instanceMethod ({ cls := "TokenNetsModel", name := "save", desc := "(I)I" } : Jvm.MethodName))), (1179, (Jvm.Cond.selects "TokenNetsModel" ({ cls := "TokenNetsModel", name := "save", desc := "(I)I" } : Jvm.MethodName) ({ cls := "TokenNetsModel", name := "save", desc := "(I)I" } : Jvm.MethodName))), (1181, (Jvm.Cond.methodLink "TokenNetsLaw" (125 : Nat) ({ cls := "TokenNetsModel", name := "restore", desc := "(I)I" } : Jvm.MethodName))), (1182, (Jvm.Cond.instanceMethod ({ cls := "TokenNetsModel", name := "restore", desc := "(I)I" } : Jvm.MethodName))), (1183, (Jvm.Cond.selects "TokenNetsModel" ({ cls := "TokenNetsModel", name := "restore", desc := "(I)I" } : Jvm.MethodName) ({ cls := "TokenNetsModel", name := "restore", desc := "(I)I" } : Jvm.MethodName)))]) (by decide +kernel)
end
section
set_option maxRecDepth 100000 in
theorem kL_law : y_okb z_mt zL_law = true := by
  show y_ch z_mt zL_law (zL_p0 ++ (zL_p1 ++ (zL_p2 ++ (zL_p3 ++ (zL_p4 ++ (zL_p5 ++ (zL_p6 ++ (zL_p7 ++ (zL_p8 ++ (zL_p9)))))))))) = true
  unfold y_ch
  simp only [List.all_append, Bool.and_eq_true]
  exact ⟨kL_0, kL_1, kL_2, kL_3, kL_4, kL_5, kL_6, kL_7, kL_8, kL_9⟩
theorem z_mt_ok : ∀ e ∈ z_mt, y_ok z_mt e = true := List.forall_mem_cons.mpr ⟨kX8_init, List.forall_mem_cons.mpr ⟨kX8_arc, List.forall_mem_cons.mpr ⟨kX8_bound, List.forall_mem_cons.mpr ⟨kX8_carryOut, List.forall_mem_cons.mpr ⟨kX8_count, List.forall_mem_cons.mpr ⟨kX8_fault, List.forall_mem_cons.mpr ⟨kX8_fewest, List.forall_mem_cons.mpr ⟨kX8_growth, List.forall_mem_cons.mpr ⟨kX8_kept, List.forall_mem_cons.mpr ⟨kX8_keptMany, List.forall_mem_cons.mpr ⟨kX8_make, List.forall_mem_cons.mpr ⟨kX8_mean, List.forall_mem_cons.mpr ⟨kX8_move, List.forall_mem_cons.mpr ⟨kX8_ofArc, List.forall_mem_cons.mpr ⟨kX8_ofMove, List.forall_mem_cons.mpr ⟨kX8_ofPlace, List.forall_mem_cons.mpr ⟨kX8_place, List.forall_mem_cons.mpr ⟨kX8_put, List.forall_mem_cons.mpr ⟨kX8_reached, List.forall_mem_cons.mpr ⟨kX8_restore, List.forall_mem_cons.mpr ⟨kX8_run, List.forall_mem_cons.mpr ⟨kX8_save, List.forall_mem_cons.mpr ⟨kX8_share, List.forall_mem_cons.mpr ⟨kX8_tokens, List.forall_mem_cons.mpr ⟨kX8_trap, List.forall_mem_cons.mpr ⟨kX8_undo, List.forall_mem_cons.mpr ⟨kX8_wipe, List.forall_mem_cons.mpr ⟨kX1_init, List.forall_mem_cons.mpr ⟨kX1_note, List.forall_mem_cons.mpr ⟨kX1_settle, List.forall_mem_cons.mpr ⟨kX1_takeBack, List.forall_mem_cons.mpr ⟨kX2_init, List.forall_mem_cons.mpr ⟨kX2_begins, List.forall_mem_cons.mpr ⟨kX2_takeIn, List.forall_mem_cons.mpr ⟨kX3_init, List.forall_mem_cons.mpr ⟨kX3_addMove, List.forall_mem_cons.mpr ⟨kX3_addPlace, List.forall_mem_cons.mpr ⟨kX3_allMade, List.forall_mem_cons.mpr ⟨kX3_allTokens, List.forall_mem_cons.mpr ⟨kX3_copy, List.forall_mem_cons.mpr ⟨kX3_greatestClosed, List.forall_mem_cons.mpr ⟨kX3_hasMove, List.forall_mem_cons.mpr ⟨kX3_hasPlace, List.forall_mem_cons.mpr ⟨kX3_makeBySeed, List.forall_mem_cons.mpr ⟨kX3_makeOne, List.forall_mem_cons.mpr ⟨kX3_possibleMoves, List.forall_mem_cons.mpr ⟨kX3_setArc, List.forall_mem_cons.mpr ⟨kX3_setTokens, List.forall_mem_cons.mpr ⟨kX3_tokensIn, List.forall_mem_cons.mpr ⟨kX4_init, List.forall_mem_cons.mpr ⟨kX4_append, List.forall_mem_cons.mpr ⟨kX4_firstFault, List.forall_mem_cons.mpr ⟨kX4_mayEnd, List.forall_mem_cons.mpr ⟨kX5_init, List.forall_mem_cons.mpr ⟨kX5_find, List.forall_mem_cons.mpr ⟨kX5_follow, List.forall_mem_cons.mpr ⟨kX5_hash, List.forall_mem_cons.mpr ⟨kX5_meet, List.forall_mem_cons.mpr ⟨kX6_init, List.forall_mem_cons.mpr ⟨kX6_find, List.forall_mem_cons.mpr ⟨kX7_init, List.forall_mem_cons.mpr ⟨kX7_add, List.forall_mem_cons.mpr ⟨kX7_endlessPlaces, List.forall_mem_cons.mpr ⟨kX7_find, List.forall_mem_cons.mpr ⟨kX7_follow, List.forall_mem_cons.mpr ⟨kX7_mostTokens, List.forall_mem_cons.mpr ⟨kX9_init, List.forall_mem_cons.mpr ⟨kX9_allMade, List.forall_mem_cons.mpr ⟨kX9_allTokens, List.forall_mem_cons.mpr ⟨kX9_arc, List.forall_mem_cons.mpr ⟨kX9_begins, List.forall_mem_cons.mpr ⟨kX9_bound, List.forall_mem_cons.mpr ⟨kX9_carryOut, List.forall_mem_cons.mpr ⟨kX9_character, List.forall_mem_cons.mpr ⟨kX9_codes, List.forall_mem_cons.mpr ⟨kX9_count, List.forall_mem_cons.mpr ⟨kX9_fault, List.forall_mem_cons.mpr ⟨kX9_fewest, List.forall_mem_cons.mpr ⟨kX9_findFault, List.forall_mem_cons.mpr ⟨kX9_findReached, List.forall_mem_cons.mpr ⟨kX9_findSets, List.forall_mem_cons.mpr ⟨kX9_findTree, List.forall_mem_cons.mpr ⟨kX9_goTo, List.forall_mem_cons.mpr ⟨kX9_greatest, List.forall_mem_cons.mpr ⟨kX9_growth, List.forall_mem_cons.mpr ⟨kX9_isMove, List.forall_mem_cons.mpr ⟨kX9_isPlace, List.forall_mem_cons.mpr ⟨kX9_isRepeated, List.forall_mem_cons.mpr ⟨kX9_keepTried, List.forall_mem_cons.mpr ⟨kX9_kept, List.forall_mem_cons.mpr ⟨kX9_keptMany, List.forall_mem_cons.mpr ⟨kX9_make, List.forall_mem_cons.mpr ⟨kX9_mean, List.forall_mem_cons.mpr ⟨kX9_move, List.forall_mem_cons.mpr ⟨kX9_moves, List.forall_mem_cons.mpr ⟨kX9_movesBy, List.forall_mem_cons.mpr ⟨kX9_movesNow, List.forall_mem_cons.mpr ⟨kX9_ofArc, List.forall_mem_cons.mpr ⟨kX9_ofMove, List.forall_mem_cons.mpr ⟨kX9_ofPlace, List.forall_mem_cons.mpr ⟨kX9_place, List.forall_mem_cons.mpr ⟨kX9_placed, List.forall_mem_cons.mpr ⟨kX9_put, List.forall_mem_cons.mpr ⟨kX9_reached, List.forall_mem_cons.mpr ⟨kX9_readsOrder, List.forall_mem_cons.mpr ⟨kX9_record, List.forall_mem_cons.mpr ⟨kX9_restore, List.forall_mem_cons.mpr ⟨kX9_run, List.forall_mem_cons.mpr ⟨kX9_save, List.forall_mem_cons.mpr ⟨kX9_share, List.forall_mem_cons.mpr ⟨kX9_tokens, List.forall_mem_cons.mpr ⟨kX9_tokensIn, List.forall_mem_cons.mpr ⟨kX9_trap, List.forall_mem_cons.mpr ⟨kX9_undo, List.forall_mem_cons.mpr ⟨kX9_whyNoPlace, List.forall_mem_cons.mpr ⟨kX9_whyNoTokens, List.forall_mem_cons.mpr ⟨kX9_whyNotMade, List.forall_mem_cons.mpr ⟨kX9_wipe, List.forall_mem_cons.mpr ⟨kX9_within, List.forall_mem_cons.mpr ⟨kJ6_bitCount_0f7a4, List.forall_mem_cons.mpr ⟨kJ7_fill_53178, fun _ h => absurd h List.not_mem_nil⟩⟩⟩⟩⟩⟩⟩⟩⟩⟩⟩⟩⟩⟩⟩⟩⟩⟩⟩⟩⟩⟩⟩⟩⟩⟩⟩⟩⟩⟩⟩⟩⟩⟩⟩⟩⟩⟩⟩⟩⟩⟩⟩⟩⟩⟩⟩⟩⟩⟩⟩⟩⟩⟩⟩⟩⟩⟩⟩⟩⟩⟩⟩⟩⟩⟩⟩⟩⟩⟩⟩⟩⟩⟩⟩⟩⟩⟩⟩⟩⟩⟩⟩⟩⟩⟩⟩⟩⟩⟩⟩⟩⟩⟩⟩⟩⟩⟩⟩⟩⟩⟩⟩⟩⟩⟩⟩⟩⟩⟩⟩⟩⟩⟩⟩⟩⟩⟩⟩⟩⟩
end
section
/-! what is told of the script's ints: bounds; the facts that follow -/
def y_PI (op : Nat) (x v : Int) : Prop := match op with
  | 0 => x = v
  | 1 => ¬ x = v
  | 2 => x < v
  | 3 => v ≤ x
  | 4 => v < x
  | _ => x ≤ v
def y_vI (n : Nat) : Int := (y_sg n : Int) - 2147483648
theorem y_PI_ok (op : Nat) (x : Int32) (n : Nat) : y_P op x (nI n) ↔ y_PI op x.toInt (y_vI n) := by
  have e : y_vI n = (nI n).toInt := (y_int n).symm
  rw [e]
  rcases op with _ | _ | _ | _ | _ | op
  · exact Int32.toInt_inj.symm
  · exact not_congr Int32.toInt_inj.symm
  · exact Int32.lt_iff_toInt_lt
  · exact Int32.le_iff_toInt_le
  · exact Int32.lt_iff_toInt_lt
  · exact Int32.le_iff_toInt_le
def y_bT (op : Nat) (lo hi : Int) (nz : Bool) (v : Int) : Bool := match op with
  | 0 => decide (lo = v) && decide (hi = v)
  | 1 => decide (hi < v) || (decide (v < lo) || (nz && decide (v = 0)))
  | 2 => decide (hi < v)
  | 3 => decide (v ≤ lo)
  | 4 => decide (v < lo)
  | _ => decide (hi ≤ v)
def y_bF (op : Nat) (lo hi : Int) (nz : Bool) (v : Int) : Bool := match op with
  | 0 => decide (hi < v) || (decide (v < lo) || (nz && decide (v = 0)))
  | 1 => decide (lo = v) && decide (hi = v)
  | 2 => decide (v ≤ lo)
  | 3 => decide (hi < v)
  | 4 => decide (hi ≤ v)
  | _ => decide (v < lo)
theorem y_bT_ok {op : Nat} {lo hi v x : Int} {nz : Bool} (h0 : lo ≤ x ∧ x ≤ hi ∧ (nz = true → ¬ x = 0)) (h : y_bT op lo hi nz v = true) : y_PI op x v := by
  obtain ⟨h1, h2, h3⟩ := h0
  rcases op with _ | _ | _ | _ | _ | op <;> simp only [y_bT, Bool.and_eq_true, Bool.or_eq_true, decide_eq_true_eq] at h
  · show x = v
    omega
  · show ¬ x = v
    rcases h with h | h | ⟨h, h4⟩
    · omega
    · omega
    · have h5 := h3 h
      omega
  · show x < v
    omega
  · show v ≤ x
    omega
  · show v < x
    omega
  · show x ≤ v
    omega
theorem y_bF_ok {op : Nat} {lo hi v x : Int} {nz : Bool} (h0 : lo ≤ x ∧ x ≤ hi ∧ (nz = true → ¬ x = 0)) (h : y_bF op lo hi nz v = true) : ¬ y_PI op x v := by
  obtain ⟨h1, h2, h3⟩ := h0
  rcases op with _ | _ | _ | _ | _ | op <;> simp only [y_bF, Bool.and_eq_true, Bool.or_eq_true, decide_eq_true_eq] at h
  · show ¬ (x = v)
    rcases h with h | h | ⟨h, h4⟩
    · omega
    · omega
    · have h5 := h3 h
      omega
  · show ¬ (¬ x = v)
    omega
  · show ¬ (x < v)
    omega
  · show ¬ (v ≤ x)
    omega
  · show ¬ (v < x)
    omega
  · show ¬ (x ≤ v)
    omega
/-- bounds: of which int, the least, the most, whether it is told that it is not 0 -/
abbrev yB : Type := List (Nat × Int × Int × Bool)
def y_bd (xs : Nat → Int32) : yB → Prop
  | [] => True
  | q :: r => (q.2.1 ≤ (xs q.1).toInt ∧ (xs q.1).toInt ≤ q.2.2.1 ∧ (q.2.2.2 = true → ¬ (xs q.1).toInt = 0)) ∧ y_bd xs r
def y_bget : yB → Nat → Option (Int × Int × Bool)
  | [], _ => none
  | q :: r, j => bif Nat.beq q.1 j then some q.2 else y_bget r j
theorem y_bd_get {xs : Nat → Int32} {bd : yB} {j : Nat} {b : Int × Int × Bool} (h : y_bd xs bd) (hi : y_bget bd j = some b) : b.1 ≤ (xs j).toInt ∧ (xs j).toInt ≤ b.2.1 ∧ (b.2.2 = true → ¬ (xs j).toInt = 0) := by
  induction bd with
  | nil => cases hi
  | cons q r ih =>
    unfold y_bget at hi
    cases hc : Nat.beq q.1 j with
    | true =>
      rw [hc] at hi
      have e := y_beq.mp hc
      have e2 : q.2 = b := Option.some.inj hi
      rw [← e, ← e2]
      exact h.1
    | false =>
      rw [hc] at hi
      exact ih h.2 hi
def y_flip (op : Nat) : Nat := match op with
  | 0 => 0
  | 1 => 1
  | 2 => 4
  | 3 => 5
  | 4 => 2
  | _ => 3
theorem y_flip_ok (op : Nat) (x y : Int32) : y_P op x y ↔ y_P (y_flip op) y x := by
  unfold y_flip
  split
  · exact eq_comm
  · exact not_congr eq_comm
  · exact Iff.rfl
  · exact Iff.rfl
  · exact Iff.rfl
  · next h0 h1 h2 h3 h4 =>
    unfold y_P
    split <;> first | exact Iff.rfl | contradiction
/-- each fact follows from the bounds -/
def y_chk1 (bd : yB) (q : Nat × yI × yI × Bool) : Bool := match q.2.1, q.2.2.1 with
  | .inr j, .inl n => match y_bget bd j with
    | some b => bif q.2.2.2 then y_bT q.1 b.1 b.2.1 b.2.2 (y_vI n) else y_bF q.1 b.1 b.2.1 b.2.2 (y_vI n)
    | none => false
  | .inl n, .inr j => match y_bget bd j with
    | some b => bif q.2.2.2 then y_bT (y_flip q.1) b.1 b.2.1 b.2.2 (y_vI n) else y_bF (y_flip q.1) b.1 b.2.1 b.2.2 (y_vI n)
    | none => false
  | _, _ => false
def y_chkT1 (kd : Nat) (bd : yB) (q : Nat × yI × yI × yI) : Bool := match q.1, q.2.1, q.2.2.1, q.2.2.2 with
  | 20, .inr j, .inr _, .inl n => match y_bget bd j with
    | some b => decide (b.1 = y_vI n) && decide (b.2.1 = y_vI n)
    | none => false
  | 0, .inr 0, .inl 31, .inl k => Nat.beq k kd
  | 1, .inr j, .inl 0, .inr i => Nat.beq i j
  | 16, .inr j, .inr _, .inr i => Nat.beq i j
  | 14, .inl a, .inl b, .inl 0 => Nat.beq a b
  | _, _, _, _ => false
theorem y_chk_ok {κ : yK} {bd : yB} {hy : yF} (hb : y_bd κ.1 bd) (h : hy.all (y_chk1 bd) = true) : y_H κ hy := by
  intro q hq
  have h1 := List.all_eq_true.mp h q hq
  obtain ⟨op, a, b, t⟩ := q
  unfold y_chk1 at h1
  dsimp only at h1 ⊢
  rcases a with n | j <;> rcases b with n | b
  · cases h1
  · dsimp only at h1
    cases hj : y_bget bd b with
    | none => rw [hj] at h1; cases h1
    | some c =>
      rw [hj] at h1
      dsimp only at h1
      have hc := y_bd_get hb hj
      have e : y_P op (y_i κ (.inl n)) (y_i κ (.inr b)) ↔ y_PI (y_flip op) (κ.1 b).toInt (y_vI n) := (y_flip_ok op (nI n) (κ.1 b)).trans (y_PI_ok (y_flip op) (κ.1 b) n)
      rw [e]
      cases t with
      | true => exact ⟨fun _ => rfl, fun _ => y_bT_ok hc h1⟩
      | false => exact ⟨fun z => absurd z (y_bF_ok hc h1), fun z => by cases z⟩
  · dsimp only at h1
    cases hj : y_bget bd j with
    | none => rw [hj] at h1; cases h1
    | some c =>
      rw [hj] at h1
      dsimp only at h1
      have hc := y_bd_get hb hj
      have e : y_P op (y_i κ (.inr j)) (y_i κ (.inl n)) ↔ y_PI op (κ.1 j).toInt (y_vI n) := y_PI_ok op (κ.1 j) n
      rw [e]
      cases t with
      | true => exact ⟨fun _ => rfl, fun _ => y_bT_ok hc h1⟩
      | false => exact ⟨fun z => absurd z (y_bF_ok hc h1), fun z => by cases z⟩
  · cases h1
theorem y_chkT_ok {κ : yK} {kd : Nat} {bd : yB} {tb : yT} (hb : y_bd κ.1 bd) (hk : κ.1 0 &&& 31 = nI kd) (hl : ∀ j, κ.2.1 j = (κ.1 j).toInt64) (h : tb.all (y_chkT1 kd bd) = true) : y_T κ tb := by
  intro q hq
  have h1 := List.all_eq_true.mp h q hq
  obtain ⟨op, a, b, r⟩ := q
  unfold y_chkT1 at h1
  dsimp only at h1 ⊢
  split at h1
  · next j _ n =>
    cases hj : y_bget bd j with
    | none => rw [hj] at h1; cases h1
    | some c =>
      rw [hj] at h1
      simp only [Bool.and_eq_true, decide_eq_true_eq] at h1
      have hc := y_bd_get hb hj
      show κ.1 j = nI n
      apply Int32.toInt_inj.mp
      rw [y_int]
      unfold y_vI at h1
      omega
  · next k =>
    have e := y_beq.mp h1
    subst e
    exact hk
  · next j i =>
    have e := y_beq.mp h1
    subst e
    exact sb_shr0 (κ.1 i)
  · next j _ i =>
    have e := y_beq.mp h1
    subst e
    exact (hl i).symm
  · next a b =>
    have e := y_beq.mp h1
    subst e
    show lg_cmp (lN a) (lN a) = nI 0
    unfold lg_cmp
    simp
    rfl
  · cases h1
/-- the law's end, with 1 -/
def y_won (o : Option yS) : Bool := match o with
  | some S => Nat.beq S.1 848 && ((match S.2.2.1 with
    | [.inl (.inl 1)] => true
    | _ => false) && (Nat.ble S.2.2.2.2.1 600000 && Nat.ble S.2.2.2.2.2 7302250))
  | none => false
def z_S0 : yS := (0, [(0, .inr (.inr (some 0)))], [], [], 0, 0)
/-- the state at the law's loop, five ints given: both objects made -/
def z_S1 : yS := (26, [(3, .inl (.inl 0)), (2, .inr (.inr (some 105))), (1, .inr (.inr (some 1))), (0, .inr (.inr (some 0)))], [], [.inl (7, [.inr (.inr (some 2)), .inr (.inr (some 8)), .inr (.inr (some 52)), .inr (.inr (some 65)), .inr (.inr (some 66)), .inr (.inr (some 68)), .inr (.inr (some 80)), .inr (.inr (some 92))]), .inl (2, [.inl (.inl 0), .inl (.inl 0), .inr (.inr (some 3)), .inr (.inr (some 4)), .inr (.inr (some 5)), .inr (.inr (some 6)), .inr (.inr (some 7))]), .inr (.inl (0, 8, [])), .inr (.inl (0, 8, [])), .inr (.inl (0, 8, [])), .inr (.inl (0, 64, [])), .inr (.inl (0, 64, [])), .inl (0, [.inr (.inr (some 9)), .inl (.inl 0), .inl (.inl 0)]), .inr (.inr (2, 7, [(6, some 46), (5, some 40), (4, some 34), (3, some 28), (2, some 22), (1, some 16), (0, some 10)])), .inl (2, [.inl (.inl 0), .inl (.inl 0), .inr (.inr (some 11)), .inr (.inr (some 12)), .inr (.inr (some 13)), .inr (.inr (some 14)), .inr (.inr (some 15))]), .inr (.inl (0, 8, [])), .inr (.inl (0, 8, [])), .inr (.inl (0, 8, [])), .inr (.inl (0, 64, [])), .inr (.inl (0, 64, [])), .inl (2, [.inl (.inl 0), .inl (.inl 0), .inr (.inr (some 17)), .inr (.inr (some 18)), .inr (.inr (some 19)), .inr (.inr (some 20)), .inr (.inr (some 21))]), .inr (.inl (0, 8, [])), .inr (.inl (0, 8, [])), .inr (.inl (0, 8, [])), .inr (.inl (0, 64, [])), .inr (.inl (0, 64, [])), .inl (2, [.inl (.inl 0), .inl (.inl 0), .inr (.inr (some 23)), .inr (.inr (some 24)), .inr (.inr (some 25)), .inr (.inr (some 26)), .inr (.inr (some 27))]), .inr (.inl (0, 8, [])), .inr (.inl (0, 8, [])), .inr (.inl (0, 8, [])), .inr (.inl (0, 64, [])), .inr (.inl (0, 64, [])), .inl (2, [.inl (.inl 0), .inl (.inl 0), .inr (.inr (some 29)), .inr (.inr (some 30)), .inr (.inr (some 31)), .inr (.inr (some 32)), .inr (.inr (some 33))]), .inr (.inl (0, 8, [])), .inr (.inl (0, 8, [])), .inr (.inl (0, 8, [])), .inr (.inl (0, 64, [])), .inr (.inl (0, 64, [])), .inl (2, [.inl (.inl 0), .inl (.inl 0), .inr (.inr (some 35)), .inr (.inr (some 36)), .inr (.inr (some 37)), .inr (.inr (some 38)), .inr (.inr (some 39))]), .inr (.inl (0, 8, [])), .inr (.inl (0, 8, [])), .inr (.inl (0, 8, [])), .inr (.inl (0, 64, [])), .inr (.inl (0, 64, [])), .inl (2, [.inl (.inl 0), .inl (.inl 0), .inr (.inr (some 41)), .inr (.inr (some 42)), .inr (.inr (some 43)), .inr (.inr (some 44)), .inr (.inr (some 45))]), .inr (.inl (0, 8, [])), .inr (.inl (0, 8, [])), .inr (.inl (0, 8, [])), .inr (.inl (0, 64, [])), .inr (.inl (0, 64, [])), .inl (2, [.inl (.inl 0), .inl (.inl 0), .inr (.inr (some 47)), .inr (.inr (some 48)), .inr (.inr (some 49)), .inr (.inr (some 50)), .inr (.inr (some 51))]), .inr (.inl (0, 8, [])), .inr (.inl (0, 8, [])), .inr (.inl (0, 8, [])), .inr (.inl (0, 64, [])), .inr (.inl (0, 64, [])), .inr (.inr (2, 2, [(1, some 59), (0, some 53)])), .inl (2, [.inl (.inl 0), .inl (.inl 0), .inr (.inr (some 54)), .inr (.inr (some 55)), .inr (.inr (some 56)), .inr (.inr (some 57)), .inr (.inr (some 58))]), .inr (.inl (0, 8, [])), .inr (.inl (0, 8, [])), .inr (.inl (0, 8, [])), .inr (.inl (0, 64, [])), .inr (.inl (0, 64, [])), .inl (2, [.inl (.inl 0), .inl (.inl 0), .inr (.inr (some 60)), .inr (.inr (some 61)), .inr (.inr (some 62)), .inr (.inr (some 63)), .inr (.inr (some 64))]), .inr (.inl (0, 8, [])), .inr (.inl (0, 8, [])), .inr (.inl (0, 8, [])), .inr (.inl (0, 64, [])), .inr (.inl (0, 64, [])), .inr (.inl (1, 2, [])), .inl (3, [.inr (.inr (some 67)), .inl (.inl 0)]), .inr (.inl (2, 80, [])), .inl (5, [.inr (.inr (some 69)), .inl (.inl 0), .inr (.inr (some 75)), .inr (.inr (some 76)), .inr (.inr (some 77)), .inr (.inr (some 78)), .inr (.inr (some 79)), .inl (.inl 0)]), .inl (2, [.inl (.inl 0), .inl (.inl 0), .inr (.inr (some 70)), .inr (.inr (some 71)), .inr (.inr (some 72)), .inr (.inr (some 73)), .inr (.inr (some 74))]), .inr (.inl (0, 8, [])), .inr (.inl (0, 8, [])), .inr (.inl (0, 8, [])), .inr (.inl (0, 64, [])), .inr (.inl (0, 64, [])), .inr (.inl (0, 64, [])), .inr (.inl (0, 8, [])), .inr (.inl (0, 8, [])), .inr (.inl (1, 256, [])), .inr (.inl (0, 64, [])), .inl (4, [.inr (.inr (some 81)), .inr (.inr (some 90)), .inr (.inr (some 91)), .inl (.inl 0)]), .inl (1, [.inr (.inr (some 82)), .inl (.inl 0), .inr (.inr (some 88)), .inr (.inr (some 89)), .inl (.inl 0), .inl (.inl 0), .inl (.inl 0)]), .inl (2, [.inl (.inl 0), .inl (.inl 0), .inr (.inr (some 83)), .inr (.inr (some 84)), .inr (.inr (some 85)), .inr (.inr (some 86)), .inr (.inr (some 87))]), .inr (.inl (0, 8, [])), .inr (.inl (0, 8, [])), .inr (.inl (0, 8, [])), .inr (.inl (0, 64, [])), .inr (.inl (0, 64, [])), .inr (.inl (0, 2400, [])), .inr (.inl (0, 8, [])), .inr (.inl (0, 300, [])), .inr (.inl (0, 1024, [])), .inl (6, [.inr (.inr (some 93)), .inr (.inr (some 102)), .inr (.inr (some 103)), .inr (.inr (some 104)), .inl (.inl 0)]), .inl (1, [.inr (.inr (some 94)), .inl (.inl 0), .inr (.inr (some 100)), .inr (.inr (some 101)), .inl (.inl 0), .inl (.inl 0), .inl (.inl 0)]), .inl (2, [.inl (.inl 0), .inl (.inl 0), .inr (.inr (some 95)), .inr (.inr (some 96)), .inr (.inr (some 97)), .inr (.inr (some 98)), .inr (.inr (some 99))]), .inr (.inl (0, 8, [])), .inr (.inl (0, 8, [])), .inr (.inl (0, 8, [])), .inr (.inl (0, 64, [])), .inr (.inl (0, 64, [])), .inr (.inl (0, 2400, [])), .inr (.inl (0, 8, [])), .inr (.inl (0, 300, [])), .inr (.inl (0, 300, [])), .inr (.inl (0, 300, [])), .inl (8, [.inr (.inr (some 106)), .inr (.inr (some 107)), .inl (.inl 0), .inr (.inr (some 108)), .inr (.inr (some 109)), .inr (.inr (some 110)), .inl (.inl 0), .inr (.inr (some 111)), .inr (.inr (some 112)), .inr (.inr (some 113)), .inl (.inl 0), .inr (.inr (some 114)), .inr (.inr (some 115)), .inr (.inr (some 116)), .inl (.inl 0), .inl (.inl 0), .inl (.inl 0), .inl (.inl 0), .inr (.inr (some 117)), .inr (.inr (some 118)), .inl (.inl 0)]), .inr (.inl (0, 154, [(0, .inl 0)])), .inr (.inl (0, 924, [])), .inr (.inl (0, 308, [])), .inr (.inl (0, 2, [])), .inr (.inl (0, 80, [])), .inr (.inl (0, 2408, [])), .inr (.inl (0, 301, [])), .inr (.inl (0, 301, [])), .inr (.inl (0, 8, [])), .inr (.inl (0, 8, [])), .inr (.inl (1, 256, [])), .inr (.inl (0, 10, [])), .inr (.inl (0, 10, []))], 118, 14433)
def zL_cut : yE := (zL_law.1, zL_law.2.1, zL_law.2.2.1, zL_law.2.2.2.1, zL_law.2.2.2.2.filter (fun q => !(Nat.beq q.1 26)))
def y_eqO : Option Nat → Option Nat → Bool
  | none, none => true
  | some a, some b => Nat.beq a b
  | _, _ => false
def y_eqV : yV → yV → Bool
  | .inl a, .inl b => y_eqI a b
  | .inr (.inl a), .inr (.inl b) => y_eqI a b
  | .inr (.inr a), .inr (.inr b) => y_eqO a b
  | _, _ => false
def y_eqL {T : Type} (f : T → T → Bool) : List T → List T → Bool
  | [], [] => true
  | a :: r, b :: q => f a b && y_eqL f r q
  | _, _ => false
def y_eqP {T : Type} (f : T → T → Bool) (a b : Nat × T) : Bool := Nat.beq a.1 b.1 && f a.2 b.2
def y_eqC : yC → yC → Bool
  | .inl a, .inl b => y_eqP (y_eqL y_eqV) a b
  | .inr (.inl a), .inr (.inl b) => y_eqP (y_eqP (y_eqL (y_eqP y_eqI))) a b
  | .inr (.inr a), .inr (.inr b) => y_eqP (y_eqP (y_eqL (y_eqP y_eqO))) a b
  | _, _ => false
def y_eqS (a b : yS) : Bool := Nat.beq a.1 b.1 && (y_eqL (y_eqP y_eqV) a.2.1 b.2.1 && (y_eqL y_eqV a.2.2.1 b.2.2.1 && (y_eqL y_eqC a.2.2.2.1 b.2.2.2.1 && (Nat.beq a.2.2.2.2.1 b.2.2.2.2.1 && Nat.beq a.2.2.2.2.2 b.2.2.2.2.2))))
theorem y_eqO_ok {a b : Option Nat} (h : y_eqO a b = true) : a = b := by
  cases a <;> cases b <;> first | rfl | (rw [y_beq.mp h]) | cases h
theorem y_eqV_ok {a b : yV} (h : y_eqV a b = true) : a = b := by
  rcases a with a | a | a <;> rcases b with b | b | b <;> first | (rw [y_eqI_ok h]) | (rw [y_eqO_ok h]) | cases h
theorem y_eqL_ok {T : Type} {f : T → T → Bool} (hf : ∀ {a b}, f a b = true → a = b) {l r : List T} (h : y_eqL f l r = true) : l = r := by
  induction l generalizing r with
  | nil => cases r with
    | nil => rfl
    | cons b q => cases h
  | cons a l ih => cases r with
    | nil => cases h
    | cons b q =>
      have h' : (f a b && y_eqL f l q) = true := h
      simp only [Bool.and_eq_true] at h'
      rw [hf h'.1, ih h'.2]
theorem y_eqP_ok {T : Type} {f : T → T → Bool} (hf : ∀ {a b}, f a b = true → a = b) {a b : Nat × T} (h : y_eqP f a b = true) : a = b := by
  unfold y_eqP at h
  simp only [Bool.and_eq_true] at h
  exact Prod.ext (y_beq.mp h.1) (hf h.2)
theorem y_eqC_ok {a b : yC} (h : y_eqC a b = true) : a = b := by
  rcases a with a | a | a <;> rcases b with b | b | b
  · rw [y_eqP_ok (y_eqL_ok y_eqV_ok) h]
  · cases h
  · cases h
  · cases h
  · rw [y_eqP_ok (y_eqP_ok (y_eqL_ok (y_eqP_ok y_eqI_ok))) h]
  · cases h
  · cases h
  · cases h
  · rw [y_eqP_ok (y_eqP_ok (y_eqL_ok (y_eqP_ok y_eqO_ok))) h]
theorem y_eqS_ok {a b : yS} (h : y_eqS a b = true) : a = b := by
  unfold y_eqS at h
  simp only [Bool.and_eq_true] at h
  obtain ⟨h1, h2, h3, h4, h5, h6⟩ := h
  exact Prod.ext (y_beq.mp h1) (Prod.ext (y_eqL_ok (y_eqP_ok y_eqV_ok) h2) (Prod.ext (y_eqL_ok y_eqV_ok h3) (Prod.ext (y_eqL_ok y_eqC_ok h4) (Prod.ext (y_beq.mp h5) (y_beq.mp h6)))))
def y_is (o : Option yS) (b : yS) : Bool := match o with
  | some a => y_eqS a b
  | none => false
theorem y_is_ok {o : Option yS} {b : yS} (h : y_is o b = true) : o = some b := by
  cases o with
  | none => cases h
  | some a => rw [y_eqS_ok (show y_eqS a b = true from h)]
set_option maxRecDepth 1000000 in
theorem z_preB : y_is (y_go z_mt 5 [] [] 12000 true 20 zL_cut z_S0) z_S1 = true := by decide +kernel
theorem z_pre : y_go z_mt 5 [] [] 12000 true 20 zL_cut z_S0 = some z_S1 := y_is_ok z_preB
def z_st (L : Nat) : yS := bif Nat.beq L 5 then z_S1 else z_S0
def z_run (L : Nat) (hy : yF) (tb : yT) : Bool := y_won (y_go z_mt L hy tb 12000 true 20 zL_law (z_st L))
def z_case (kd : Nat) (bd : yB) (hy : yF) (tb : yT) : Bool := hy.all (y_chk1 bd) && (tb.all (y_chkT1 kd bd) && z_run 5 hy tb)
/-- the law comes to its end with 1 -/
def z_Won (xs : Nat → Int32) (L : Nat) : Prop := ∀ b : Nat, ∃ (rh : Nat → Int32) (la : Nat → Int64) (hy : yF) (tb : yT), (∀ j, j < L → rh j = xs j) ∧ y_H (rh, la, b, L) hy ∧ y_T (rh, la, b, L) tb ∧ z_run L hy tb = true
theorem z_use {xs : Nat → Int32} {kd : Nat} {bd : yB} {hy : yF} {tb : yT} (h : z_case kd bd hy tb = true) (hk : xs 0 &&& 31 = nI kd) (hb : y_bd xs bd) : z_Won xs 5 := by
  unfold z_case at h
  simp only [Bool.and_eq_true] at h
  exact fun b => ⟨xs, fun j => (xs j).toInt64, hy, tb, fun _ _ => rfl, y_chk_ok (κ := (xs, _, b, 5)) hb h.1, y_chkT_ok (κ := (xs, _, b, 5)) hb hk (fun _ => rfl) h.2.1, h.2.2⟩
theorem y_lo (x : Int32) : -2147483648 ≤ x.toInt ∧ x.toInt ≤ 2147483647 := by
  have h1 := Int32.le_toInt x
  have h2 := Int32.toInt_lt x
  omega
end
section
set_option maxRecDepth 1000000 in
theorem q_L0 : z_run 0 [] [] = true := by decide +kernel
set_option maxRecDepth 1000000 in
theorem q_L1 : z_run 1 [] [] = true := by decide +kernel
set_option maxRecDepth 1000000 in
theorem q_L2 : z_run 2 [] [] = true := by decide +kernel
set_option maxRecDepth 1000000 in
theorem q_L3 : z_run 3 [] [] = true := by decide +kernel
set_option maxRecDepth 1000000 in
theorem q_L4 : z_run 4 [] [] = true := by decide +kernel
set_option maxRecDepth 1000000 in
theorem q_0_0 : z_case 0 [(1, -2147483648, -1, false)] [(2, .inr 1, .inl 0, true)] [(0, .inr 0, .inl 31, .inl 0)] = true := by decide +kernel
set_option maxRecDepth 1000000 in
theorem q_0_1 : z_case 0 [(1, 0, 999, false)] [(4, .inr 1, .inl 999, false), (5, .inr 1, .inl 999, true), (2, .inr 1, .inl 0, false)] [(0, .inr 0, .inl 31, .inl 0)] = true := by decide +kernel
set_option maxRecDepth 1000000 in
theorem q_0_2 : z_case 0 [(1, 1000, 2147483647, false)] [(4, .inr 1, .inl 999, true), (5, .inr 1, .inl 999, false), (2, .inr 1, .inl 0, false)] [(0, .inr 0, .inl 31, .inl 0)] = true := by decide +kernel
set_option maxRecDepth 1000000 in
theorem q_1_0 : z_case 1 [] [] [(0, .inr 0, .inl 31, .inl 1)] = true := by decide +kernel
set_option maxRecDepth 1000000 in
theorem q_2_0 : z_case 2 [(1, -2147483648, -1, false), (2, -2147483648, 2147483647, false), (3, -2147483648, 2147483647, false), (4, -2147483648, 2147483647, false)] [(2, .inr 1, .inl 0, true)] [(0, .inr 0, .inl 31, .inl 2)] = true := by decide +kernel
set_option maxRecDepth 1000000 in
theorem q_2_1 : z_case 2 [(1, 0, 2147483647, false), (2, -2147483648, 2147483647, false), (3, -2147483648, 2147483647, false), (4, -2147483648, 2147483647, false)] [(3, .inr 1, .inl 0, true), (4, .inr 1, .inl 4294967295, true), (2, .inr 1, .inl 0, false)] [(0, .inr 0, .inl 31, .inl 2)] = true := by decide +kernel
set_option maxRecDepth 1000000 in
theorem q_3_0 : z_case 3 [(1, -2147483648, -1, false), (2, -2147483648, 2147483647, false)] [(2, .inr 1, .inl 0, true)] [(0, .inr 0, .inl 31, .inl 3)] = true := by decide +kernel
set_option maxRecDepth 1000000 in
theorem q_3_1 : z_case 3 [(1, 0, 2147483647, false), (2, -2147483648, 2147483647, false)] [(3, .inr 1, .inl 0, true), (4, .inr 1, .inl 4294967295, true), (2, .inr 1, .inl 0, false)] [(0, .inr 0, .inl 31, .inl 3)] = true := by decide +kernel
set_option maxRecDepth 1000000 in
theorem q_4_0 : z_case 4 [(1, -2147483648, -1, false)] [(2, .inr 1, .inl 0, true)] [(0, .inr 0, .inl 31, .inl 4)] = true := by decide +kernel
set_option maxRecDepth 1000000 in
theorem q_4_1 : z_case 4 [(1, 0, 2147483647, false)] [(3, .inr 1, .inl 0, true), (4, .inr 1, .inl 4294967295, true), (2, .inr 1, .inl 0, false)] [(0, .inr 0, .inl 31, .inl 4)] = true := by decide +kernel
set_option maxRecDepth 1000000 in
theorem q_5_0 : z_case 5 [(1, -2147483648, -1, false), (2, -2147483648, 0, false)] [(2, .inr 1, .inl 0, true)] [(0, .inr 0, .inl 31, .inl 5), (16, .inr 1, .inr 1, .inr 1)] = true := by decide +kernel
set_option maxRecDepth 1000000 in
theorem q_5_1 : z_case 5 [(1, -2147483648, -1, false), (2, 1, 99, false)] [(2, .inr 1, .inl 0, true)] [(0, .inr 0, .inl 31, .inl 5), (16, .inr 1, .inr 1, .inr 1)] = true := by decide +kernel
set_option maxRecDepth 1000000 in
theorem q_5_2 : z_case 5 [(1, -2147483648, -1, false), (2, 100, 2147483647, false)] [(2, .inr 1, .inl 0, true)] [(0, .inr 0, .inl 31, .inl 5), (16, .inr 1, .inr 1, .inr 1)] = true := by decide +kernel
set_option maxRecDepth 1000000 in
theorem q_5_3 : z_case 5 [(1, 0, 2147483647, false), (2, -2147483648, 0, false)] [(2, .inr 1, .inl 0, false), (2, .inr 2, .inl 1, true)] [(0, .inr 0, .inl 31, .inl 5), (16, .inr 1, .inr 1, .inr 1)] = true := by decide +kernel
set_option maxRecDepth 1000000 in
theorem q_5_4 : z_case 5 [(1, 0, 2147483647, false), (2, 1, 99, false)] [(3, .inl 0, .inr 2, false), (4, .inr 2, .inl 99, false), (5, .inr 2, .inl 99, true), (2, .inr 1, .inl 0, false), (2, .inr 2, .inl 1, false)] [(0, .inr 0, .inl 31, .inl 5), (16, .inr 1, .inr 1, .inr 1)] = true := by decide +kernel
set_option maxRecDepth 1000000 in
theorem q_5_5 : z_case 5 [(1, 0, 2147483647, false), (2, 100, 2147483647, false)] [(4, .inr 2, .inl 99, true), (5, .inr 2, .inl 99, false), (2, .inr 1, .inl 0, false), (2, .inr 2, .inl 1, false)] [(0, .inr 0, .inl 31, .inl 5), (16, .inr 1, .inr 1, .inr 1)] = true := by decide +kernel
set_option maxRecDepth 1000000 in
theorem q_6_0 : z_case 6 [(1, -2147483648, -1, false), (2, -2147483648, 2147483647, false)] [(2, .inr 1, .inl 0, true)] [(0, .inr 0, .inl 31, .inl 6)] = true := by decide +kernel
set_option maxRecDepth 1000000 in
theorem q_6_1 : z_case 6 [(1, 0, 2147483647, false), (2, -2147483648, 2147483647, false)] [(3, .inr 1, .inl 0, true), (4, .inr 1, .inl 4294967295, true), (2, .inr 1, .inl 0, false)] [(0, .inr 0, .inl 31, .inl 6)] = true := by decide +kernel
set_option maxRecDepth 1000000 in
theorem q_7_0 : z_case 7 [(1, -2147483648, -1, false), (2, -2147483648, 2147483647, false)] [(2, .inr 1, .inl 0, true)] [(0, .inr 0, .inl 31, .inl 7)] = true := by decide +kernel
set_option maxRecDepth 1000000 in
theorem q_7_1 : z_case 7 [(1, 0, 2147483647, false), (2, -2147483648, 2147483647, false)] [(3, .inr 1, .inl 0, true), (4, .inr 1, .inl 4294967295, true), (2, .inr 1, .inl 0, false)] [(0, .inr 0, .inl 31, .inl 7)] = true := by decide +kernel
end
section
set_option maxRecDepth 1000000 in
theorem q_8_0 : z_case 8 [(1, -2147483648, -1, false), (2, -2147483648, 2147483647, false), (3, -2147483648, 2147483647, false)] [(2, .inr 1, .inl 0, true)] [(0, .inr 0, .inl 31, .inl 8)] = true := by decide +kernel
set_option maxRecDepth 1000000 in
theorem q_8_1 : z_case 8 [(1, 0, 2147483647, false), (2, -2147483648, 2147483647, false), (3, -2147483648, 2147483647, false)] [(3, .inr 1, .inl 0, true), (4, .inr 1, .inl 4294967295, true), (2, .inr 1, .inl 0, false)] [(0, .inr 0, .inl 31, .inl 8)] = true := by decide +kernel
set_option maxRecDepth 1000000 in
theorem q_9_0 : z_case 9 [(1, -2147483648, -1, false)] [(2, .inr 1, .inl 0, true)] [(0, .inr 0, .inl 31, .inl 9)] = true := by decide +kernel
set_option maxRecDepth 1000000 in
theorem q_9_1 : z_case 9 [(1, 0, 0, false)] [] [(0, .inr 0, .inl 31, .inl 9), (20, .inr 1, .inr 1, .inl 0)] = true := by decide +kernel
set_option maxRecDepth 1000000 in
theorem q_9_2 : z_case 9 [(1, 1, 1, false)] [] [(0, .inr 0, .inl 31, .inl 9), (20, .inr 1, .inr 1, .inl 1)] = true := by decide +kernel
set_option maxRecDepth 1000000 in
theorem q_9_3 : z_case 9 [(1, 2, 2, false)] [] [(0, .inr 0, .inl 31, .inl 9), (20, .inr 1, .inr 1, .inl 2)] = true := by decide +kernel
set_option maxRecDepth 1000000 in
theorem q_9_4 : z_case 9 [(1, 3, 3, false)] [] [(0, .inr 0, .inl 31, .inl 9), (20, .inr 1, .inr 1, .inl 3)] = true := by decide +kernel
set_option maxRecDepth 1000000 in
theorem q_9_5 : z_case 9 [(1, 4, 4, false)] [] [(0, .inr 0, .inl 31, .inl 9), (20, .inr 1, .inr 1, .inl 4)] = true := by decide +kernel
set_option maxRecDepth 1000000 in
theorem q_9_6 : z_case 9 [(1, 5, 5, false)] [] [(0, .inr 0, .inl 31, .inl 9), (20, .inr 1, .inr 1, .inl 5)] = true := by decide +kernel
set_option maxRecDepth 1000000 in
theorem q_9_7 : z_case 9 [(1, 6, 6, false)] [] [(0, .inr 0, .inl 31, .inl 9), (20, .inr 1, .inr 1, .inl 6)] = true := by decide +kernel
set_option maxRecDepth 1000000 in
theorem q_9_8 : z_case 9 [(1, 7, 2147483647, false)] [(4, .inr 1, .inl 6, true)] [(0, .inr 0, .inl 31, .inl 9)] = true := by decide +kernel
set_option maxRecDepth 1000000 in
theorem q_10_0 : z_case 10 [(1, -2147483648, -1, false)] [(2, .inr 1, .inl 0, true)] [(0, .inr 0, .inl 31, .inl 10)] = true := by decide +kernel
set_option maxRecDepth 1000000 in
theorem q_10_1 : z_case 10 [(1, 0, 2147483647, false)] [(3, .inr 1, .inl 0, true), (4, .inr 1, .inl 4294967295, true), (2, .inr 1, .inl 0, false)] [(0, .inr 0, .inl 31, .inl 10)] = true := by decide +kernel
set_option maxRecDepth 1000000 in
theorem q_11_0 : z_case 11 [(1, -2147483648, -1, false)] [(0, .inr 1, .inl 0, false), (0, .inr 1, .inl 1, false), (2, .inr 1, .inl 0, true)] [(0, .inr 0, .inl 31, .inl 11), (14, .inl 18446744073709551614, .inl 18446744073709551614, .inl 0)] = true := by decide +kernel
set_option maxRecDepth 1000000 in
theorem q_11_1 : z_case 11 [(1, 0, 0, false)] [] [(0, .inr 0, .inl 31, .inl 11), (20, .inr 1, .inr 1, .inl 0), (14, .inl 0, .inl 0, .inl 0)] = true := by decide +kernel
set_option maxRecDepth 1000000 in
theorem q_11_2 : z_case 11 [(1, 1, 1, false)] [] [(0, .inr 0, .inl 31, .inl 11), (20, .inr 1, .inr 1, .inl 1), (14, .inl 0, .inl 0, .inl 0)] = true := by decide +kernel
set_option maxRecDepth 1000000 in
theorem q_11_3 : z_case 11 [(1, 2, 2147483647, false)] [(0, .inr 1, .inl 0, false), (0, .inr 1, .inl 1, false), (4, .inr 1, .inl 1, true), (2, .inr 1, .inl 0, false)] [(0, .inr 0, .inl 31, .inl 11), (14, .inl 18446744073709551614, .inl 18446744073709551614, .inl 0)] = true := by decide +kernel
set_option maxRecDepth 1000000 in
theorem q_12_0 : z_case 12 [(1, -2147483648, -1, false), (2, -2147483648, 2147483647, false)] [(2, .inr 1, .inl 0, true)] [(0, .inr 0, .inl 31, .inl 12)] = true := by decide +kernel
set_option maxRecDepth 1000000 in
theorem q_12_1 : z_case 12 [(1, 0, 2147483647, false), (2, -2147483648, 2147483647, false)] [(2, .inr 1, .inl 0, false)] [(0, .inr 0, .inl 31, .inl 12)] = true := by decide +kernel
set_option maxRecDepth 1000000 in
theorem q_13_0 : z_case 13 [] [] [(0, .inr 0, .inl 31, .inl 13)] = true := by decide +kernel
set_option maxRecDepth 1000000 in
theorem q_14_0 : z_case 14 [(1, -2147483648, -1, false), (2, -2147483648, 2147483647, false)] [(2, .inr 1, .inl 0, true)] [(0, .inr 0, .inl 31, .inl 14)] = true := by decide +kernel
set_option maxRecDepth 1000000 in
theorem q_14_1 : z_case 14 [(1, 0, 0, false), (2, -2147483648, -1, false)] [(2, .inr 2, .inl 0, true)] [(0, .inr 0, .inl 31, .inl 14), (20, .inr 1, .inr 1, .inl 0)] = true := by decide +kernel
set_option maxRecDepth 1000000 in
theorem q_14_2 : z_case 14 [(1, 0, 0, false), (2, 0, 0, false)] [] [(0, .inr 0, .inl 31, .inl 14), (20, .inr 1, .inr 1, .inl 0), (20, .inr 2, .inr 2, .inl 0)] = true := by decide +kernel
set_option maxRecDepth 1000000 in
theorem q_14_3 : z_case 14 [(1, 0, 0, false), (2, 1, 1, false)] [] [(0, .inr 0, .inl 31, .inl 14), (20, .inr 1, .inr 1, .inl 0), (20, .inr 2, .inr 2, .inl 1)] = true := by decide +kernel
set_option maxRecDepth 1000000 in
theorem q_14_4 : z_case 14 [(1, 0, 0, false), (2, 2, 2, false)] [] [(0, .inr 0, .inl 31, .inl 14), (20, .inr 1, .inr 1, .inl 0), (20, .inr 2, .inr 2, .inl 2)] = true := by decide +kernel
end
section
set_option maxRecDepth 1000000 in
theorem q_14_5 : z_case 14 [(1, 0, 0, false), (2, 3, 3, false)] [] [(0, .inr 0, .inl 31, .inl 14), (20, .inr 1, .inr 1, .inl 0), (20, .inr 2, .inr 2, .inl 3)] = true := by decide +kernel
set_option maxRecDepth 1000000 in
theorem q_14_6 : z_case 14 [(1, 0, 0, false), (2, 4, 2147483647, false)] [(4, .inr 2, .inl 3, true), (2, .inr 2, .inl 0, false)] [(0, .inr 0, .inl 31, .inl 14), (20, .inr 1, .inr 1, .inl 0)] = true := by decide +kernel
set_option maxRecDepth 1000000 in
theorem q_14_7 : z_case 14 [(1, 1, 2147483647, false), (2, -2147483648, 2147483647, false)] [(0, .inr 1, .inl 0, false), (2, .inr 1, .inl 0, false), (2, .inr 1, .inl 1, false)] [(0, .inr 0, .inl 31, .inl 14), (1, .inr 1, .inl 0, .inr 1)] = true := by decide +kernel
set_option maxRecDepth 1000000 in
theorem q_15_0 : z_case 15 [(1, -2147483648, -1, false)] [(2, .inr 1, .inl 0, true)] [(0, .inr 0, .inl 31, .inl 15)] = true := by decide +kernel
set_option maxRecDepth 1000000 in
theorem q_15_1 : z_case 15 [(1, 0, 0, false)] [] [(0, .inr 0, .inl 31, .inl 15), (20, .inr 1, .inr 1, .inl 0)] = true := by decide +kernel
set_option maxRecDepth 1000000 in
theorem q_15_2 : z_case 15 [(1, 1, 1, false)] [] [(0, .inr 0, .inl 31, .inl 15), (20, .inr 1, .inr 1, .inl 1)] = true := by decide +kernel
set_option maxRecDepth 1000000 in
theorem q_15_3 : z_case 15 [(1, 2, 2, false)] [] [(0, .inr 0, .inl 31, .inl 15), (20, .inr 1, .inr 1, .inl 2)] = true := by decide +kernel
set_option maxRecDepth 1000000 in
theorem q_15_4 : z_case 15 [(1, 3, 2147483647, false)] [(4, .inr 1, .inl 2, true), (5, .inr 1, .inl 2, false), (2, .inr 1, .inl 0, false)] [(0, .inr 0, .inl 31, .inl 15)] = true := by decide +kernel
set_option maxRecDepth 1000000 in
theorem q_16_0 : z_case 16 [(1, -2147483648, -1, false), (2, -2147483648, 2147483647, false)] [(2, .inr 1, .inl 0, true)] [(0, .inr 0, .inl 31, .inl 16)] = true := by decide +kernel
set_option maxRecDepth 1000000 in
theorem q_16_1 : z_case 16 [(1, 0, 2147483647, false), (2, -2147483648, 2147483647, false)] [(3, .inr 1, .inl 0, true), (4, .inr 1, .inl 4294967295, true), (2, .inr 1, .inl 0, false)] [(0, .inr 0, .inl 31, .inl 16)] = true := by decide +kernel
set_option maxRecDepth 1000000 in
theorem q_17_0 : z_case 17 [(1, -2147483648, -1, false)] [(2, .inr 1, .inl 0, true)] [(0, .inr 0, .inl 31, .inl 17)] = true := by decide +kernel
set_option maxRecDepth 1000000 in
theorem q_17_1 : z_case 17 [(1, 0, 0, false)] [] [(0, .inr 0, .inl 31, .inl 17), (20, .inr 1, .inr 1, .inl 0)] = true := by decide +kernel
set_option maxRecDepth 1000000 in
theorem q_17_2 : z_case 17 [(1, 1, 1, false)] [] [(0, .inr 0, .inl 31, .inl 17), (20, .inr 1, .inr 1, .inl 1)] = true := by decide +kernel
set_option maxRecDepth 1000000 in
theorem q_17_3 : z_case 17 [(1, 2, 2, false)] [] [(0, .inr 0, .inl 31, .inl 17), (20, .inr 1, .inr 1, .inl 2)] = true := by decide +kernel
set_option maxRecDepth 1000000 in
theorem q_17_4 : z_case 17 [(1, 3, 3, false)] [] [(0, .inr 0, .inl 31, .inl 17), (20, .inr 1, .inr 1, .inl 3)] = true := by decide +kernel
set_option maxRecDepth 1000000 in
theorem q_17_5 : z_case 17 [(1, 4, 2147483647, false)] [(4, .inr 1, .inl 3, true), (5, .inr 1, .inl 3, false), (2, .inr 1, .inl 0, false)] [(0, .inr 0, .inl 31, .inl 17)] = true := by decide +kernel
set_option maxRecDepth 1000000 in
theorem q_18_0 : z_case 18 [(1, -2147483648, -1, false)] [(2, .inr 1, .inl 0, true)] [(0, .inr 0, .inl 31, .inl 18)] = true := by decide +kernel
set_option maxRecDepth 1000000 in
theorem q_18_1 : z_case 18 [(1, 0, 2147483647, false)] [(3, .inr 1, .inl 0, true), (4, .inr 1, .inl 4294967295, true), (2, .inr 1, .inl 0, false)] [(0, .inr 0, .inl 31, .inl 18)] = true := by decide +kernel
set_option maxRecDepth 1000000 in
theorem q_20_0 : z_case 20 [] [] [(0, .inr 0, .inl 31, .inl 20)] = true := by decide +kernel
set_option maxRecDepth 1000000 in
theorem q_21_0 : z_case 21 [] [] [(0, .inr 0, .inl 31, .inl 21)] = true := by decide +kernel
set_option maxRecDepth 1000000 in
theorem q_22_0 : z_case 22 [] [] [(0, .inr 0, .inl 31, .inl 22)] = true := by decide +kernel
set_option maxRecDepth 1000000 in
theorem q_23_0 : z_case 23 [] [] [(0, .inr 0, .inl 31, .inl 23)] = true := by decide +kernel
set_option maxRecDepth 1000000 in
theorem q_24_0 : z_case 24 [(1, -2147483648, -1, false)] [(0, .inr 1, .inl 0, false), (0, .inr 1, .inl 1, false), (2, .inr 1, .inl 0, true)] [(0, .inr 0, .inl 31, .inl 24)] = true := by decide +kernel
set_option maxRecDepth 1000000 in
theorem q_24_1 : z_case 24 [(1, 0, 0, false)] [] [(0, .inr 0, .inl 31, .inl 24), (20, .inr 1, .inr 1, .inl 0)] = true := by decide +kernel
set_option maxRecDepth 1000000 in
theorem q_24_2 : z_case 24 [(1, 1, 1, false)] [] [(0, .inr 0, .inl 31, .inl 24), (20, .inr 1, .inr 1, .inl 1)] = true := by decide +kernel
end
section
set_option maxRecDepth 1000000 in
theorem q_24_3 : z_case 24 [(1, 2, 2147483647, false)] [(0, .inr 1, .inl 0, false), (0, .inr 1, .inl 1, false), (4, .inr 1, .inl 1, true), (2, .inr 1, .inl 0, false)] [(0, .inr 0, .inl 31, .inl 24)] = true := by decide +kernel
set_option maxRecDepth 1000000 in
theorem q_25_0 : z_case 25 [(1, -2147483648, -1, false)] [(0, .inr 1, .inl 0, false), (0, .inr 1, .inl 1, false), (2, .inr 1, .inl 0, true)] [(0, .inr 0, .inl 31, .inl 25)] = true := by decide +kernel
set_option maxRecDepth 1000000 in
theorem q_25_1 : z_case 25 [(1, 0, 0, false)] [] [(0, .inr 0, .inl 31, .inl 25), (20, .inr 1, .inr 1, .inl 0)] = true := by decide +kernel
set_option maxRecDepth 1000000 in
theorem q_25_2 : z_case 25 [(1, 1, 1, false)] [] [(0, .inr 0, .inl 31, .inl 25), (20, .inr 1, .inr 1, .inl 1)] = true := by decide +kernel
set_option maxRecDepth 1000000 in
theorem q_25_3 : z_case 25 [(1, 2, 2147483647, false)] [(0, .inr 1, .inl 0, false), (0, .inr 1, .inl 1, false), (4, .inr 1, .inl 1, true), (2, .inr 1, .inl 0, false)] [(0, .inr 0, .inl 31, .inl 25)] = true := by decide +kernel
set_option maxRecDepth 1000000 in
theorem q_26_0 : z_case 26 [] [] [(0, .inr 0, .inl 31, .inl 26)] = true := by decide +kernel
set_option maxRecDepth 1000000 in
theorem q_27_0 : z_case 27 [] [] [(0, .inr 0, .inl 31, .inl 27)] = true := by decide +kernel
set_option maxRecDepth 1000000 in
theorem q_28_0 : z_case 28 [] [] [(0, .inr 0, .inl 31, .inl 28)] = true := by decide +kernel
set_option maxRecDepth 1000000 in
theorem q_29_0 : z_case 29 [] [] [(0, .inr 0, .inl 31, .inl 29)] = true := by decide +kernel
set_option maxRecDepth 1000000 in
theorem q_30_0 : z_case 30 [] [] [(0, .inr 0, .inl 31, .inl 30)] = true := by decide +kernel
set_option maxRecDepth 1000000 in
theorem q_31_0 : z_case 31 [] [] [(0, .inr 0, .inl 31, .inl 31)] = true := by decide +kernel
end
section
theorem y_bdi {xs : Nat → Int32} {j : Nat} {lo hi : Int} {r : yB} (h1 : lo ≤ (xs j).toInt) (h2 : (xs j).toInt ≤ hi) (hr : y_bd xs r) : y_bd xs ((j, lo, hi, false) :: r) := ⟨⟨h1, h2, fun h => by cases h⟩, hr⟩
theorem y_bdp {xs : Nat → Int32} {j : Nat} {lo hi : Int} {nz : Bool} {r : yB} (h : lo ≤ (xs j).toInt ∧ (xs j).toInt ≤ hi ∧ (nz = true → ¬ (xs j).toInt = 0)) (hr : y_bd xs r) : y_bd xs ((j, lo, hi, nz) :: r) := ⟨h, hr⟩
theorem w_0 {xs : Nat → Int32} (hk : xs 0 &&& 31 = nI 0) : z_Won xs 5 := by
  have b1 := y_lo (xs 1)
  have b2 := y_lo (xs 2)
  have b3 := y_lo (xs 3)
  have b4 := y_lo (xs 4)
  rcases (by omega : (-2147483648 ≤ (xs 1).toInt ∧ (xs 1).toInt ≤ -1) ∨ (0 ≤ (xs 1).toInt ∧ (xs 1).toInt ≤ 999) ∨ (1000 ≤ (xs 1).toInt ∧ (xs 1).toInt ≤ 2147483647)) with g1 | g1 | g1
  · exact z_use q_0_0 hk (y_bdi (by omega) (by omega) trivial)
  · exact z_use q_0_1 hk (y_bdi (by omega) (by omega) trivial)
  · exact z_use q_0_2 hk (y_bdi (by omega) (by omega) trivial)
theorem w_1 {xs : Nat → Int32} (hk : xs 0 &&& 31 = nI 1) : z_Won xs 5 := by
  have b1 := y_lo (xs 1)
  have b2 := y_lo (xs 2)
  have b3 := y_lo (xs 3)
  have b4 := y_lo (xs 4)
  exact z_use q_1_0 hk trivial
theorem w_2 {xs : Nat → Int32} (hk : xs 0 &&& 31 = nI 2) : z_Won xs 5 := by
  have b1 := y_lo (xs 1)
  have b2 := y_lo (xs 2)
  have b3 := y_lo (xs 3)
  have b4 := y_lo (xs 4)
  rcases (by omega : (-2147483648 ≤ (xs 1).toInt ∧ (xs 1).toInt ≤ -1) ∨ (0 ≤ (xs 1).toInt ∧ (xs 1).toInt ≤ 2147483647)) with g1 | g1
  · exact z_use q_2_0 hk (y_bdi (by omega) (by omega) (y_bdi (by omega) (by omega) (y_bdi (by omega) (by omega) (y_bdi (by omega) (by omega) trivial))))
  · exact z_use q_2_1 hk (y_bdi (by omega) (by omega) (y_bdi (by omega) (by omega) (y_bdi (by omega) (by omega) (y_bdi (by omega) (by omega) trivial))))
theorem w_3 {xs : Nat → Int32} (hk : xs 0 &&& 31 = nI 3) : z_Won xs 5 := by
  have b1 := y_lo (xs 1)
  have b2 := y_lo (xs 2)
  have b3 := y_lo (xs 3)
  have b4 := y_lo (xs 4)
  rcases (by omega : (-2147483648 ≤ (xs 1).toInt ∧ (xs 1).toInt ≤ -1) ∨ (0 ≤ (xs 1).toInt ∧ (xs 1).toInt ≤ 2147483647)) with g1 | g1
  · exact z_use q_3_0 hk (y_bdi (by omega) (by omega) (y_bdi (by omega) (by omega) trivial))
  · exact z_use q_3_1 hk (y_bdi (by omega) (by omega) (y_bdi (by omega) (by omega) trivial))
theorem w_4 {xs : Nat → Int32} (hk : xs 0 &&& 31 = nI 4) : z_Won xs 5 := by
  have b1 := y_lo (xs 1)
  have b2 := y_lo (xs 2)
  have b3 := y_lo (xs 3)
  have b4 := y_lo (xs 4)
  rcases (by omega : (-2147483648 ≤ (xs 1).toInt ∧ (xs 1).toInt ≤ -1) ∨ (0 ≤ (xs 1).toInt ∧ (xs 1).toInt ≤ 2147483647)) with g1 | g1
  · exact z_use q_4_0 hk (y_bdi (by omega) (by omega) trivial)
  · exact z_use q_4_1 hk (y_bdi (by omega) (by omega) trivial)
theorem w_5 {xs : Nat → Int32} (hk : xs 0 &&& 31 = nI 5) : z_Won xs 5 := by
  have b1 := y_lo (xs 1)
  have b2 := y_lo (xs 2)
  have b3 := y_lo (xs 3)
  have b4 := y_lo (xs 4)
  rcases (by omega : (-2147483648 ≤ (xs 1).toInt ∧ (xs 1).toInt ≤ -1) ∨ (0 ≤ (xs 1).toInt ∧ (xs 1).toInt ≤ 2147483647)) with g1 | g1
  · rcases (by omega : (-2147483648 ≤ (xs 2).toInt ∧ (xs 2).toInt ≤ 0) ∨ (1 ≤ (xs 2).toInt ∧ (xs 2).toInt ≤ 99) ∨ (100 ≤ (xs 2).toInt ∧ (xs 2).toInt ≤ 2147483647)) with g2 | g2 | g2
    · exact z_use q_5_0 hk (y_bdi (by omega) (by omega) (y_bdi (by omega) (by omega) trivial))
    · exact z_use q_5_1 hk (y_bdi (by omega) (by omega) (y_bdi (by omega) (by omega) trivial))
    · exact z_use q_5_2 hk (y_bdi (by omega) (by omega) (y_bdi (by omega) (by omega) trivial))
  · rcases (by omega : (-2147483648 ≤ (xs 2).toInt ∧ (xs 2).toInt ≤ 0) ∨ (1 ≤ (xs 2).toInt ∧ (xs 2).toInt ≤ 99) ∨ (100 ≤ (xs 2).toInt ∧ (xs 2).toInt ≤ 2147483647)) with g2 | g2 | g2
    · exact z_use q_5_3 hk (y_bdi (by omega) (by omega) (y_bdi (by omega) (by omega) trivial))
    · exact z_use q_5_4 hk (y_bdi (by omega) (by omega) (y_bdi (by omega) (by omega) trivial))
    · exact z_use q_5_5 hk (y_bdi (by omega) (by omega) (y_bdi (by omega) (by omega) trivial))
theorem w_6 {xs : Nat → Int32} (hk : xs 0 &&& 31 = nI 6) : z_Won xs 5 := by
  have b1 := y_lo (xs 1)
  have b2 := y_lo (xs 2)
  have b3 := y_lo (xs 3)
  have b4 := y_lo (xs 4)
  rcases (by omega : (-2147483648 ≤ (xs 1).toInt ∧ (xs 1).toInt ≤ -1) ∨ (0 ≤ (xs 1).toInt ∧ (xs 1).toInt ≤ 2147483647)) with g1 | g1
  · exact z_use q_6_0 hk (y_bdi (by omega) (by omega) (y_bdi (by omega) (by omega) trivial))
  · exact z_use q_6_1 hk (y_bdi (by omega) (by omega) (y_bdi (by omega) (by omega) trivial))
theorem w_7 {xs : Nat → Int32} (hk : xs 0 &&& 31 = nI 7) : z_Won xs 5 := by
  have b1 := y_lo (xs 1)
  have b2 := y_lo (xs 2)
  have b3 := y_lo (xs 3)
  have b4 := y_lo (xs 4)
  rcases (by omega : (-2147483648 ≤ (xs 1).toInt ∧ (xs 1).toInt ≤ -1) ∨ (0 ≤ (xs 1).toInt ∧ (xs 1).toInt ≤ 2147483647)) with g1 | g1
  · exact z_use q_7_0 hk (y_bdi (by omega) (by omega) (y_bdi (by omega) (by omega) trivial))
  · exact z_use q_7_1 hk (y_bdi (by omega) (by omega) (y_bdi (by omega) (by omega) trivial))
theorem w_8 {xs : Nat → Int32} (hk : xs 0 &&& 31 = nI 8) : z_Won xs 5 := by
  have b1 := y_lo (xs 1)
  have b2 := y_lo (xs 2)
  have b3 := y_lo (xs 3)
  have b4 := y_lo (xs 4)
  rcases (by omega : (-2147483648 ≤ (xs 1).toInt ∧ (xs 1).toInt ≤ -1) ∨ (0 ≤ (xs 1).toInt ∧ (xs 1).toInt ≤ 2147483647)) with g1 | g1
  · exact z_use q_8_0 hk (y_bdi (by omega) (by omega) (y_bdi (by omega) (by omega) (y_bdi (by omega) (by omega) trivial)))
  · exact z_use q_8_1 hk (y_bdi (by omega) (by omega) (y_bdi (by omega) (by omega) (y_bdi (by omega) (by omega) trivial)))
theorem w_9 {xs : Nat → Int32} (hk : xs 0 &&& 31 = nI 9) : z_Won xs 5 := by
  have b1 := y_lo (xs 1)
  have b2 := y_lo (xs 2)
  have b3 := y_lo (xs 3)
  have b4 := y_lo (xs 4)
  rcases (by omega : (-2147483648 ≤ (xs 1).toInt ∧ (xs 1).toInt ≤ -1) ∨ (0 ≤ (xs 1).toInt ∧ (xs 1).toInt ≤ 0) ∨ (1 ≤ (xs 1).toInt ∧ (xs 1).toInt ≤ 1) ∨ (2 ≤ (xs 1).toInt ∧ (xs 1).toInt ≤ 2) ∨ (3 ≤ (xs 1).toInt ∧ (xs 1).toInt ≤ 3) ∨ (4 ≤ (xs 1).toInt ∧ (xs 1).toInt ≤ 4) ∨ (5 ≤ (xs 1).toInt ∧ (xs 1).toInt ≤ 5) ∨ (6 ≤ (xs 1).toInt ∧ (xs 1).toInt ≤ 6) ∨ (7 ≤ (xs 1).toInt ∧ (xs 1).toInt ≤ 2147483647)) with g1 | g1 | g1 | g1 | g1 | g1 | g1 | g1 | g1
  · exact z_use q_9_0 hk (y_bdi (by omega) (by omega) trivial)
  · exact z_use q_9_1 hk (y_bdi (by omega) (by omega) trivial)
  · exact z_use q_9_2 hk (y_bdi (by omega) (by omega) trivial)
  · exact z_use q_9_3 hk (y_bdi (by omega) (by omega) trivial)
  · exact z_use q_9_4 hk (y_bdi (by omega) (by omega) trivial)
  · exact z_use q_9_5 hk (y_bdi (by omega) (by omega) trivial)
  · exact z_use q_9_6 hk (y_bdi (by omega) (by omega) trivial)
  · exact z_use q_9_7 hk (y_bdi (by omega) (by omega) trivial)
  · exact z_use q_9_8 hk (y_bdi (by omega) (by omega) trivial)
theorem w_10 {xs : Nat → Int32} (hk : xs 0 &&& 31 = nI 10) : z_Won xs 5 := by
  have b1 := y_lo (xs 1)
  have b2 := y_lo (xs 2)
  have b3 := y_lo (xs 3)
  have b4 := y_lo (xs 4)
  rcases (by omega : (-2147483648 ≤ (xs 1).toInt ∧ (xs 1).toInt ≤ -1) ∨ (0 ≤ (xs 1).toInt ∧ (xs 1).toInt ≤ 2147483647)) with g1 | g1
  · exact z_use q_10_0 hk (y_bdi (by omega) (by omega) trivial)
  · exact z_use q_10_1 hk (y_bdi (by omega) (by omega) trivial)
theorem w_11 {xs : Nat → Int32} (hk : xs 0 &&& 31 = nI 11) : z_Won xs 5 := by
  have b1 := y_lo (xs 1)
  have b2 := y_lo (xs 2)
  have b3 := y_lo (xs 3)
  have b4 := y_lo (xs 4)
  rcases (by omega : (-2147483648 ≤ (xs 1).toInt ∧ (xs 1).toInt ≤ -1) ∨ (0 ≤ (xs 1).toInt ∧ (xs 1).toInt ≤ 0) ∨ (1 ≤ (xs 1).toInt ∧ (xs 1).toInt ≤ 1) ∨ (2 ≤ (xs 1).toInt ∧ (xs 1).toInt ≤ 2147483647)) with g1 | g1 | g1 | g1
  · exact z_use q_11_0 hk (y_bdi (by omega) (by omega) trivial)
  · exact z_use q_11_1 hk (y_bdi (by omega) (by omega) trivial)
  · exact z_use q_11_2 hk (y_bdi (by omega) (by omega) trivial)
  · exact z_use q_11_3 hk (y_bdi (by omega) (by omega) trivial)
theorem w_12 {xs : Nat → Int32} (hk : xs 0 &&& 31 = nI 12) : z_Won xs 5 := by
  have b1 := y_lo (xs 1)
  have b2 := y_lo (xs 2)
  have b3 := y_lo (xs 3)
  have b4 := y_lo (xs 4)
  rcases (by omega : (-2147483648 ≤ (xs 1).toInt ∧ (xs 1).toInt ≤ -1) ∨ (0 ≤ (xs 1).toInt ∧ (xs 1).toInt ≤ 2147483647)) with g1 | g1
  · exact z_use q_12_0 hk (y_bdi (by omega) (by omega) (y_bdi (by omega) (by omega) trivial))
  · exact z_use q_12_1 hk (y_bdi (by omega) (by omega) (y_bdi (by omega) (by omega) trivial))
theorem w_13 {xs : Nat → Int32} (hk : xs 0 &&& 31 = nI 13) : z_Won xs 5 := by
  have b1 := y_lo (xs 1)
  have b2 := y_lo (xs 2)
  have b3 := y_lo (xs 3)
  have b4 := y_lo (xs 4)
  exact z_use q_13_0 hk trivial
theorem w_14 {xs : Nat → Int32} (hk : xs 0 &&& 31 = nI 14) : z_Won xs 5 := by
  have b1 := y_lo (xs 1)
  have b2 := y_lo (xs 2)
  have b3 := y_lo (xs 3)
  have b4 := y_lo (xs 4)
  rcases (by omega : (-2147483648 ≤ (xs 1).toInt ∧ (xs 1).toInt ≤ -1) ∨ (0 ≤ (xs 1).toInt ∧ (xs 1).toInt ≤ 0) ∨ (1 ≤ (xs 1).toInt ∧ (xs 1).toInt ≤ 2147483647)) with g1 | g1 | g1
  · exact z_use q_14_0 hk (y_bdi (by omega) (by omega) (y_bdi (by omega) (by omega) trivial))
  · rcases (by omega : (-2147483648 ≤ (xs 2).toInt ∧ (xs 2).toInt ≤ -1) ∨ (0 ≤ (xs 2).toInt ∧ (xs 2).toInt ≤ 0) ∨ (1 ≤ (xs 2).toInt ∧ (xs 2).toInt ≤ 1) ∨ (2 ≤ (xs 2).toInt ∧ (xs 2).toInt ≤ 2) ∨ (3 ≤ (xs 2).toInt ∧ (xs 2).toInt ≤ 3) ∨ (4 ≤ (xs 2).toInt ∧ (xs 2).toInt ≤ 2147483647)) with g2 | g2 | g2 | g2 | g2 | g2
    · exact z_use q_14_1 hk (y_bdi (by omega) (by omega) (y_bdi (by omega) (by omega) trivial))
    · exact z_use q_14_2 hk (y_bdi (by omega) (by omega) (y_bdi (by omega) (by omega) trivial))
    · exact z_use q_14_3 hk (y_bdi (by omega) (by omega) (y_bdi (by omega) (by omega) trivial))
    · exact z_use q_14_4 hk (y_bdi (by omega) (by omega) (y_bdi (by omega) (by omega) trivial))
    · exact z_use q_14_5 hk (y_bdi (by omega) (by omega) (y_bdi (by omega) (by omega) trivial))
    · exact z_use q_14_6 hk (y_bdi (by omega) (by omega) (y_bdi (by omega) (by omega) trivial))
  · exact z_use q_14_7 hk (y_bdi (by omega) (by omega) (y_bdi (by omega) (by omega) trivial))
theorem w_15 {xs : Nat → Int32} (hk : xs 0 &&& 31 = nI 15) : z_Won xs 5 := by
  have b1 := y_lo (xs 1)
  have b2 := y_lo (xs 2)
  have b3 := y_lo (xs 3)
  have b4 := y_lo (xs 4)
  rcases (by omega : (-2147483648 ≤ (xs 1).toInt ∧ (xs 1).toInt ≤ -1) ∨ (0 ≤ (xs 1).toInt ∧ (xs 1).toInt ≤ 0) ∨ (1 ≤ (xs 1).toInt ∧ (xs 1).toInt ≤ 1) ∨ (2 ≤ (xs 1).toInt ∧ (xs 1).toInt ≤ 2) ∨ (3 ≤ (xs 1).toInt ∧ (xs 1).toInt ≤ 2147483647)) with g1 | g1 | g1 | g1 | g1
  · exact z_use q_15_0 hk (y_bdi (by omega) (by omega) trivial)
  · exact z_use q_15_1 hk (y_bdi (by omega) (by omega) trivial)
  · exact z_use q_15_2 hk (y_bdi (by omega) (by omega) trivial)
  · exact z_use q_15_3 hk (y_bdi (by omega) (by omega) trivial)
  · exact z_use q_15_4 hk (y_bdi (by omega) (by omega) trivial)
theorem w_16 {xs : Nat → Int32} (hk : xs 0 &&& 31 = nI 16) : z_Won xs 5 := by
  have b1 := y_lo (xs 1)
  have b2 := y_lo (xs 2)
  have b3 := y_lo (xs 3)
  have b4 := y_lo (xs 4)
  rcases (by omega : (-2147483648 ≤ (xs 1).toInt ∧ (xs 1).toInt ≤ -1) ∨ (0 ≤ (xs 1).toInt ∧ (xs 1).toInt ≤ 2147483647)) with g1 | g1
  · exact z_use q_16_0 hk (y_bdi (by omega) (by omega) (y_bdi (by omega) (by omega) trivial))
  · exact z_use q_16_1 hk (y_bdi (by omega) (by omega) (y_bdi (by omega) (by omega) trivial))
theorem w_17 {xs : Nat → Int32} (hk : xs 0 &&& 31 = nI 17) : z_Won xs 5 := by
  have b1 := y_lo (xs 1)
  have b2 := y_lo (xs 2)
  have b3 := y_lo (xs 3)
  have b4 := y_lo (xs 4)
  rcases (by omega : (-2147483648 ≤ (xs 1).toInt ∧ (xs 1).toInt ≤ -1) ∨ (0 ≤ (xs 1).toInt ∧ (xs 1).toInt ≤ 0) ∨ (1 ≤ (xs 1).toInt ∧ (xs 1).toInt ≤ 1) ∨ (2 ≤ (xs 1).toInt ∧ (xs 1).toInt ≤ 2) ∨ (3 ≤ (xs 1).toInt ∧ (xs 1).toInt ≤ 3) ∨ (4 ≤ (xs 1).toInt ∧ (xs 1).toInt ≤ 2147483647)) with g1 | g1 | g1 | g1 | g1 | g1
  · exact z_use q_17_0 hk (y_bdi (by omega) (by omega) trivial)
  · exact z_use q_17_1 hk (y_bdi (by omega) (by omega) trivial)
  · exact z_use q_17_2 hk (y_bdi (by omega) (by omega) trivial)
  · exact z_use q_17_3 hk (y_bdi (by omega) (by omega) trivial)
  · exact z_use q_17_4 hk (y_bdi (by omega) (by omega) trivial)
  · exact z_use q_17_5 hk (y_bdi (by omega) (by omega) trivial)
theorem w_18 {xs : Nat → Int32} (hk : xs 0 &&& 31 = nI 18) : z_Won xs 5 := by
  have b1 := y_lo (xs 1)
  have b2 := y_lo (xs 2)
  have b3 := y_lo (xs 3)
  have b4 := y_lo (xs 4)
  rcases (by omega : (-2147483648 ≤ (xs 1).toInt ∧ (xs 1).toInt ≤ -1) ∨ (0 ≤ (xs 1).toInt ∧ (xs 1).toInt ≤ 2147483647)) with g1 | g1
  · exact z_use q_18_0 hk (y_bdi (by omega) (by omega) trivial)
  · exact z_use q_18_1 hk (y_bdi (by omega) (by omega) trivial)
theorem w_20 {xs : Nat → Int32} (hk : xs 0 &&& 31 = nI 20) : z_Won xs 5 := by
  have b1 := y_lo (xs 1)
  have b2 := y_lo (xs 2)
  have b3 := y_lo (xs 3)
  have b4 := y_lo (xs 4)
  exact z_use q_20_0 hk trivial
theorem w_21 {xs : Nat → Int32} (hk : xs 0 &&& 31 = nI 21) : z_Won xs 5 := by
  have b1 := y_lo (xs 1)
  have b2 := y_lo (xs 2)
  have b3 := y_lo (xs 3)
  have b4 := y_lo (xs 4)
  exact z_use q_21_0 hk trivial
theorem w_22 {xs : Nat → Int32} (hk : xs 0 &&& 31 = nI 22) : z_Won xs 5 := by
  have b1 := y_lo (xs 1)
  have b2 := y_lo (xs 2)
  have b3 := y_lo (xs 3)
  have b4 := y_lo (xs 4)
  exact z_use q_22_0 hk trivial
theorem w_23 {xs : Nat → Int32} (hk : xs 0 &&& 31 = nI 23) : z_Won xs 5 := by
  have b1 := y_lo (xs 1)
  have b2 := y_lo (xs 2)
  have b3 := y_lo (xs 3)
  have b4 := y_lo (xs 4)
  exact z_use q_23_0 hk trivial
theorem w_24 {xs : Nat → Int32} (hk : xs 0 &&& 31 = nI 24) : z_Won xs 5 := by
  have b1 := y_lo (xs 1)
  have b2 := y_lo (xs 2)
  have b3 := y_lo (xs 3)
  have b4 := y_lo (xs 4)
  rcases (by omega : (-2147483648 ≤ (xs 1).toInt ∧ (xs 1).toInt ≤ -1) ∨ (0 ≤ (xs 1).toInt ∧ (xs 1).toInt ≤ 0) ∨ (1 ≤ (xs 1).toInt ∧ (xs 1).toInt ≤ 1) ∨ (2 ≤ (xs 1).toInt ∧ (xs 1).toInt ≤ 2147483647)) with g1 | g1 | g1 | g1
  · exact z_use q_24_0 hk (y_bdi (by omega) (by omega) trivial)
  · exact z_use q_24_1 hk (y_bdi (by omega) (by omega) trivial)
  · exact z_use q_24_2 hk (y_bdi (by omega) (by omega) trivial)
  · exact z_use q_24_3 hk (y_bdi (by omega) (by omega) trivial)
theorem w_25 {xs : Nat → Int32} (hk : xs 0 &&& 31 = nI 25) : z_Won xs 5 := by
  have b1 := y_lo (xs 1)
  have b2 := y_lo (xs 2)
  have b3 := y_lo (xs 3)
  have b4 := y_lo (xs 4)
  rcases (by omega : (-2147483648 ≤ (xs 1).toInt ∧ (xs 1).toInt ≤ -1) ∨ (0 ≤ (xs 1).toInt ∧ (xs 1).toInt ≤ 0) ∨ (1 ≤ (xs 1).toInt ∧ (xs 1).toInt ≤ 1) ∨ (2 ≤ (xs 1).toInt ∧ (xs 1).toInt ≤ 2147483647)) with g1 | g1 | g1 | g1
  · exact z_use q_25_0 hk (y_bdi (by omega) (by omega) trivial)
  · exact z_use q_25_1 hk (y_bdi (by omega) (by omega) trivial)
  · exact z_use q_25_2 hk (y_bdi (by omega) (by omega) trivial)
  · exact z_use q_25_3 hk (y_bdi (by omega) (by omega) trivial)
theorem w_26 {xs : Nat → Int32} (hk : xs 0 &&& 31 = nI 26) : z_Won xs 5 := z_use q_26_0 hk trivial
theorem w_27 {xs : Nat → Int32} (hk : xs 0 &&& 31 = nI 27) : z_Won xs 5 := z_use q_27_0 hk trivial
theorem w_28 {xs : Nat → Int32} (hk : xs 0 &&& 31 = nI 28) : z_Won xs 5 := z_use q_28_0 hk trivial
theorem w_29 {xs : Nat → Int32} (hk : xs 0 &&& 31 = nI 29) : z_Won xs 5 := z_use q_29_0 hk trivial
theorem w_30 {xs : Nat → Int32} (hk : xs 0 &&& 31 = nI 30) : z_Won xs 5 := z_use q_30_0 hk trivial
theorem w_31 {xs : Nat → Int32} (hk : xs 0 &&& 31 = nI 31) : z_Won xs 5 := z_use q_31_0 hk trivial
end
section
/-! put: the argument's bytes; the unknowns of a run of put -/
def p_c (xs : Nat → Int32) : Int64 := ((xs 1).toInt64 <<< ((nI 32).toInt64 &&& 63)) ||| ((xs 2).toInt64 &&& lN 4294967295)
def p_sh (x : Int64) (n : Nat) : Int64 := (x.toUInt64 >>> ((nI n).toInt64.toUInt64 &&& Int64.toUInt64 63)).toInt64
def p_r (c : Int64) : Nat → Int64
  | 0 => c
  | k + 1 => p_sh (p_r c k) 8
def p_i2c (x : Int32) : Int32 := (x.toUInt32 % 65536).toInt32
def p_la (xs : Nat → Int32) : List Int64 := [0, (xs 1).toInt64, (xs 2).toInt64, (xs 1).toInt64 <<< ((nI 32).toInt64 &&& 63), (xs 2).toInt64 &&& lN 4294967295, p_r (p_c xs) 0, p_r (p_c xs) 1, p_r (p_c xs) 2, p_r (p_c xs) 3, p_r (p_c xs) 4, p_r (p_c xs) 5, p_r (p_c xs) 6, p_r (p_c xs) 7, p_r (p_c xs) 8, p_r (p_c xs) 0 &&& lN 255, p_r (p_c xs) 1 &&& lN 255, p_r (p_c xs) 2 &&& lN 255, p_r (p_c xs) 3 &&& lN 255, p_r (p_c xs) 4 &&& lN 255, p_r (p_c xs) 5 &&& lN 255, p_r (p_c xs) 6 &&& lN 255, p_r (p_c xs) 7 &&& lN 255, p_sh (p_c xs) 0, p_sh (p_c xs) 8, p_sh (p_c xs) 16, p_sh (p_c xs) 24, p_sh (p_c xs) 32, p_sh (p_c xs) 40, p_sh (p_c xs) 48, p_sh (p_c xs) 56, p_sh (p_c xs) 0 &&& lN 255, p_sh (p_c xs) 8 &&& lN 255, p_sh (p_c xs) 16 &&& lN 255, p_sh (p_c xs) 24 &&& lN 255, p_sh (p_c xs) 32 &&& lN 255, p_sh (p_c xs) 40 &&& lN 255, p_sh (p_c xs) 48 &&& lN 255, p_sh (p_c xs) 56 &&& lN 255]
def p_rh (xs : Nat → Int32) : List Int32 := [xs 0, xs 1, xs 2, xs 3, xs 4, lg_cmp (p_r (p_c xs) 0) (lN 0), lg_cmp (p_r (p_c xs) 1) (lN 0), lg_cmp (p_r (p_c xs) 2) (lN 0), lg_cmp (p_r (p_c xs) 3) (lN 0), lg_cmp (p_r (p_c xs) 4) (lN 0), lg_cmp (p_r (p_c xs) 5) (lN 0), lg_cmp (p_r (p_c xs) 6) (lN 0), lg_cmp (p_r (p_c xs) 7) (lN 0), lg_cmp (p_r (p_c xs) 8) (lN 0), lg_cmp (p_r (p_c xs) 0 &&& lN 255) (lN 33), lg_cmp (p_r (p_c xs) 1 &&& lN 255) (lN 33), lg_cmp (p_r (p_c xs) 2 &&& lN 255) (lN 33), lg_cmp (p_r (p_c xs) 3 &&& lN 255) (lN 33), lg_cmp (p_r (p_c xs) 4 &&& lN 255) (lN 33), lg_cmp (p_r (p_c xs) 5 &&& lN 255) (lN 33), lg_cmp (p_r (p_c xs) 6 &&& lN 255) (lN 33), lg_cmp (p_r (p_c xs) 7 &&& lN 255) (lN 33), lg_cmp (p_r (p_c xs) 0 &&& lN 255) (lN 126), lg_cmp (p_r (p_c xs) 1 &&& lN 255) (lN 126), lg_cmp (p_r (p_c xs) 2 &&& lN 255) (lN 126), lg_cmp (p_r (p_c xs) 3 &&& lN 255) (lN 126), lg_cmp (p_r (p_c xs) 4 &&& lN 255) (lN 126), lg_cmp (p_r (p_c xs) 5 &&& lN 255) (lN 126), lg_cmp (p_r (p_c xs) 6 &&& lN 255) (lN 126), lg_cmp (p_r (p_c xs) 7 &&& lN 255) (lN 126), lg_cmp (p_r (p_c xs) 0 &&& lN 255) (lN 0), lg_cmp (p_r (p_c xs) 1 &&& lN 255) (lN 0), lg_cmp (p_r (p_c xs) 2 &&& lN 255) (lN 0), lg_cmp (p_r (p_c xs) 3 &&& lN 255) (lN 0), lg_cmp (p_r (p_c xs) 4 &&& lN 255) (lN 0), lg_cmp (p_r (p_c xs) 5 &&& lN 255) (lN 0), lg_cmp (p_r (p_c xs) 6 &&& lN 255) (lN 0), lg_cmp (p_r (p_c xs) 7 &&& lN 255) (lN 0), (p_r (p_c xs) 0 &&& lN 255).toInt32, (p_r (p_c xs) 1 &&& lN 255).toInt32, (p_r (p_c xs) 2 &&& lN 255).toInt32, (p_r (p_c xs) 3 &&& lN 255).toInt32, (p_r (p_c xs) 4 &&& lN 255).toInt32, (p_r (p_c xs) 5 &&& lN 255).toInt32, (p_r (p_c xs) 6 &&& lN 255).toInt32, (p_r (p_c xs) 7 &&& lN 255).toInt32, (p_sh (p_c xs) 0 &&& lN 255).toInt32, (p_sh (p_c xs) 8 &&& lN 255).toInt32, (p_sh (p_c xs) 16 &&& lN 255).toInt32, (p_sh (p_c xs) 24 &&& lN 255).toInt32, (p_sh (p_c xs) 32 &&& lN 255).toInt32, (p_sh (p_c xs) 40 &&& lN 255).toInt32, (p_sh (p_c xs) 48 &&& lN 255).toInt32, (p_sh (p_c xs) 56 &&& lN 255).toInt32, p_i2c ((p_sh (p_c xs) 0 &&& lN 255).toInt32), p_i2c ((p_r (p_c xs) 1 &&& lN 255).toInt32), p_i2c ((p_sh (p_c xs) 16 &&& lN 255).toInt32), p_i2c ((p_sh (p_c xs) 24 &&& lN 255).toInt32), p_i2c ((p_sh (p_c xs) 32 &&& lN 255).toInt32), p_i2c ((p_sh (p_c xs) 40 &&& lN 255).toInt32), p_i2c ((p_sh (p_c xs) 48 &&& lN 255).toInt32), p_i2c ((p_sh (p_c xs) 56 &&& lN 255).toInt32), p_i2c (p_i2c ((p_sh (p_c xs) 0 &&& lN 255).toInt32)), p_i2c (p_i2c ((p_r (p_c xs) 1 &&& lN 255).toInt32)), p_i2c (p_i2c ((p_sh (p_c xs) 16 &&& lN 255).toInt32)), p_i2c (p_i2c ((p_sh (p_c xs) 24 &&& lN 255).toInt32)), p_i2c (p_i2c ((p_sh (p_c xs) 32 &&& lN 255).toInt32)), p_i2c (p_i2c ((p_sh (p_c xs) 40 &&& lN 255).toInt32)), p_i2c (p_i2c ((p_sh (p_c xs) 48 &&& lN 255).toInt32)), p_i2c (p_i2c ((p_sh (p_c xs) 56 &&& lN 255).toInt32))]
def p_tb : yT := [(0, .inr 0, .inl 31, .inl 19), (16, .inr 1, .inr 1, .inr 1), (16, .inr 2, .inr 2, .inr 2), (12, .inr 1, .inl 32, .inr 3), (10, .inr 2, .inl 4294967295, .inr 4), (11, .inr 3, .inr 4, .inr 5), (13, .inr 5, .inl 8, .inr 6), (10, .inr 5, .inl 255, .inr 14), (14, .inr 14, .inl 33, .inr 14), (14, .inr 14, .inl 126, .inr 22), (14, .inr 14, .inl 0, .inr 30), (15, .inr 14, .inr 14, .inr 38), (13, .inr 6, .inl 8, .inr 7), (10, .inr 6, .inl 255, .inr 15), (14, .inr 15, .inl 33, .inr 15), (14, .inr 15, .inl 126, .inr 23), (14, .inr 15, .inl 0, .inr 31), (15, .inr 15, .inr 15, .inr 39), (13, .inr 7, .inl 8, .inr 8), (10, .inr 7, .inl 255, .inr 16), (14, .inr 16, .inl 33, .inr 16), (14, .inr 16, .inl 126, .inr 24), (14, .inr 16, .inl 0, .inr 32), (15, .inr 16, .inr 16, .inr 40), (13, .inr 8, .inl 8, .inr 9), (10, .inr 8, .inl 255, .inr 17), (14, .inr 17, .inl 33, .inr 17), (14, .inr 17, .inl 126, .inr 25), (14, .inr 17, .inl 0, .inr 33), (15, .inr 17, .inr 17, .inr 41), (13, .inr 9, .inl 8, .inr 10), (10, .inr 9, .inl 255, .inr 18), (14, .inr 18, .inl 33, .inr 18), (14, .inr 18, .inl 126, .inr 26), (14, .inr 18, .inl 0, .inr 34), (15, .inr 18, .inr 18, .inr 42), (13, .inr 10, .inl 8, .inr 11), (10, .inr 10, .inl 255, .inr 19), (14, .inr 19, .inl 33, .inr 19), (14, .inr 19, .inl 126, .inr 27), (14, .inr 19, .inl 0, .inr 35), (15, .inr 19, .inr 19, .inr 43), (13, .inr 11, .inl 8, .inr 12), (10, .inr 11, .inl 255, .inr 20), (14, .inr 20, .inl 33, .inr 20), (14, .inr 20, .inl 126, .inr 28), (14, .inr 20, .inl 0, .inr 36), (15, .inr 20, .inr 20, .inr 44), (13, .inr 12, .inl 8, .inr 13), (10, .inr 12, .inl 255, .inr 21), (14, .inr 21, .inl 33, .inr 21), (14, .inr 21, .inl 126, .inr 29), (14, .inr 21, .inl 0, .inr 37), (15, .inr 21, .inr 21, .inr 45), (14, .inr 5, .inl 0, .inr 5), (14, .inr 6, .inl 0, .inr 6), (14, .inr 7, .inl 0, .inr 7), (14, .inr 8, .inl 0, .inr 8), (14, .inr 9, .inl 0, .inr 9), (14, .inr 10, .inl 0, .inr 10), (14, .inr 11, .inl 0, .inr 11), (14, .inr 12, .inl 0, .inr 12), (14, .inr 13, .inl 0, .inr 13), (13, .inr 5, .inl 0, .inr 22), (10, .inr 22, .inl 255, .inr 30), (15, .inr 30, .inr 30, .inr 46), (2, .inr 46, .inr 46, .inr 54), (2, .inr 54, .inr 54, .inr 62), (2, .inr 39, .inr 39, .inr 55), (2, .inr 55, .inr 55, .inr 63), (13, .inr 5, .inl 16, .inr 24), (10, .inr 24, .inl 255, .inr 32), (15, .inr 32, .inr 32, .inr 48), (2, .inr 48, .inr 48, .inr 56), (2, .inr 56, .inr 56, .inr 64), (13, .inr 5, .inl 24, .inr 25), (10, .inr 25, .inl 255, .inr 33), (15, .inr 33, .inr 33, .inr 49), (2, .inr 49, .inr 49, .inr 57), (2, .inr 57, .inr 57, .inr 65), (13, .inr 5, .inl 32, .inr 26), (10, .inr 26, .inl 255, .inr 34), (15, .inr 34, .inr 34, .inr 50), (2, .inr 50, .inr 50, .inr 58), (2, .inr 58, .inr 58, .inr 66), (13, .inr 5, .inl 40, .inr 27), (10, .inr 27, .inl 255, .inr 35), (15, .inr 35, .inr 35, .inr 51), (2, .inr 51, .inr 51, .inr 59), (2, .inr 59, .inr 59, .inr 67), (13, .inr 5, .inl 48, .inr 28), (10, .inr 28, .inl 255, .inr 36), (15, .inr 36, .inr 36, .inr 52), (2, .inr 52, .inr 52, .inr 60), (2, .inr 60, .inr 60, .inr 68), (13, .inr 5, .inl 56, .inr 29), (10, .inr 29, .inl 255, .inr 37), (15, .inr 37, .inr 37, .inr 53), (2, .inr 53, .inr 53, .inr 61), (2, .inr 61, .inr 61, .inr 69)]
abbrev p_k (xs : Nat → Int32) (b : Nat) : yK := (fun j => (p_rh xs).getD j 0, fun j => (p_la xs).getD j 0, b, 5)
theorem p_T {xs : Nat → Int32} (hk : xs 0 &&& 31 = nI 19) (b : Nat) : y_T (p_k xs b) p_tb := by
  unfold y_T p_tb
  exact List.forall_mem_cons.mpr ⟨hk, List.forall_mem_cons.mpr ⟨rfl, List.forall_mem_cons.mpr ⟨rfl, List.forall_mem_cons.mpr ⟨rfl, List.forall_mem_cons.mpr ⟨rfl, List.forall_mem_cons.mpr ⟨rfl, List.forall_mem_cons.mpr ⟨rfl, List.forall_mem_cons.mpr ⟨rfl, List.forall_mem_cons.mpr ⟨rfl, List.forall_mem_cons.mpr ⟨rfl, List.forall_mem_cons.mpr ⟨rfl, List.forall_mem_cons.mpr ⟨rfl, List.forall_mem_cons.mpr ⟨rfl, List.forall_mem_cons.mpr ⟨rfl, List.forall_mem_cons.mpr ⟨rfl, List.forall_mem_cons.mpr ⟨rfl, List.forall_mem_cons.mpr ⟨rfl, List.forall_mem_cons.mpr ⟨rfl, List.forall_mem_cons.mpr ⟨rfl, List.forall_mem_cons.mpr ⟨rfl, List.forall_mem_cons.mpr ⟨rfl, List.forall_mem_cons.mpr ⟨rfl, List.forall_mem_cons.mpr ⟨rfl, List.forall_mem_cons.mpr ⟨rfl, List.forall_mem_cons.mpr ⟨rfl, List.forall_mem_cons.mpr ⟨rfl, List.forall_mem_cons.mpr ⟨rfl, List.forall_mem_cons.mpr ⟨rfl, List.forall_mem_cons.mpr ⟨rfl, List.forall_mem_cons.mpr ⟨rfl, List.forall_mem_cons.mpr ⟨rfl, List.forall_mem_cons.mpr ⟨rfl, List.forall_mem_cons.mpr ⟨rfl, List.forall_mem_cons.mpr ⟨rfl, List.forall_mem_cons.mpr ⟨rfl, List.forall_mem_cons.mpr ⟨rfl, List.forall_mem_cons.mpr ⟨rfl, List.forall_mem_cons.mpr ⟨rfl, List.forall_mem_cons.mpr ⟨rfl, List.forall_mem_cons.mpr ⟨rfl, List.forall_mem_cons.mpr ⟨rfl, List.forall_mem_cons.mpr ⟨rfl, List.forall_mem_cons.mpr ⟨rfl, List.forall_mem_cons.mpr ⟨rfl, List.forall_mem_cons.mpr ⟨rfl, List.forall_mem_cons.mpr ⟨rfl, List.forall_mem_cons.mpr ⟨rfl, List.forall_mem_cons.mpr ⟨rfl, List.forall_mem_cons.mpr ⟨rfl, List.forall_mem_cons.mpr ⟨rfl, List.forall_mem_cons.mpr ⟨rfl, List.forall_mem_cons.mpr ⟨rfl, List.forall_mem_cons.mpr ⟨rfl, List.forall_mem_cons.mpr ⟨rfl, List.forall_mem_cons.mpr ⟨rfl, List.forall_mem_cons.mpr ⟨rfl, List.forall_mem_cons.mpr ⟨rfl, List.forall_mem_cons.mpr ⟨rfl, List.forall_mem_cons.mpr ⟨rfl, List.forall_mem_cons.mpr ⟨rfl, List.forall_mem_cons.mpr ⟨rfl, List.forall_mem_cons.mpr ⟨rfl, List.forall_mem_cons.mpr ⟨rfl, List.forall_mem_cons.mpr ⟨rfl, List.forall_mem_cons.mpr ⟨rfl, List.forall_mem_cons.mpr ⟨rfl, List.forall_mem_cons.mpr ⟨rfl, List.forall_mem_cons.mpr ⟨rfl, List.forall_mem_cons.mpr ⟨rfl, List.forall_mem_cons.mpr ⟨rfl, List.forall_mem_cons.mpr ⟨rfl, List.forall_mem_cons.mpr ⟨rfl, List.forall_mem_cons.mpr ⟨rfl, List.forall_mem_cons.mpr ⟨rfl, List.forall_mem_cons.mpr ⟨rfl, List.forall_mem_cons.mpr ⟨rfl, List.forall_mem_cons.mpr ⟨rfl, List.forall_mem_cons.mpr ⟨rfl, List.forall_mem_cons.mpr ⟨rfl, List.forall_mem_cons.mpr ⟨rfl, List.forall_mem_cons.mpr ⟨rfl, List.forall_mem_cons.mpr ⟨rfl, List.forall_mem_cons.mpr ⟨rfl, List.forall_mem_cons.mpr ⟨rfl, List.forall_mem_cons.mpr ⟨rfl, List.forall_mem_cons.mpr ⟨rfl, List.forall_mem_cons.mpr ⟨rfl, List.forall_mem_cons.mpr ⟨rfl, List.forall_mem_cons.mpr ⟨rfl, List.forall_mem_cons.mpr ⟨rfl, List.forall_mem_cons.mpr ⟨rfl, List.forall_mem_cons.mpr ⟨rfl, List.forall_mem_cons.mpr ⟨rfl, List.forall_mem_cons.mpr ⟨rfl, List.forall_mem_cons.mpr ⟨rfl, List.forall_mem_cons.mpr ⟨rfl, List.forall_mem_cons.mpr ⟨rfl, List.forall_mem_cons.mpr ⟨rfl, List.forall_mem_cons.mpr ⟨rfl, List.forall_mem_cons.mpr ⟨rfl, fun _ h => absurd h List.not_mem_nil⟩⟩⟩⟩⟩⟩⟩⟩⟩⟩⟩⟩⟩⟩⟩⟩⟩⟩⟩⟩⟩⟩⟩⟩⟩⟩⟩⟩⟩⟩⟩⟩⟩⟩⟩⟩⟩⟩⟩⟩⟩⟩⟩⟩⟩⟩⟩⟩⟩⟩⟩⟩⟩⟩⟩⟩⟩⟩⟩⟩⟩⟩⟩⟩⟩⟩⟩⟩⟩⟩⟩⟩⟩⟩⟩⟩⟩⟩⟩⟩⟩⟩⟩⟩⟩⟩⟩⟩⟩⟩⟩⟩⟩⟩⟩⟩⟩⟩⟩⟩
def z_caseP (bd : yB) (hy : yF) : Bool := hy.all (y_chk1 bd) && z_run 5 hy p_tb
theorem z_useP {xs : Nat → Int32} {bd : yB} {hy : yF} (h : z_caseP bd hy = true) (hk : xs 0 &&& 31 = nI 19) (hb : y_bd (fun j => (p_rh xs).getD j 0) bd) : z_Won xs 5 := by
  unfold z_caseP at h
  simp only [Bool.and_eq_true] at h
  refine fun b => ⟨_, _, hy, p_tb, fun j hj => ?_, y_chk_ok (κ := p_k xs b) hb h.1, p_T hk b, h.2⟩
  rcases (by omega : j = 0 ∨ j = 1 ∨ j = 2 ∨ j = 3 ∨ j = 4) with rfl | rfl | rfl | rfl | rfl <;> rfl
/-- what is left of the argument behind k bytes; the k-th byte -/
def p_R (xs : Nat → Int32) (k : Nat) : Nat := (p_c xs).toUInt64.toNat / 256 ^ k
def p_N (xs : Nat → Int32) (k : Nat) : Nat := p_R xs k % 256
theorem p_N0 {xs : Nat → Int32} {k : Nat} (h : p_R xs k = 0) : p_N xs k = 0 := by
  unfold p_N
  rw [h]
theorem p_split (xs : Nat → Int32) (k : Nat) : p_N xs k = 0 ∨ (1 ≤ p_N xs k ∧ p_N xs k ≤ 32) ∨ (127 ≤ p_N xs k ∧ p_N xs k ≤ 255) ∨ (33 ≤ p_N xs k ∧ p_N xs k ≤ 126) := by
  have h : p_N xs k < 256 := Nat.mod_lt _ (by decide)
  omega
theorem p_R8 (xs : Nat → Int32) : p_R xs 8 = 0 := by
  have h := (p_c xs).toUInt64.toNat_lt
  unfold p_R
  exact Nat.div_eq_of_lt h
theorem p_shN (x : Int64) : (p_sh x 8).toUInt64.toNat = x.toUInt64.toNat / 256 := by
  unfold p_sh
  rw [show (nI 8).toInt64.toUInt64 &&& Int64.toUInt64 63 = 8 from by decide +kernel]
  show (x.toUInt64 >>> 8).toNat = _
  rw [UInt64.toNat_shiftRight]
  rw [show (8 : UInt64).toNat % 64 = 8 from rfl, Nat.shiftRight_eq_div_pow]
theorem p_rN (xs : Nat → Int32) (k : Nat) : (p_r (p_c xs) k).toUInt64.toNat = p_R xs k := by
  induction k with
  | zero => unfold p_R; simp [p_r]
  | succ k ih =>
    show (p_sh (p_r (p_c xs) k) 8).toUInt64.toNat = _
    rw [p_shN, ih]
    unfold p_R
    rw [Nat.div_div_eq_div_mul, Nat.pow_succ]
theorem p_lU (x : Int64) (n : Nat) (h : x.toUInt64.toNat = n) : x = lN n := by
  apply Int64.toBitVec_inj.mp
  apply BitVec.eq_of_toNat_eq
  have e1 : x.toBitVec.toNat = n := h
  rw [e1]
  show n = (BitVec.ofNat 64 n).toNat
  rw [BitVec.toNat_ofNat, Nat.mod_eq_of_lt]
  rw [← e1]
  exact x.toBitVec.isLt
theorem p_cN (xs : Nat → Int32) (k : Nat) : p_r (p_c xs) k &&& lN 255 = lN (p_N xs k) := by
  apply p_lU
  show ((p_r (p_c xs) k).toBitVec &&& (lN 255).toBitVec).toNat = _
  rw [BitVec.toNat_and]
  rw [show (p_r (p_c xs) k).toBitVec.toNat = p_R xs k from p_rN xs k, show (lN 255).toBitVec.toNat = 2 ^ 8 - 1 from by decide +kernel, Nat.and_two_pow_sub_one_eq_mod]
  rfl
theorem p_v0 {xs : Nat → Int32} {k : Nat} (h : p_R xs k = 0) : (0 : Int) ≤ (lg_cmp (p_r (p_c xs) k) (lN 0)).toInt ∧ (lg_cmp (p_r (p_c xs) k) (lN 0)).toInt ≤ 0 ∧ (false = true → ¬ (lg_cmp (p_r (p_c xs) k) (lN 0)).toInt = 0) := by
  have e := p_lU _ _ (p_rN xs k)
  rw [h] at e
  rw [e]
  exact ⟨by decide, by decide, fun z => by cases z⟩
theorem p_v1 {xs : Nat → Int32} {k : Nat} (h : ¬ p_R xs k = 0) : (-1 : Int) ≤ (lg_cmp (p_r (p_c xs) k) (lN 0)).toInt ∧ (lg_cmp (p_r (p_c xs) k) (lN 0)).toInt ≤ 1 ∧ (true = true → ¬ (lg_cmp (p_r (p_c xs) k) (lN 0)).toInt = 0) := by
  have e : ¬ p_r (p_c xs) k = lN 0 := by
    intro z
    have e2 := p_rN xs k
    rw [z] at e2
    exact h e2.symm
  unfold lg_cmp
  split
  · exact ⟨by decide, by decide, fun _ => by decide⟩
  · exact ⟨by decide, by decide, fun _ => by decide⟩
theorem p_cmp {n m : Nat} (hn : n < 256) (hm : m < 256) : lg_cmp (lN n) (lN m) = if m < n then 1 else if n = m then 0 else -1 := by
  unfold lg_cmp
  have e1 : (lN n > lN m) ↔ m < n := lN_lt (by omega) (by omega)
  have e2 : (lN n = lN m) ↔ n = m := lN_eq (by omega) (by omega)
  simp only [e1, e2]
theorem p_lt (xs : Nat → Int32) (k : Nat) : p_N xs k < 256 := Nat.mod_lt _ (by decide)
theorem p_a0 {xs : Nat → Int32} {k : Nat} (h : p_N xs k = 0 ∨ (1 ≤ p_N xs k ∧ p_N xs k ≤ 32)) : (-1 : Int) ≤ (lg_cmp (p_r (p_c xs) k &&& lN 255) (lN 33)).toInt ∧ (lg_cmp (p_r (p_c xs) k &&& lN 255) (lN 33)).toInt ≤ -1 ∧ (false = true → ¬ (lg_cmp (p_r (p_c xs) k &&& lN 255) (lN 33)).toInt = 0) := by
  rw [p_cN, p_cmp (p_lt xs k) (by decide), if_neg (by omega), if_neg (by omega)]
  exact ⟨by decide, by decide, fun z => by cases z⟩
theorem p_a1 {xs : Nat → Int32} {k : Nat} (h : 33 ≤ p_N xs k) : (0 : Int) ≤ (lg_cmp (p_r (p_c xs) k &&& lN 255) (lN 33)).toInt ∧ (lg_cmp (p_r (p_c xs) k &&& lN 255) (lN 33)).toInt ≤ 1 ∧ (false = true → ¬ (lg_cmp (p_r (p_c xs) k &&& lN 255) (lN 33)).toInt = 0) := by
  rw [p_cN, p_cmp (p_lt xs k) (by decide)]
  split
  · exact ⟨by decide, by decide, fun z => by cases z⟩
  · rw [if_pos (by omega)]
    exact ⟨by decide, by decide, fun z => by cases z⟩
theorem p_b0 {xs : Nat → Int32} {k : Nat} (h : p_N xs k ≤ 126) : (-1 : Int) ≤ (lg_cmp (p_r (p_c xs) k &&& lN 255) (lN 126)).toInt ∧ (lg_cmp (p_r (p_c xs) k &&& lN 255) (lN 126)).toInt ≤ 0 ∧ (false = true → ¬ (lg_cmp (p_r (p_c xs) k &&& lN 255) (lN 126)).toInt = 0) := by
  rw [p_cN, p_cmp (p_lt xs k) (by decide), if_neg (by omega)]
  split
  · exact ⟨by decide, by decide, fun z => by cases z⟩
  · exact ⟨by decide, by decide, fun z => by cases z⟩
theorem p_b1 {xs : Nat → Int32} {k : Nat} (h : 127 ≤ p_N xs k) : (1 : Int) ≤ (lg_cmp (p_r (p_c xs) k &&& lN 255) (lN 126)).toInt ∧ (lg_cmp (p_r (p_c xs) k &&& lN 255) (lN 126)).toInt ≤ 1 ∧ (false = true → ¬ (lg_cmp (p_r (p_c xs) k &&& lN 255) (lN 126)).toInt = 0) := by
  rw [p_cN, p_cmp (p_lt xs k) (by decide), if_pos (by omega)]
  exact ⟨by decide, by decide, fun z => by cases z⟩
theorem p_z0 {xs : Nat → Int32} {k : Nat} (h : p_N xs k = 0) : (0 : Int) ≤ (lg_cmp (p_r (p_c xs) k &&& lN 255) (lN 0)).toInt ∧ (lg_cmp (p_r (p_c xs) k &&& lN 255) (lN 0)).toInt ≤ 0 ∧ (false = true → ¬ (lg_cmp (p_r (p_c xs) k &&& lN 255) (lN 0)).toInt = 0) := by
  rw [p_cN, p_cmp (p_lt xs k) (by decide), if_neg (by omega), if_pos h]
  exact ⟨by decide, by decide, fun z => by cases z⟩
theorem p_z1 {xs : Nat → Int32} {k : Nat} (h : ¬ p_N xs k = 0) : (1 : Int) ≤ (lg_cmp (p_r (p_c xs) k &&& lN 255) (lN 0)).toInt ∧ (lg_cmp (p_r (p_c xs) k &&& lN 255) (lN 0)).toInt ≤ 1 ∧ (false = true → ¬ (lg_cmp (p_r (p_c xs) k &&& lN 255) (lN 0)).toInt = 0) := by
  rw [p_cN, p_cmp (p_lt xs k) (by decide), if_pos (by omega)]
  exact ⟨by decide, by decide, fun z => by cases z⟩
theorem p_n {xs : Nat → Int32} {k lo hi : Nat} (h : lo ≤ p_N xs k ∧ p_N xs k ≤ hi) : (lo : Int) ≤ (p_r (p_c xs) k &&& lN 255).toInt32.toInt ∧ (p_r (p_c xs) k &&& lN 255).toInt32.toInt ≤ (hi : Int) ∧ (false = true → ¬ (p_r (p_c xs) k &&& lN 255).toInt32.toInt = 0) := by
  have h9 := p_lt xs k
  rw [p_cN, lN_i, nI_toInt (by omega)]
  exact ⟨by omega, by omega, fun z => by cases z⟩
end
section
set_option maxRecDepth 1000000 in
theorem q_p0 : z_caseP [(5, 0, 0, false), (30, 0, 0, false)] [(0, .inr 30, .inl 0, true), (0, .inr 5, .inl 0, true)] = true := by decide +kernel
set_option maxRecDepth 1000000 in
theorem q_p1 : z_caseP [(5, -1, 1, true), (14, -1, -1, false), (30, 0, 0, false)] [(0, .inr 30, .inl 0, true), (0, .inr 5, .inl 0, false), (2, .inr 14, .inl 0, true)] = true := by decide +kernel
set_option maxRecDepth 1000000 in
theorem q_p2 : z_caseP [(5, -1, 1, true), (14, -1, -1, false), (30, 1, 1, false), (31, 0, 0, false), (38, 1, 32, false)] [(0, .inr 30, .inl 0, false), (0, .inr 31, .inl 0, true), (0, .inr 5, .inl 0, false), (2, .inr 14, .inl 0, true), (2, .inr 38, .inl 33, true)] = true := by decide +kernel
set_option maxRecDepth 1000000 in
theorem q_p3 : z_caseP [(5, -1, 1, true), (14, -1, -1, false), (30, 1, 1, false), (31, 1, 1, false), (32, 0, 0, false), (38, 1, 32, false)] [(0, .inr 30, .inl 0, false), (0, .inr 31, .inl 0, false), (0, .inr 32, .inl 0, true), (0, .inr 5, .inl 0, false), (2, .inr 14, .inl 0, true), (2, .inr 38, .inl 33, true)] = true := by decide +kernel
set_option maxRecDepth 1000000 in
theorem q_p4 : z_caseP [(5, -1, 1, true), (14, -1, -1, false), (30, 1, 1, false), (31, 1, 1, false), (32, 1, 1, false), (33, 0, 0, false), (38, 1, 32, false)] [(0, .inr 30, .inl 0, false), (0, .inr 31, .inl 0, false), (0, .inr 32, .inl 0, false), (0, .inr 33, .inl 0, true), (0, .inr 5, .inl 0, false), (2, .inr 14, .inl 0, true), (2, .inr 38, .inl 33, true)] = true := by decide +kernel
set_option maxRecDepth 1000000 in
theorem q_p5 : z_caseP [(5, -1, 1, true), (14, -1, -1, false), (30, 1, 1, false), (31, 1, 1, false), (32, 1, 1, false), (33, 1, 1, false), (34, 0, 0, false), (38, 1, 32, false)] [(0, .inr 30, .inl 0, false), (0, .inr 31, .inl 0, false), (0, .inr 32, .inl 0, false), (0, .inr 33, .inl 0, false), (0, .inr 34, .inl 0, true), (0, .inr 5, .inl 0, false), (2, .inr 14, .inl 0, true), (2, .inr 38, .inl 33, true)] = true := by decide +kernel
set_option maxRecDepth 1000000 in
theorem q_p6 : z_caseP [(5, -1, 1, true), (14, -1, -1, false), (30, 1, 1, false), (31, 1, 1, false), (32, 1, 1, false), (33, 1, 1, false), (34, 1, 1, false), (35, 0, 0, false), (38, 1, 32, false)] [(0, .inr 30, .inl 0, false), (0, .inr 31, .inl 0, false), (0, .inr 32, .inl 0, false), (0, .inr 33, .inl 0, false), (0, .inr 34, .inl 0, false), (0, .inr 35, .inl 0, true), (0, .inr 5, .inl 0, false), (2, .inr 14, .inl 0, true), (2, .inr 38, .inl 33, true)] = true := by decide +kernel
set_option maxRecDepth 1000000 in
theorem q_p7 : z_caseP [(5, -1, 1, true), (14, -1, -1, false), (30, 1, 1, false), (31, 1, 1, false), (32, 1, 1, false), (33, 1, 1, false), (34, 1, 1, false), (35, 1, 1, false), (36, 0, 0, false), (38, 1, 32, false)] [(0, .inr 30, .inl 0, false), (0, .inr 31, .inl 0, false), (0, .inr 32, .inl 0, false), (0, .inr 33, .inl 0, false), (0, .inr 34, .inl 0, false), (0, .inr 35, .inl 0, false), (0, .inr 36, .inl 0, true), (0, .inr 5, .inl 0, false), (2, .inr 14, .inl 0, true), (2, .inr 38, .inl 33, true)] = true := by decide +kernel
set_option maxRecDepth 1000000 in
theorem q_p8 : z_caseP [(5, -1, 1, true), (14, -1, -1, false), (30, 1, 1, false), (31, 1, 1, false), (32, 1, 1, false), (33, 1, 1, false), (34, 1, 1, false), (35, 1, 1, false), (36, 1, 1, false), (37, 0, 0, false), (38, 1, 32, false)] [(0, .inr 30, .inl 0, false), (0, .inr 31, .inl 0, false), (0, .inr 32, .inl 0, false), (0, .inr 33, .inl 0, false), (0, .inr 34, .inl 0, false), (0, .inr 35, .inl 0, false), (0, .inr 36, .inl 0, false), (0, .inr 37, .inl 0, true), (0, .inr 5, .inl 0, false), (2, .inr 14, .inl 0, true), (2, .inr 38, .inl 33, true)] = true := by decide +kernel
set_option maxRecDepth 1000000 in
theorem q_p9 : z_caseP [(5, -1, 1, true), (14, -1, -1, false), (30, 1, 1, false), (31, 1, 1, false), (32, 1, 1, false), (33, 1, 1, false), (34, 1, 1, false), (35, 1, 1, false), (36, 1, 1, false), (37, 1, 1, false), (38, 1, 32, false)] [(0, .inr 30, .inl 0, false), (0, .inr 31, .inl 0, false), (0, .inr 32, .inl 0, false), (0, .inr 33, .inl 0, false), (0, .inr 34, .inl 0, false), (0, .inr 35, .inl 0, false), (0, .inr 36, .inl 0, false), (0, .inr 37, .inl 0, false), (0, .inr 5, .inl 0, false), (2, .inr 14, .inl 0, true), (2, .inr 38, .inl 33, true)] = true := by decide +kernel
set_option maxRecDepth 1000000 in
theorem q_p10 : z_caseP [(5, -1, 1, true), (14, 0, 1, false), (22, 1, 1, false), (30, 1, 1, false), (31, 0, 0, false), (38, 127, 255, false)] [(0, .inr 30, .inl 0, false), (0, .inr 31, .inl 0, true), (0, .inr 5, .inl 0, false), (4, .inr 38, .inl 126, true), (5, .inr 22, .inl 0, false), (2, .inr 14, .inl 0, false), (2, .inr 38, .inl 33, false)] = true := by decide +kernel
set_option maxRecDepth 1000000 in
theorem q_p11 : z_caseP [(5, -1, 1, true), (14, 0, 1, false), (22, 1, 1, false), (30, 1, 1, false), (31, 1, 1, false), (32, 0, 0, false), (38, 127, 255, false)] [(0, .inr 30, .inl 0, false), (0, .inr 31, .inl 0, false), (0, .inr 32, .inl 0, true), (0, .inr 5, .inl 0, false), (4, .inr 38, .inl 126, true), (5, .inr 22, .inl 0, false), (2, .inr 14, .inl 0, false), (2, .inr 38, .inl 33, false)] = true := by decide +kernel
set_option maxRecDepth 1000000 in
theorem q_p12 : z_caseP [(5, -1, 1, true), (14, 0, 1, false), (22, 1, 1, false), (30, 1, 1, false), (31, 1, 1, false), (32, 1, 1, false), (33, 0, 0, false), (38, 127, 255, false)] [(0, .inr 30, .inl 0, false), (0, .inr 31, .inl 0, false), (0, .inr 32, .inl 0, false), (0, .inr 33, .inl 0, true), (0, .inr 5, .inl 0, false), (4, .inr 38, .inl 126, true), (5, .inr 22, .inl 0, false), (2, .inr 14, .inl 0, false), (2, .inr 38, .inl 33, false)] = true := by decide +kernel
set_option maxRecDepth 1000000 in
theorem q_p13 : z_caseP [(5, -1, 1, true), (14, 0, 1, false), (22, 1, 1, false), (30, 1, 1, false), (31, 1, 1, false), (32, 1, 1, false), (33, 1, 1, false), (34, 0, 0, false), (38, 127, 255, false)] [(0, .inr 30, .inl 0, false), (0, .inr 31, .inl 0, false), (0, .inr 32, .inl 0, false), (0, .inr 33, .inl 0, false), (0, .inr 34, .inl 0, true), (0, .inr 5, .inl 0, false), (4, .inr 38, .inl 126, true), (5, .inr 22, .inl 0, false), (2, .inr 14, .inl 0, false), (2, .inr 38, .inl 33, false)] = true := by decide +kernel
set_option maxRecDepth 1000000 in
theorem q_p14 : z_caseP [(5, -1, 1, true), (14, 0, 1, false), (22, 1, 1, false), (30, 1, 1, false), (31, 1, 1, false), (32, 1, 1, false), (33, 1, 1, false), (34, 1, 1, false), (35, 0, 0, false), (38, 127, 255, false)] [(0, .inr 30, .inl 0, false), (0, .inr 31, .inl 0, false), (0, .inr 32, .inl 0, false), (0, .inr 33, .inl 0, false), (0, .inr 34, .inl 0, false), (0, .inr 35, .inl 0, true), (0, .inr 5, .inl 0, false), (4, .inr 38, .inl 126, true), (5, .inr 22, .inl 0, false), (2, .inr 14, .inl 0, false), (2, .inr 38, .inl 33, false)] = true := by decide +kernel
set_option maxRecDepth 1000000 in
theorem q_p15 : z_caseP [(5, -1, 1, true), (14, 0, 1, false), (22, 1, 1, false), (30, 1, 1, false), (31, 1, 1, false), (32, 1, 1, false), (33, 1, 1, false), (34, 1, 1, false), (35, 1, 1, false), (36, 0, 0, false), (38, 127, 255, false)] [(0, .inr 30, .inl 0, false), (0, .inr 31, .inl 0, false), (0, .inr 32, .inl 0, false), (0, .inr 33, .inl 0, false), (0, .inr 34, .inl 0, false), (0, .inr 35, .inl 0, false), (0, .inr 36, .inl 0, true), (0, .inr 5, .inl 0, false), (4, .inr 38, .inl 126, true), (5, .inr 22, .inl 0, false), (2, .inr 14, .inl 0, false), (2, .inr 38, .inl 33, false)] = true := by decide +kernel
set_option maxRecDepth 1000000 in
theorem q_p16 : z_caseP [(5, -1, 1, true), (14, 0, 1, false), (22, 1, 1, false), (30, 1, 1, false), (31, 1, 1, false), (32, 1, 1, false), (33, 1, 1, false), (34, 1, 1, false), (35, 1, 1, false), (36, 1, 1, false), (37, 0, 0, false), (38, 127, 255, false)] [(0, .inr 30, .inl 0, false), (0, .inr 31, .inl 0, false), (0, .inr 32, .inl 0, false), (0, .inr 33, .inl 0, false), (0, .inr 34, .inl 0, false), (0, .inr 35, .inl 0, false), (0, .inr 36, .inl 0, false), (0, .inr 37, .inl 0, true), (0, .inr 5, .inl 0, false), (4, .inr 38, .inl 126, true), (5, .inr 22, .inl 0, false), (2, .inr 14, .inl 0, false), (2, .inr 38, .inl 33, false)] = true := by decide +kernel
set_option maxRecDepth 1000000 in
theorem q_p17 : z_caseP [(5, -1, 1, true), (14, 0, 1, false), (22, 1, 1, false), (30, 1, 1, false), (31, 1, 1, false), (32, 1, 1, false), (33, 1, 1, false), (34, 1, 1, false), (35, 1, 1, false), (36, 1, 1, false), (37, 1, 1, false), (38, 127, 255, false)] [(0, .inr 30, .inl 0, false), (0, .inr 31, .inl 0, false), (0, .inr 32, .inl 0, false), (0, .inr 33, .inl 0, false), (0, .inr 34, .inl 0, false), (0, .inr 35, .inl 0, false), (0, .inr 36, .inl 0, false), (0, .inr 37, .inl 0, false), (0, .inr 5, .inl 0, false), (4, .inr 38, .inl 126, true), (5, .inr 22, .inl 0, false), (2, .inr 14, .inl 0, false), (2, .inr 38, .inl 33, false)] = true := by decide +kernel
set_option maxRecDepth 1000000 in
theorem q_p18 : z_caseP [(5, -1, 1, true), (6, 0, 0, false), (14, 0, 1, false), (22, -1, 0, false), (30, 1, 1, false), (31, 0, 0, false), (38, 33, 126, false)] [(0, .inr 30, .inl 0, false), (0, .inr 31, .inl 0, true), (0, .inr 5, .inl 0, false), (0, .inr 6, .inl 0, true), (4, .inr 38, .inl 126, false), (5, .inr 22, .inl 0, true), (2, .inr 14, .inl 0, false), (2, .inr 38, .inl 33, false)] = true := by decide +kernel
set_option maxRecDepth 1000000 in
theorem q_p19 : z_caseP [(5, -1, 1, true), (6, -1, 1, true), (14, 0, 1, false), (15, -1, -1, false), (22, -1, 0, false), (30, 1, 1, false), (31, 0, 0, false), (38, 33, 126, false)] [(0, .inr 30, .inl 0, false), (0, .inr 31, .inl 0, true), (0, .inr 5, .inl 0, false), (0, .inr 6, .inl 0, false), (4, .inr 38, .inl 126, false), (5, .inr 22, .inl 0, true), (2, .inr 14, .inl 0, false), (2, .inr 15, .inl 0, true), (2, .inr 38, .inl 33, false)] = true := by decide +kernel
set_option maxRecDepth 1000000 in
theorem q_p20 : z_caseP [(5, -1, 1, true), (6, -1, 1, true), (14, 0, 1, false), (15, -1, -1, false), (22, -1, 0, false), (30, 1, 1, false), (31, 1, 1, false), (32, 0, 0, false), (38, 33, 126, false), (39, 1, 32, false)] [(0, .inr 30, .inl 0, false), (0, .inr 31, .inl 0, false), (0, .inr 32, .inl 0, true), (0, .inr 5, .inl 0, false), (0, .inr 6, .inl 0, false), (4, .inr 38, .inl 126, false), (5, .inr 22, .inl 0, true), (2, .inr 14, .inl 0, false), (2, .inr 15, .inl 0, true), (2, .inr 38, .inl 33, false), (2, .inr 39, .inl 33, true)] = true := by decide +kernel
set_option maxRecDepth 1000000 in
theorem q_p21 : z_caseP [(5, -1, 1, true), (6, -1, 1, true), (14, 0, 1, false), (15, -1, -1, false), (22, -1, 0, false), (30, 1, 1, false), (31, 1, 1, false), (32, 1, 1, false), (33, 0, 0, false), (38, 33, 126, false), (39, 1, 32, false)] [(0, .inr 30, .inl 0, false), (0, .inr 31, .inl 0, false), (0, .inr 32, .inl 0, false), (0, .inr 33, .inl 0, true), (0, .inr 5, .inl 0, false), (0, .inr 6, .inl 0, false), (4, .inr 38, .inl 126, false), (5, .inr 22, .inl 0, true), (2, .inr 14, .inl 0, false), (2, .inr 15, .inl 0, true), (2, .inr 38, .inl 33, false), (2, .inr 39, .inl 33, true)] = true := by decide +kernel
set_option maxRecDepth 1000000 in
theorem q_p22 : z_caseP [(5, -1, 1, true), (6, -1, 1, true), (14, 0, 1, false), (15, -1, -1, false), (22, -1, 0, false), (30, 1, 1, false), (31, 1, 1, false), (32, 1, 1, false), (33, 1, 1, false), (34, 0, 0, false), (38, 33, 126, false), (39, 1, 32, false)] [(0, .inr 30, .inl 0, false), (0, .inr 31, .inl 0, false), (0, .inr 32, .inl 0, false), (0, .inr 33, .inl 0, false), (0, .inr 34, .inl 0, true), (0, .inr 5, .inl 0, false), (0, .inr 6, .inl 0, false), (4, .inr 38, .inl 126, false), (5, .inr 22, .inl 0, true), (2, .inr 14, .inl 0, false), (2, .inr 15, .inl 0, true), (2, .inr 38, .inl 33, false), (2, .inr 39, .inl 33, true)] = true := by decide +kernel
set_option maxRecDepth 1000000 in
theorem q_p23 : z_caseP [(5, -1, 1, true), (6, -1, 1, true), (14, 0, 1, false), (15, -1, -1, false), (22, -1, 0, false), (30, 1, 1, false), (31, 1, 1, false), (32, 1, 1, false), (33, 1, 1, false), (34, 1, 1, false), (35, 0, 0, false), (38, 33, 126, false), (39, 1, 32, false)] [(0, .inr 30, .inl 0, false), (0, .inr 31, .inl 0, false), (0, .inr 32, .inl 0, false), (0, .inr 33, .inl 0, false), (0, .inr 34, .inl 0, false), (0, .inr 35, .inl 0, true), (0, .inr 5, .inl 0, false), (0, .inr 6, .inl 0, false), (4, .inr 38, .inl 126, false), (5, .inr 22, .inl 0, true), (2, .inr 14, .inl 0, false), (2, .inr 15, .inl 0, true), (2, .inr 38, .inl 33, false), (2, .inr 39, .inl 33, true)] = true := by decide +kernel
set_option maxRecDepth 1000000 in
theorem q_p24 : z_caseP [(5, -1, 1, true), (6, -1, 1, true), (14, 0, 1, false), (15, -1, -1, false), (22, -1, 0, false), (30, 1, 1, false), (31, 1, 1, false), (32, 1, 1, false), (33, 1, 1, false), (34, 1, 1, false), (35, 1, 1, false), (36, 0, 0, false), (38, 33, 126, false), (39, 1, 32, false)] [(0, .inr 30, .inl 0, false), (0, .inr 31, .inl 0, false), (0, .inr 32, .inl 0, false), (0, .inr 33, .inl 0, false), (0, .inr 34, .inl 0, false), (0, .inr 35, .inl 0, false), (0, .inr 36, .inl 0, true), (0, .inr 5, .inl 0, false), (0, .inr 6, .inl 0, false), (4, .inr 38, .inl 126, false), (5, .inr 22, .inl 0, true), (2, .inr 14, .inl 0, false), (2, .inr 15, .inl 0, true), (2, .inr 38, .inl 33, false), (2, .inr 39, .inl 33, true)] = true := by decide +kernel
set_option maxRecDepth 1000000 in
theorem q_p25 : z_caseP [(5, -1, 1, true), (6, -1, 1, true), (14, 0, 1, false), (15, -1, -1, false), (22, -1, 0, false), (30, 1, 1, false), (31, 1, 1, false), (32, 1, 1, false), (33, 1, 1, false), (34, 1, 1, false), (35, 1, 1, false), (36, 1, 1, false), (37, 0, 0, false), (38, 33, 126, false), (39, 1, 32, false)] [(0, .inr 30, .inl 0, false), (0, .inr 31, .inl 0, false), (0, .inr 32, .inl 0, false), (0, .inr 33, .inl 0, false), (0, .inr 34, .inl 0, false), (0, .inr 35, .inl 0, false), (0, .inr 36, .inl 0, false), (0, .inr 37, .inl 0, true), (0, .inr 5, .inl 0, false), (0, .inr 6, .inl 0, false), (4, .inr 38, .inl 126, false), (5, .inr 22, .inl 0, true), (2, .inr 14, .inl 0, false), (2, .inr 15, .inl 0, true), (2, .inr 38, .inl 33, false), (2, .inr 39, .inl 33, true)] = true := by decide +kernel
set_option maxRecDepth 1000000 in
theorem q_p26 : z_caseP [(5, -1, 1, true), (6, -1, 1, true), (14, 0, 1, false), (15, -1, -1, false), (22, -1, 0, false), (30, 1, 1, false), (31, 1, 1, false), (32, 1, 1, false), (33, 1, 1, false), (34, 1, 1, false), (35, 1, 1, false), (36, 1, 1, false), (37, 1, 1, false), (38, 33, 126, false), (39, 1, 32, false)] [(0, .inr 30, .inl 0, false), (0, .inr 31, .inl 0, false), (0, .inr 32, .inl 0, false), (0, .inr 33, .inl 0, false), (0, .inr 34, .inl 0, false), (0, .inr 35, .inl 0, false), (0, .inr 36, .inl 0, false), (0, .inr 37, .inl 0, false), (0, .inr 5, .inl 0, false), (0, .inr 6, .inl 0, false), (4, .inr 38, .inl 126, false), (5, .inr 22, .inl 0, true), (2, .inr 14, .inl 0, false), (2, .inr 15, .inl 0, true), (2, .inr 38, .inl 33, false), (2, .inr 39, .inl 33, true)] = true := by decide +kernel
set_option maxRecDepth 1000000 in
theorem q_p27 : z_caseP [(5, -1, 1, true), (6, -1, 1, true), (14, 0, 1, false), (15, 0, 1, false), (22, -1, 0, false), (23, 1, 1, false), (30, 1, 1, false), (31, 1, 1, false), (32, 0, 0, false), (38, 33, 126, false), (39, 127, 255, false)] [(0, .inr 30, .inl 0, false), (0, .inr 31, .inl 0, false), (0, .inr 32, .inl 0, true), (0, .inr 5, .inl 0, false), (0, .inr 6, .inl 0, false), (4, .inr 38, .inl 126, false), (4, .inr 39, .inl 126, true), (5, .inr 22, .inl 0, true), (5, .inr 23, .inl 0, false), (2, .inr 14, .inl 0, false), (2, .inr 15, .inl 0, false), (2, .inr 38, .inl 33, false), (2, .inr 39, .inl 33, false)] = true := by decide +kernel
set_option maxRecDepth 1000000 in
theorem q_p28 : z_caseP [(5, -1, 1, true), (6, -1, 1, true), (14, 0, 1, false), (15, 0, 1, false), (22, -1, 0, false), (23, 1, 1, false), (30, 1, 1, false), (31, 1, 1, false), (32, 1, 1, false), (33, 0, 0, false), (38, 33, 126, false), (39, 127, 255, false)] [(0, .inr 30, .inl 0, false), (0, .inr 31, .inl 0, false), (0, .inr 32, .inl 0, false), (0, .inr 33, .inl 0, true), (0, .inr 5, .inl 0, false), (0, .inr 6, .inl 0, false), (4, .inr 38, .inl 126, false), (4, .inr 39, .inl 126, true), (5, .inr 22, .inl 0, true), (5, .inr 23, .inl 0, false), (2, .inr 14, .inl 0, false), (2, .inr 15, .inl 0, false), (2, .inr 38, .inl 33, false), (2, .inr 39, .inl 33, false)] = true := by decide +kernel
set_option maxRecDepth 1000000 in
theorem q_p29 : z_caseP [(5, -1, 1, true), (6, -1, 1, true), (14, 0, 1, false), (15, 0, 1, false), (22, -1, 0, false), (23, 1, 1, false), (30, 1, 1, false), (31, 1, 1, false), (32, 1, 1, false), (33, 1, 1, false), (34, 0, 0, false), (38, 33, 126, false), (39, 127, 255, false)] [(0, .inr 30, .inl 0, false), (0, .inr 31, .inl 0, false), (0, .inr 32, .inl 0, false), (0, .inr 33, .inl 0, false), (0, .inr 34, .inl 0, true), (0, .inr 5, .inl 0, false), (0, .inr 6, .inl 0, false), (4, .inr 38, .inl 126, false), (4, .inr 39, .inl 126, true), (5, .inr 22, .inl 0, true), (5, .inr 23, .inl 0, false), (2, .inr 14, .inl 0, false), (2, .inr 15, .inl 0, false), (2, .inr 38, .inl 33, false), (2, .inr 39, .inl 33, false)] = true := by decide +kernel
end
section
set_option maxRecDepth 1000000 in
theorem q_p30 : z_caseP [(5, -1, 1, true), (6, -1, 1, true), (14, 0, 1, false), (15, 0, 1, false), (22, -1, 0, false), (23, 1, 1, false), (30, 1, 1, false), (31, 1, 1, false), (32, 1, 1, false), (33, 1, 1, false), (34, 1, 1, false), (35, 0, 0, false), (38, 33, 126, false), (39, 127, 255, false)] [(0, .inr 30, .inl 0, false), (0, .inr 31, .inl 0, false), (0, .inr 32, .inl 0, false), (0, .inr 33, .inl 0, false), (0, .inr 34, .inl 0, false), (0, .inr 35, .inl 0, true), (0, .inr 5, .inl 0, false), (0, .inr 6, .inl 0, false), (4, .inr 38, .inl 126, false), (4, .inr 39, .inl 126, true), (5, .inr 22, .inl 0, true), (5, .inr 23, .inl 0, false), (2, .inr 14, .inl 0, false), (2, .inr 15, .inl 0, false), (2, .inr 38, .inl 33, false), (2, .inr 39, .inl 33, false)] = true := by decide +kernel
set_option maxRecDepth 1000000 in
theorem q_p31 : z_caseP [(5, -1, 1, true), (6, -1, 1, true), (14, 0, 1, false), (15, 0, 1, false), (22, -1, 0, false), (23, 1, 1, false), (30, 1, 1, false), (31, 1, 1, false), (32, 1, 1, false), (33, 1, 1, false), (34, 1, 1, false), (35, 1, 1, false), (36, 0, 0, false), (38, 33, 126, false), (39, 127, 255, false)] [(0, .inr 30, .inl 0, false), (0, .inr 31, .inl 0, false), (0, .inr 32, .inl 0, false), (0, .inr 33, .inl 0, false), (0, .inr 34, .inl 0, false), (0, .inr 35, .inl 0, false), (0, .inr 36, .inl 0, true), (0, .inr 5, .inl 0, false), (0, .inr 6, .inl 0, false), (4, .inr 38, .inl 126, false), (4, .inr 39, .inl 126, true), (5, .inr 22, .inl 0, true), (5, .inr 23, .inl 0, false), (2, .inr 14, .inl 0, false), (2, .inr 15, .inl 0, false), (2, .inr 38, .inl 33, false), (2, .inr 39, .inl 33, false)] = true := by decide +kernel
set_option maxRecDepth 1000000 in
theorem q_p32 : z_caseP [(5, -1, 1, true), (6, -1, 1, true), (14, 0, 1, false), (15, 0, 1, false), (22, -1, 0, false), (23, 1, 1, false), (30, 1, 1, false), (31, 1, 1, false), (32, 1, 1, false), (33, 1, 1, false), (34, 1, 1, false), (35, 1, 1, false), (36, 1, 1, false), (37, 0, 0, false), (38, 33, 126, false), (39, 127, 255, false)] [(0, .inr 30, .inl 0, false), (0, .inr 31, .inl 0, false), (0, .inr 32, .inl 0, false), (0, .inr 33, .inl 0, false), (0, .inr 34, .inl 0, false), (0, .inr 35, .inl 0, false), (0, .inr 36, .inl 0, false), (0, .inr 37, .inl 0, true), (0, .inr 5, .inl 0, false), (0, .inr 6, .inl 0, false), (4, .inr 38, .inl 126, false), (4, .inr 39, .inl 126, true), (5, .inr 22, .inl 0, true), (5, .inr 23, .inl 0, false), (2, .inr 14, .inl 0, false), (2, .inr 15, .inl 0, false), (2, .inr 38, .inl 33, false), (2, .inr 39, .inl 33, false)] = true := by decide +kernel
set_option maxRecDepth 1000000 in
theorem q_p33 : z_caseP [(5, -1, 1, true), (6, -1, 1, true), (14, 0, 1, false), (15, 0, 1, false), (22, -1, 0, false), (23, 1, 1, false), (30, 1, 1, false), (31, 1, 1, false), (32, 1, 1, false), (33, 1, 1, false), (34, 1, 1, false), (35, 1, 1, false), (36, 1, 1, false), (37, 1, 1, false), (38, 33, 126, false), (39, 127, 255, false)] [(0, .inr 30, .inl 0, false), (0, .inr 31, .inl 0, false), (0, .inr 32, .inl 0, false), (0, .inr 33, .inl 0, false), (0, .inr 34, .inl 0, false), (0, .inr 35, .inl 0, false), (0, .inr 36, .inl 0, false), (0, .inr 37, .inl 0, false), (0, .inr 5, .inl 0, false), (0, .inr 6, .inl 0, false), (4, .inr 38, .inl 126, false), (4, .inr 39, .inl 126, true), (5, .inr 22, .inl 0, true), (5, .inr 23, .inl 0, false), (2, .inr 14, .inl 0, false), (2, .inr 15, .inl 0, false), (2, .inr 38, .inl 33, false), (2, .inr 39, .inl 33, false)] = true := by decide +kernel
set_option maxRecDepth 1000000 in
theorem q_p34 : z_caseP [(5, -1, 1, true), (6, -1, 1, true), (7, 0, 0, false), (14, 0, 1, false), (15, 0, 1, false), (22, -1, 0, false), (23, -1, 0, false), (30, 1, 1, false), (31, 1, 1, false), (32, 0, 0, false), (38, 33, 126, false), (39, 33, 126, false)] [(0, .inr 30, .inl 0, false), (0, .inr 31, .inl 0, false), (0, .inr 32, .inl 0, true), (0, .inr 5, .inl 0, false), (0, .inr 6, .inl 0, false), (0, .inr 7, .inl 0, true), (4, .inr 38, .inl 126, false), (4, .inr 39, .inl 126, false), (5, .inr 22, .inl 0, true), (5, .inr 23, .inl 0, true), (2, .inr 14, .inl 0, false), (2, .inr 15, .inl 0, false), (2, .inr 38, .inl 33, false), (2, .inr 39, .inl 33, false)] = true := by decide +kernel
set_option maxRecDepth 1000000 in
theorem q_p35 : z_caseP [(5, -1, 1, true), (6, -1, 1, true), (7, -1, 1, true), (14, 0, 1, false), (15, 0, 1, false), (16, -1, -1, false), (22, -1, 0, false), (23, -1, 0, false), (30, 1, 1, false), (31, 1, 1, false), (32, 0, 0, false), (38, 33, 126, false), (39, 33, 126, false)] [(0, .inr 30, .inl 0, false), (0, .inr 31, .inl 0, false), (0, .inr 32, .inl 0, true), (0, .inr 5, .inl 0, false), (0, .inr 6, .inl 0, false), (0, .inr 7, .inl 0, false), (4, .inr 38, .inl 126, false), (4, .inr 39, .inl 126, false), (5, .inr 22, .inl 0, true), (5, .inr 23, .inl 0, true), (2, .inr 14, .inl 0, false), (2, .inr 15, .inl 0, false), (2, .inr 16, .inl 0, true), (2, .inr 38, .inl 33, false), (2, .inr 39, .inl 33, false)] = true := by decide +kernel
set_option maxRecDepth 1000000 in
theorem q_p36 : z_caseP [(5, -1, 1, true), (6, -1, 1, true), (7, -1, 1, true), (14, 0, 1, false), (15, 0, 1, false), (16, -1, -1, false), (22, -1, 0, false), (23, -1, 0, false), (30, 1, 1, false), (31, 1, 1, false), (32, 1, 1, false), (33, 0, 0, false), (38, 33, 126, false), (39, 33, 126, false), (40, 1, 32, false)] [(0, .inr 30, .inl 0, false), (0, .inr 31, .inl 0, false), (0, .inr 32, .inl 0, false), (0, .inr 33, .inl 0, true), (0, .inr 5, .inl 0, false), (0, .inr 6, .inl 0, false), (0, .inr 7, .inl 0, false), (4, .inr 38, .inl 126, false), (4, .inr 39, .inl 126, false), (5, .inr 22, .inl 0, true), (5, .inr 23, .inl 0, true), (2, .inr 14, .inl 0, false), (2, .inr 15, .inl 0, false), (2, .inr 16, .inl 0, true), (2, .inr 38, .inl 33, false), (2, .inr 39, .inl 33, false), (2, .inr 40, .inl 33, true)] = true := by decide +kernel
set_option maxRecDepth 1000000 in
theorem q_p37 : z_caseP [(5, -1, 1, true), (6, -1, 1, true), (7, -1, 1, true), (14, 0, 1, false), (15, 0, 1, false), (16, -1, -1, false), (22, -1, 0, false), (23, -1, 0, false), (30, 1, 1, false), (31, 1, 1, false), (32, 1, 1, false), (33, 1, 1, false), (34, 0, 0, false), (38, 33, 126, false), (39, 33, 126, false), (40, 1, 32, false)] [(0, .inr 30, .inl 0, false), (0, .inr 31, .inl 0, false), (0, .inr 32, .inl 0, false), (0, .inr 33, .inl 0, false), (0, .inr 34, .inl 0, true), (0, .inr 5, .inl 0, false), (0, .inr 6, .inl 0, false), (0, .inr 7, .inl 0, false), (4, .inr 38, .inl 126, false), (4, .inr 39, .inl 126, false), (5, .inr 22, .inl 0, true), (5, .inr 23, .inl 0, true), (2, .inr 14, .inl 0, false), (2, .inr 15, .inl 0, false), (2, .inr 16, .inl 0, true), (2, .inr 38, .inl 33, false), (2, .inr 39, .inl 33, false), (2, .inr 40, .inl 33, true)] = true := by decide +kernel
set_option maxRecDepth 1000000 in
theorem q_p38 : z_caseP [(5, -1, 1, true), (6, -1, 1, true), (7, -1, 1, true), (14, 0, 1, false), (15, 0, 1, false), (16, -1, -1, false), (22, -1, 0, false), (23, -1, 0, false), (30, 1, 1, false), (31, 1, 1, false), (32, 1, 1, false), (33, 1, 1, false), (34, 1, 1, false), (35, 0, 0, false), (38, 33, 126, false), (39, 33, 126, false), (40, 1, 32, false)] [(0, .inr 30, .inl 0, false), (0, .inr 31, .inl 0, false), (0, .inr 32, .inl 0, false), (0, .inr 33, .inl 0, false), (0, .inr 34, .inl 0, false), (0, .inr 35, .inl 0, true), (0, .inr 5, .inl 0, false), (0, .inr 6, .inl 0, false), (0, .inr 7, .inl 0, false), (4, .inr 38, .inl 126, false), (4, .inr 39, .inl 126, false), (5, .inr 22, .inl 0, true), (5, .inr 23, .inl 0, true), (2, .inr 14, .inl 0, false), (2, .inr 15, .inl 0, false), (2, .inr 16, .inl 0, true), (2, .inr 38, .inl 33, false), (2, .inr 39, .inl 33, false), (2, .inr 40, .inl 33, true)] = true := by decide +kernel
set_option maxRecDepth 1000000 in
theorem q_p39 : z_caseP [(5, -1, 1, true), (6, -1, 1, true), (7, -1, 1, true), (14, 0, 1, false), (15, 0, 1, false), (16, -1, -1, false), (22, -1, 0, false), (23, -1, 0, false), (30, 1, 1, false), (31, 1, 1, false), (32, 1, 1, false), (33, 1, 1, false), (34, 1, 1, false), (35, 1, 1, false), (36, 0, 0, false), (38, 33, 126, false), (39, 33, 126, false), (40, 1, 32, false)] [(0, .inr 30, .inl 0, false), (0, .inr 31, .inl 0, false), (0, .inr 32, .inl 0, false), (0, .inr 33, .inl 0, false), (0, .inr 34, .inl 0, false), (0, .inr 35, .inl 0, false), (0, .inr 36, .inl 0, true), (0, .inr 5, .inl 0, false), (0, .inr 6, .inl 0, false), (0, .inr 7, .inl 0, false), (4, .inr 38, .inl 126, false), (4, .inr 39, .inl 126, false), (5, .inr 22, .inl 0, true), (5, .inr 23, .inl 0, true), (2, .inr 14, .inl 0, false), (2, .inr 15, .inl 0, false), (2, .inr 16, .inl 0, true), (2, .inr 38, .inl 33, false), (2, .inr 39, .inl 33, false), (2, .inr 40, .inl 33, true)] = true := by decide +kernel
set_option maxRecDepth 1000000 in
theorem q_p40 : z_caseP [(5, -1, 1, true), (6, -1, 1, true), (7, -1, 1, true), (14, 0, 1, false), (15, 0, 1, false), (16, -1, -1, false), (22, -1, 0, false), (23, -1, 0, false), (30, 1, 1, false), (31, 1, 1, false), (32, 1, 1, false), (33, 1, 1, false), (34, 1, 1, false), (35, 1, 1, false), (36, 1, 1, false), (37, 0, 0, false), (38, 33, 126, false), (39, 33, 126, false), (40, 1, 32, false)] [(0, .inr 30, .inl 0, false), (0, .inr 31, .inl 0, false), (0, .inr 32, .inl 0, false), (0, .inr 33, .inl 0, false), (0, .inr 34, .inl 0, false), (0, .inr 35, .inl 0, false), (0, .inr 36, .inl 0, false), (0, .inr 37, .inl 0, true), (0, .inr 5, .inl 0, false), (0, .inr 6, .inl 0, false), (0, .inr 7, .inl 0, false), (4, .inr 38, .inl 126, false), (4, .inr 39, .inl 126, false), (5, .inr 22, .inl 0, true), (5, .inr 23, .inl 0, true), (2, .inr 14, .inl 0, false), (2, .inr 15, .inl 0, false), (2, .inr 16, .inl 0, true), (2, .inr 38, .inl 33, false), (2, .inr 39, .inl 33, false), (2, .inr 40, .inl 33, true)] = true := by decide +kernel
set_option maxRecDepth 1000000 in
theorem q_p41 : z_caseP [(5, -1, 1, true), (6, -1, 1, true), (7, -1, 1, true), (14, 0, 1, false), (15, 0, 1, false), (16, -1, -1, false), (22, -1, 0, false), (23, -1, 0, false), (30, 1, 1, false), (31, 1, 1, false), (32, 1, 1, false), (33, 1, 1, false), (34, 1, 1, false), (35, 1, 1, false), (36, 1, 1, false), (37, 1, 1, false), (38, 33, 126, false), (39, 33, 126, false), (40, 1, 32, false)] [(0, .inr 30, .inl 0, false), (0, .inr 31, .inl 0, false), (0, .inr 32, .inl 0, false), (0, .inr 33, .inl 0, false), (0, .inr 34, .inl 0, false), (0, .inr 35, .inl 0, false), (0, .inr 36, .inl 0, false), (0, .inr 37, .inl 0, false), (0, .inr 5, .inl 0, false), (0, .inr 6, .inl 0, false), (0, .inr 7, .inl 0, false), (4, .inr 38, .inl 126, false), (4, .inr 39, .inl 126, false), (5, .inr 22, .inl 0, true), (5, .inr 23, .inl 0, true), (2, .inr 14, .inl 0, false), (2, .inr 15, .inl 0, false), (2, .inr 16, .inl 0, true), (2, .inr 38, .inl 33, false), (2, .inr 39, .inl 33, false), (2, .inr 40, .inl 33, true)] = true := by decide +kernel
set_option maxRecDepth 1000000 in
theorem q_p42 : z_caseP [(5, -1, 1, true), (6, -1, 1, true), (7, -1, 1, true), (14, 0, 1, false), (15, 0, 1, false), (16, 0, 1, false), (22, -1, 0, false), (23, -1, 0, false), (24, 1, 1, false), (30, 1, 1, false), (31, 1, 1, false), (32, 1, 1, false), (33, 0, 0, false), (38, 33, 126, false), (39, 33, 126, false), (40, 127, 255, false)] [(0, .inr 30, .inl 0, false), (0, .inr 31, .inl 0, false), (0, .inr 32, .inl 0, false), (0, .inr 33, .inl 0, true), (0, .inr 5, .inl 0, false), (0, .inr 6, .inl 0, false), (0, .inr 7, .inl 0, false), (4, .inr 38, .inl 126, false), (4, .inr 39, .inl 126, false), (4, .inr 40, .inl 126, true), (5, .inr 22, .inl 0, true), (5, .inr 23, .inl 0, true), (5, .inr 24, .inl 0, false), (2, .inr 14, .inl 0, false), (2, .inr 15, .inl 0, false), (2, .inr 16, .inl 0, false), (2, .inr 38, .inl 33, false), (2, .inr 39, .inl 33, false), (2, .inr 40, .inl 33, false)] = true := by decide +kernel
set_option maxRecDepth 1000000 in
theorem q_p43 : z_caseP [(5, -1, 1, true), (6, -1, 1, true), (7, -1, 1, true), (14, 0, 1, false), (15, 0, 1, false), (16, 0, 1, false), (22, -1, 0, false), (23, -1, 0, false), (24, 1, 1, false), (30, 1, 1, false), (31, 1, 1, false), (32, 1, 1, false), (33, 1, 1, false), (34, 0, 0, false), (38, 33, 126, false), (39, 33, 126, false), (40, 127, 255, false)] [(0, .inr 30, .inl 0, false), (0, .inr 31, .inl 0, false), (0, .inr 32, .inl 0, false), (0, .inr 33, .inl 0, false), (0, .inr 34, .inl 0, true), (0, .inr 5, .inl 0, false), (0, .inr 6, .inl 0, false), (0, .inr 7, .inl 0, false), (4, .inr 38, .inl 126, false), (4, .inr 39, .inl 126, false), (4, .inr 40, .inl 126, true), (5, .inr 22, .inl 0, true), (5, .inr 23, .inl 0, true), (5, .inr 24, .inl 0, false), (2, .inr 14, .inl 0, false), (2, .inr 15, .inl 0, false), (2, .inr 16, .inl 0, false), (2, .inr 38, .inl 33, false), (2, .inr 39, .inl 33, false), (2, .inr 40, .inl 33, false)] = true := by decide +kernel
set_option maxRecDepth 1000000 in
theorem q_p44 : z_caseP [(5, -1, 1, true), (6, -1, 1, true), (7, -1, 1, true), (14, 0, 1, false), (15, 0, 1, false), (16, 0, 1, false), (22, -1, 0, false), (23, -1, 0, false), (24, 1, 1, false), (30, 1, 1, false), (31, 1, 1, false), (32, 1, 1, false), (33, 1, 1, false), (34, 1, 1, false), (35, 0, 0, false), (38, 33, 126, false), (39, 33, 126, false), (40, 127, 255, false)] [(0, .inr 30, .inl 0, false), (0, .inr 31, .inl 0, false), (0, .inr 32, .inl 0, false), (0, .inr 33, .inl 0, false), (0, .inr 34, .inl 0, false), (0, .inr 35, .inl 0, true), (0, .inr 5, .inl 0, false), (0, .inr 6, .inl 0, false), (0, .inr 7, .inl 0, false), (4, .inr 38, .inl 126, false), (4, .inr 39, .inl 126, false), (4, .inr 40, .inl 126, true), (5, .inr 22, .inl 0, true), (5, .inr 23, .inl 0, true), (5, .inr 24, .inl 0, false), (2, .inr 14, .inl 0, false), (2, .inr 15, .inl 0, false), (2, .inr 16, .inl 0, false), (2, .inr 38, .inl 33, false), (2, .inr 39, .inl 33, false), (2, .inr 40, .inl 33, false)] = true := by decide +kernel
set_option maxRecDepth 1000000 in
theorem q_p45 : z_caseP [(5, -1, 1, true), (6, -1, 1, true), (7, -1, 1, true), (14, 0, 1, false), (15, 0, 1, false), (16, 0, 1, false), (22, -1, 0, false), (23, -1, 0, false), (24, 1, 1, false), (30, 1, 1, false), (31, 1, 1, false), (32, 1, 1, false), (33, 1, 1, false), (34, 1, 1, false), (35, 1, 1, false), (36, 0, 0, false), (38, 33, 126, false), (39, 33, 126, false), (40, 127, 255, false)] [(0, .inr 30, .inl 0, false), (0, .inr 31, .inl 0, false), (0, .inr 32, .inl 0, false), (0, .inr 33, .inl 0, false), (0, .inr 34, .inl 0, false), (0, .inr 35, .inl 0, false), (0, .inr 36, .inl 0, true), (0, .inr 5, .inl 0, false), (0, .inr 6, .inl 0, false), (0, .inr 7, .inl 0, false), (4, .inr 38, .inl 126, false), (4, .inr 39, .inl 126, false), (4, .inr 40, .inl 126, true), (5, .inr 22, .inl 0, true), (5, .inr 23, .inl 0, true), (5, .inr 24, .inl 0, false), (2, .inr 14, .inl 0, false), (2, .inr 15, .inl 0, false), (2, .inr 16, .inl 0, false), (2, .inr 38, .inl 33, false), (2, .inr 39, .inl 33, false), (2, .inr 40, .inl 33, false)] = true := by decide +kernel
set_option maxRecDepth 1000000 in
theorem q_p46 : z_caseP [(5, -1, 1, true), (6, -1, 1, true), (7, -1, 1, true), (14, 0, 1, false), (15, 0, 1, false), (16, 0, 1, false), (22, -1, 0, false), (23, -1, 0, false), (24, 1, 1, false), (30, 1, 1, false), (31, 1, 1, false), (32, 1, 1, false), (33, 1, 1, false), (34, 1, 1, false), (35, 1, 1, false), (36, 1, 1, false), (37, 0, 0, false), (38, 33, 126, false), (39, 33, 126, false), (40, 127, 255, false)] [(0, .inr 30, .inl 0, false), (0, .inr 31, .inl 0, false), (0, .inr 32, .inl 0, false), (0, .inr 33, .inl 0, false), (0, .inr 34, .inl 0, false), (0, .inr 35, .inl 0, false), (0, .inr 36, .inl 0, false), (0, .inr 37, .inl 0, true), (0, .inr 5, .inl 0, false), (0, .inr 6, .inl 0, false), (0, .inr 7, .inl 0, false), (4, .inr 38, .inl 126, false), (4, .inr 39, .inl 126, false), (4, .inr 40, .inl 126, true), (5, .inr 22, .inl 0, true), (5, .inr 23, .inl 0, true), (5, .inr 24, .inl 0, false), (2, .inr 14, .inl 0, false), (2, .inr 15, .inl 0, false), (2, .inr 16, .inl 0, false), (2, .inr 38, .inl 33, false), (2, .inr 39, .inl 33, false), (2, .inr 40, .inl 33, false)] = true := by decide +kernel
set_option maxRecDepth 1000000 in
theorem q_p47 : z_caseP [(5, -1, 1, true), (6, -1, 1, true), (7, -1, 1, true), (14, 0, 1, false), (15, 0, 1, false), (16, 0, 1, false), (22, -1, 0, false), (23, -1, 0, false), (24, 1, 1, false), (30, 1, 1, false), (31, 1, 1, false), (32, 1, 1, false), (33, 1, 1, false), (34, 1, 1, false), (35, 1, 1, false), (36, 1, 1, false), (37, 1, 1, false), (38, 33, 126, false), (39, 33, 126, false), (40, 127, 255, false)] [(0, .inr 30, .inl 0, false), (0, .inr 31, .inl 0, false), (0, .inr 32, .inl 0, false), (0, .inr 33, .inl 0, false), (0, .inr 34, .inl 0, false), (0, .inr 35, .inl 0, false), (0, .inr 36, .inl 0, false), (0, .inr 37, .inl 0, false), (0, .inr 5, .inl 0, false), (0, .inr 6, .inl 0, false), (0, .inr 7, .inl 0, false), (4, .inr 38, .inl 126, false), (4, .inr 39, .inl 126, false), (4, .inr 40, .inl 126, true), (5, .inr 22, .inl 0, true), (5, .inr 23, .inl 0, true), (5, .inr 24, .inl 0, false), (2, .inr 14, .inl 0, false), (2, .inr 15, .inl 0, false), (2, .inr 16, .inl 0, false), (2, .inr 38, .inl 33, false), (2, .inr 39, .inl 33, false), (2, .inr 40, .inl 33, false)] = true := by decide +kernel
set_option maxRecDepth 1000000 in
theorem q_p48 : z_caseP [(5, -1, 1, true), (6, -1, 1, true), (7, -1, 1, true), (8, 0, 0, false), (14, 0, 1, false), (15, 0, 1, false), (16, 0, 1, false), (22, -1, 0, false), (23, -1, 0, false), (24, -1, 0, false), (30, 1, 1, false), (31, 1, 1, false), (32, 1, 1, false), (33, 0, 0, false), (38, 33, 126, false), (39, 33, 126, false), (40, 33, 126, false)] [(0, .inr 30, .inl 0, false), (0, .inr 31, .inl 0, false), (0, .inr 32, .inl 0, false), (0, .inr 33, .inl 0, true), (0, .inr 5, .inl 0, false), (0, .inr 6, .inl 0, false), (0, .inr 7, .inl 0, false), (0, .inr 8, .inl 0, true), (4, .inr 38, .inl 126, false), (4, .inr 39, .inl 126, false), (4, .inr 40, .inl 126, false), (5, .inr 22, .inl 0, true), (5, .inr 23, .inl 0, true), (5, .inr 24, .inl 0, true), (2, .inr 14, .inl 0, false), (2, .inr 15, .inl 0, false), (2, .inr 16, .inl 0, false), (2, .inr 38, .inl 33, false), (2, .inr 39, .inl 33, false), (2, .inr 40, .inl 33, false)] = true := by decide +kernel
set_option maxRecDepth 1000000 in
theorem q_p49 : z_caseP [(5, -1, 1, true), (6, -1, 1, true), (7, -1, 1, true), (8, -1, 1, true), (14, 0, 1, false), (15, 0, 1, false), (16, 0, 1, false), (17, -1, -1, false), (22, -1, 0, false), (23, -1, 0, false), (24, -1, 0, false), (30, 1, 1, false), (31, 1, 1, false), (32, 1, 1, false), (33, 0, 0, false), (38, 33, 126, false), (39, 33, 126, false), (40, 33, 126, false)] [(0, .inr 30, .inl 0, false), (0, .inr 31, .inl 0, false), (0, .inr 32, .inl 0, false), (0, .inr 33, .inl 0, true), (0, .inr 5, .inl 0, false), (0, .inr 6, .inl 0, false), (0, .inr 7, .inl 0, false), (0, .inr 8, .inl 0, false), (4, .inr 38, .inl 126, false), (4, .inr 39, .inl 126, false), (4, .inr 40, .inl 126, false), (5, .inr 22, .inl 0, true), (5, .inr 23, .inl 0, true), (5, .inr 24, .inl 0, true), (2, .inr 14, .inl 0, false), (2, .inr 15, .inl 0, false), (2, .inr 16, .inl 0, false), (2, .inr 17, .inl 0, true), (2, .inr 38, .inl 33, false), (2, .inr 39, .inl 33, false), (2, .inr 40, .inl 33, false)] = true := by decide +kernel
set_option maxRecDepth 1000000 in
theorem q_p50 : z_caseP [(5, -1, 1, true), (6, -1, 1, true), (7, -1, 1, true), (8, -1, 1, true), (14, 0, 1, false), (15, 0, 1, false), (16, 0, 1, false), (17, -1, -1, false), (22, -1, 0, false), (23, -1, 0, false), (24, -1, 0, false), (30, 1, 1, false), (31, 1, 1, false), (32, 1, 1, false), (33, 1, 1, false), (34, 0, 0, false), (38, 33, 126, false), (39, 33, 126, false), (40, 33, 126, false), (41, 1, 32, false)] [(0, .inr 30, .inl 0, false), (0, .inr 31, .inl 0, false), (0, .inr 32, .inl 0, false), (0, .inr 33, .inl 0, false), (0, .inr 34, .inl 0, true), (0, .inr 5, .inl 0, false), (0, .inr 6, .inl 0, false), (0, .inr 7, .inl 0, false), (0, .inr 8, .inl 0, false), (4, .inr 38, .inl 126, false), (4, .inr 39, .inl 126, false), (4, .inr 40, .inl 126, false), (5, .inr 22, .inl 0, true), (5, .inr 23, .inl 0, true), (5, .inr 24, .inl 0, true), (2, .inr 14, .inl 0, false), (2, .inr 15, .inl 0, false), (2, .inr 16, .inl 0, false), (2, .inr 17, .inl 0, true), (2, .inr 38, .inl 33, false), (2, .inr 39, .inl 33, false), (2, .inr 40, .inl 33, false), (2, .inr 41, .inl 33, true)] = true := by decide +kernel
set_option maxRecDepth 1000000 in
theorem q_p51 : z_caseP [(5, -1, 1, true), (6, -1, 1, true), (7, -1, 1, true), (8, -1, 1, true), (14, 0, 1, false), (15, 0, 1, false), (16, 0, 1, false), (17, -1, -1, false), (22, -1, 0, false), (23, -1, 0, false), (24, -1, 0, false), (30, 1, 1, false), (31, 1, 1, false), (32, 1, 1, false), (33, 1, 1, false), (34, 1, 1, false), (35, 0, 0, false), (38, 33, 126, false), (39, 33, 126, false), (40, 33, 126, false), (41, 1, 32, false)] [(0, .inr 30, .inl 0, false), (0, .inr 31, .inl 0, false), (0, .inr 32, .inl 0, false), (0, .inr 33, .inl 0, false), (0, .inr 34, .inl 0, false), (0, .inr 35, .inl 0, true), (0, .inr 5, .inl 0, false), (0, .inr 6, .inl 0, false), (0, .inr 7, .inl 0, false), (0, .inr 8, .inl 0, false), (4, .inr 38, .inl 126, false), (4, .inr 39, .inl 126, false), (4, .inr 40, .inl 126, false), (5, .inr 22, .inl 0, true), (5, .inr 23, .inl 0, true), (5, .inr 24, .inl 0, true), (2, .inr 14, .inl 0, false), (2, .inr 15, .inl 0, false), (2, .inr 16, .inl 0, false), (2, .inr 17, .inl 0, true), (2, .inr 38, .inl 33, false), (2, .inr 39, .inl 33, false), (2, .inr 40, .inl 33, false), (2, .inr 41, .inl 33, true)] = true := by decide +kernel
set_option maxRecDepth 1000000 in
theorem q_p52 : z_caseP [(5, -1, 1, true), (6, -1, 1, true), (7, -1, 1, true), (8, -1, 1, true), (14, 0, 1, false), (15, 0, 1, false), (16, 0, 1, false), (17, -1, -1, false), (22, -1, 0, false), (23, -1, 0, false), (24, -1, 0, false), (30, 1, 1, false), (31, 1, 1, false), (32, 1, 1, false), (33, 1, 1, false), (34, 1, 1, false), (35, 1, 1, false), (36, 0, 0, false), (38, 33, 126, false), (39, 33, 126, false), (40, 33, 126, false), (41, 1, 32, false)] [(0, .inr 30, .inl 0, false), (0, .inr 31, .inl 0, false), (0, .inr 32, .inl 0, false), (0, .inr 33, .inl 0, false), (0, .inr 34, .inl 0, false), (0, .inr 35, .inl 0, false), (0, .inr 36, .inl 0, true), (0, .inr 5, .inl 0, false), (0, .inr 6, .inl 0, false), (0, .inr 7, .inl 0, false), (0, .inr 8, .inl 0, false), (4, .inr 38, .inl 126, false), (4, .inr 39, .inl 126, false), (4, .inr 40, .inl 126, false), (5, .inr 22, .inl 0, true), (5, .inr 23, .inl 0, true), (5, .inr 24, .inl 0, true), (2, .inr 14, .inl 0, false), (2, .inr 15, .inl 0, false), (2, .inr 16, .inl 0, false), (2, .inr 17, .inl 0, true), (2, .inr 38, .inl 33, false), (2, .inr 39, .inl 33, false), (2, .inr 40, .inl 33, false), (2, .inr 41, .inl 33, true)] = true := by decide +kernel
set_option maxRecDepth 1000000 in
theorem q_p53 : z_caseP [(5, -1, 1, true), (6, -1, 1, true), (7, -1, 1, true), (8, -1, 1, true), (14, 0, 1, false), (15, 0, 1, false), (16, 0, 1, false), (17, -1, -1, false), (22, -1, 0, false), (23, -1, 0, false), (24, -1, 0, false), (30, 1, 1, false), (31, 1, 1, false), (32, 1, 1, false), (33, 1, 1, false), (34, 1, 1, false), (35, 1, 1, false), (36, 1, 1, false), (37, 0, 0, false), (38, 33, 126, false), (39, 33, 126, false), (40, 33, 126, false), (41, 1, 32, false)] [(0, .inr 30, .inl 0, false), (0, .inr 31, .inl 0, false), (0, .inr 32, .inl 0, false), (0, .inr 33, .inl 0, false), (0, .inr 34, .inl 0, false), (0, .inr 35, .inl 0, false), (0, .inr 36, .inl 0, false), (0, .inr 37, .inl 0, true), (0, .inr 5, .inl 0, false), (0, .inr 6, .inl 0, false), (0, .inr 7, .inl 0, false), (0, .inr 8, .inl 0, false), (4, .inr 38, .inl 126, false), (4, .inr 39, .inl 126, false), (4, .inr 40, .inl 126, false), (5, .inr 22, .inl 0, true), (5, .inr 23, .inl 0, true), (5, .inr 24, .inl 0, true), (2, .inr 14, .inl 0, false), (2, .inr 15, .inl 0, false), (2, .inr 16, .inl 0, false), (2, .inr 17, .inl 0, true), (2, .inr 38, .inl 33, false), (2, .inr 39, .inl 33, false), (2, .inr 40, .inl 33, false), (2, .inr 41, .inl 33, true)] = true := by decide +kernel
set_option maxRecDepth 1000000 in
theorem q_p54 : z_caseP [(5, -1, 1, true), (6, -1, 1, true), (7, -1, 1, true), (8, -1, 1, true), (14, 0, 1, false), (15, 0, 1, false), (16, 0, 1, false), (17, -1, -1, false), (22, -1, 0, false), (23, -1, 0, false), (24, -1, 0, false), (30, 1, 1, false), (31, 1, 1, false), (32, 1, 1, false), (33, 1, 1, false), (34, 1, 1, false), (35, 1, 1, false), (36, 1, 1, false), (37, 1, 1, false), (38, 33, 126, false), (39, 33, 126, false), (40, 33, 126, false), (41, 1, 32, false)] [(0, .inr 30, .inl 0, false), (0, .inr 31, .inl 0, false), (0, .inr 32, .inl 0, false), (0, .inr 33, .inl 0, false), (0, .inr 34, .inl 0, false), (0, .inr 35, .inl 0, false), (0, .inr 36, .inl 0, false), (0, .inr 37, .inl 0, false), (0, .inr 5, .inl 0, false), (0, .inr 6, .inl 0, false), (0, .inr 7, .inl 0, false), (0, .inr 8, .inl 0, false), (4, .inr 38, .inl 126, false), (4, .inr 39, .inl 126, false), (4, .inr 40, .inl 126, false), (5, .inr 22, .inl 0, true), (5, .inr 23, .inl 0, true), (5, .inr 24, .inl 0, true), (2, .inr 14, .inl 0, false), (2, .inr 15, .inl 0, false), (2, .inr 16, .inl 0, false), (2, .inr 17, .inl 0, true), (2, .inr 38, .inl 33, false), (2, .inr 39, .inl 33, false), (2, .inr 40, .inl 33, false), (2, .inr 41, .inl 33, true)] = true := by decide +kernel
set_option maxRecDepth 1000000 in
theorem q_p55 : z_caseP [(5, -1, 1, true), (6, -1, 1, true), (7, -1, 1, true), (8, -1, 1, true), (14, 0, 1, false), (15, 0, 1, false), (16, 0, 1, false), (17, 0, 1, false), (22, -1, 0, false), (23, -1, 0, false), (24, -1, 0, false), (25, 1, 1, false), (30, 1, 1, false), (31, 1, 1, false), (32, 1, 1, false), (33, 1, 1, false), (34, 0, 0, false), (38, 33, 126, false), (39, 33, 126, false), (40, 33, 126, false), (41, 127, 255, false)] [(0, .inr 30, .inl 0, false), (0, .inr 31, .inl 0, false), (0, .inr 32, .inl 0, false), (0, .inr 33, .inl 0, false), (0, .inr 34, .inl 0, true), (0, .inr 5, .inl 0, false), (0, .inr 6, .inl 0, false), (0, .inr 7, .inl 0, false), (0, .inr 8, .inl 0, false), (4, .inr 38, .inl 126, false), (4, .inr 39, .inl 126, false), (4, .inr 40, .inl 126, false), (4, .inr 41, .inl 126, true), (5, .inr 22, .inl 0, true), (5, .inr 23, .inl 0, true), (5, .inr 24, .inl 0, true), (5, .inr 25, .inl 0, false), (2, .inr 14, .inl 0, false), (2, .inr 15, .inl 0, false), (2, .inr 16, .inl 0, false), (2, .inr 17, .inl 0, false), (2, .inr 38, .inl 33, false), (2, .inr 39, .inl 33, false), (2, .inr 40, .inl 33, false), (2, .inr 41, .inl 33, false)] = true := by decide +kernel
set_option maxRecDepth 1000000 in
theorem q_p56 : z_caseP [(5, -1, 1, true), (6, -1, 1, true), (7, -1, 1, true), (8, -1, 1, true), (14, 0, 1, false), (15, 0, 1, false), (16, 0, 1, false), (17, 0, 1, false), (22, -1, 0, false), (23, -1, 0, false), (24, -1, 0, false), (25, 1, 1, false), (30, 1, 1, false), (31, 1, 1, false), (32, 1, 1, false), (33, 1, 1, false), (34, 1, 1, false), (35, 0, 0, false), (38, 33, 126, false), (39, 33, 126, false), (40, 33, 126, false), (41, 127, 255, false)] [(0, .inr 30, .inl 0, false), (0, .inr 31, .inl 0, false), (0, .inr 32, .inl 0, false), (0, .inr 33, .inl 0, false), (0, .inr 34, .inl 0, false), (0, .inr 35, .inl 0, true), (0, .inr 5, .inl 0, false), (0, .inr 6, .inl 0, false), (0, .inr 7, .inl 0, false), (0, .inr 8, .inl 0, false), (4, .inr 38, .inl 126, false), (4, .inr 39, .inl 126, false), (4, .inr 40, .inl 126, false), (4, .inr 41, .inl 126, true), (5, .inr 22, .inl 0, true), (5, .inr 23, .inl 0, true), (5, .inr 24, .inl 0, true), (5, .inr 25, .inl 0, false), (2, .inr 14, .inl 0, false), (2, .inr 15, .inl 0, false), (2, .inr 16, .inl 0, false), (2, .inr 17, .inl 0, false), (2, .inr 38, .inl 33, false), (2, .inr 39, .inl 33, false), (2, .inr 40, .inl 33, false), (2, .inr 41, .inl 33, false)] = true := by decide +kernel
set_option maxRecDepth 1000000 in
theorem q_p57 : z_caseP [(5, -1, 1, true), (6, -1, 1, true), (7, -1, 1, true), (8, -1, 1, true), (14, 0, 1, false), (15, 0, 1, false), (16, 0, 1, false), (17, 0, 1, false), (22, -1, 0, false), (23, -1, 0, false), (24, -1, 0, false), (25, 1, 1, false), (30, 1, 1, false), (31, 1, 1, false), (32, 1, 1, false), (33, 1, 1, false), (34, 1, 1, false), (35, 1, 1, false), (36, 0, 0, false), (38, 33, 126, false), (39, 33, 126, false), (40, 33, 126, false), (41, 127, 255, false)] [(0, .inr 30, .inl 0, false), (0, .inr 31, .inl 0, false), (0, .inr 32, .inl 0, false), (0, .inr 33, .inl 0, false), (0, .inr 34, .inl 0, false), (0, .inr 35, .inl 0, false), (0, .inr 36, .inl 0, true), (0, .inr 5, .inl 0, false), (0, .inr 6, .inl 0, false), (0, .inr 7, .inl 0, false), (0, .inr 8, .inl 0, false), (4, .inr 38, .inl 126, false), (4, .inr 39, .inl 126, false), (4, .inr 40, .inl 126, false), (4, .inr 41, .inl 126, true), (5, .inr 22, .inl 0, true), (5, .inr 23, .inl 0, true), (5, .inr 24, .inl 0, true), (5, .inr 25, .inl 0, false), (2, .inr 14, .inl 0, false), (2, .inr 15, .inl 0, false), (2, .inr 16, .inl 0, false), (2, .inr 17, .inl 0, false), (2, .inr 38, .inl 33, false), (2, .inr 39, .inl 33, false), (2, .inr 40, .inl 33, false), (2, .inr 41, .inl 33, false)] = true := by decide +kernel
set_option maxRecDepth 1000000 in
theorem q_p58 : z_caseP [(5, -1, 1, true), (6, -1, 1, true), (7, -1, 1, true), (8, -1, 1, true), (14, 0, 1, false), (15, 0, 1, false), (16, 0, 1, false), (17, 0, 1, false), (22, -1, 0, false), (23, -1, 0, false), (24, -1, 0, false), (25, 1, 1, false), (30, 1, 1, false), (31, 1, 1, false), (32, 1, 1, false), (33, 1, 1, false), (34, 1, 1, false), (35, 1, 1, false), (36, 1, 1, false), (37, 0, 0, false), (38, 33, 126, false), (39, 33, 126, false), (40, 33, 126, false), (41, 127, 255, false)] [(0, .inr 30, .inl 0, false), (0, .inr 31, .inl 0, false), (0, .inr 32, .inl 0, false), (0, .inr 33, .inl 0, false), (0, .inr 34, .inl 0, false), (0, .inr 35, .inl 0, false), (0, .inr 36, .inl 0, false), (0, .inr 37, .inl 0, true), (0, .inr 5, .inl 0, false), (0, .inr 6, .inl 0, false), (0, .inr 7, .inl 0, false), (0, .inr 8, .inl 0, false), (4, .inr 38, .inl 126, false), (4, .inr 39, .inl 126, false), (4, .inr 40, .inl 126, false), (4, .inr 41, .inl 126, true), (5, .inr 22, .inl 0, true), (5, .inr 23, .inl 0, true), (5, .inr 24, .inl 0, true), (5, .inr 25, .inl 0, false), (2, .inr 14, .inl 0, false), (2, .inr 15, .inl 0, false), (2, .inr 16, .inl 0, false), (2, .inr 17, .inl 0, false), (2, .inr 38, .inl 33, false), (2, .inr 39, .inl 33, false), (2, .inr 40, .inl 33, false), (2, .inr 41, .inl 33, false)] = true := by decide +kernel
set_option maxRecDepth 1000000 in
theorem q_p59 : z_caseP [(5, -1, 1, true), (6, -1, 1, true), (7, -1, 1, true), (8, -1, 1, true), (14, 0, 1, false), (15, 0, 1, false), (16, 0, 1, false), (17, 0, 1, false), (22, -1, 0, false), (23, -1, 0, false), (24, -1, 0, false), (25, 1, 1, false), (30, 1, 1, false), (31, 1, 1, false), (32, 1, 1, false), (33, 1, 1, false), (34, 1, 1, false), (35, 1, 1, false), (36, 1, 1, false), (37, 1, 1, false), (38, 33, 126, false), (39, 33, 126, false), (40, 33, 126, false), (41, 127, 255, false)] [(0, .inr 30, .inl 0, false), (0, .inr 31, .inl 0, false), (0, .inr 32, .inl 0, false), (0, .inr 33, .inl 0, false), (0, .inr 34, .inl 0, false), (0, .inr 35, .inl 0, false), (0, .inr 36, .inl 0, false), (0, .inr 37, .inl 0, false), (0, .inr 5, .inl 0, false), (0, .inr 6, .inl 0, false), (0, .inr 7, .inl 0, false), (0, .inr 8, .inl 0, false), (4, .inr 38, .inl 126, false), (4, .inr 39, .inl 126, false), (4, .inr 40, .inl 126, false), (4, .inr 41, .inl 126, true), (5, .inr 22, .inl 0, true), (5, .inr 23, .inl 0, true), (5, .inr 24, .inl 0, true), (5, .inr 25, .inl 0, false), (2, .inr 14, .inl 0, false), (2, .inr 15, .inl 0, false), (2, .inr 16, .inl 0, false), (2, .inr 17, .inl 0, false), (2, .inr 38, .inl 33, false), (2, .inr 39, .inl 33, false), (2, .inr 40, .inl 33, false), (2, .inr 41, .inl 33, false)] = true := by decide +kernel
end
section
set_option maxRecDepth 1000000 in
theorem q_p60 : z_caseP [(5, -1, 1, true), (6, -1, 1, true), (7, -1, 1, true), (8, -1, 1, true), (9, 0, 0, false), (14, 0, 1, false), (15, 0, 1, false), (16, 0, 1, false), (17, 0, 1, false), (22, -1, 0, false), (23, -1, 0, false), (24, -1, 0, false), (25, -1, 0, false), (30, 1, 1, false), (31, 1, 1, false), (32, 1, 1, false), (33, 1, 1, false), (34, 0, 0, false), (38, 33, 126, false), (39, 33, 126, false), (40, 33, 126, false), (41, 33, 126, false)] [(0, .inr 30, .inl 0, false), (0, .inr 31, .inl 0, false), (0, .inr 32, .inl 0, false), (0, .inr 33, .inl 0, false), (0, .inr 34, .inl 0, true), (0, .inr 5, .inl 0, false), (0, .inr 6, .inl 0, false), (0, .inr 7, .inl 0, false), (0, .inr 8, .inl 0, false), (0, .inr 9, .inl 0, true), (4, .inr 38, .inl 126, false), (4, .inr 39, .inl 126, false), (4, .inr 40, .inl 126, false), (4, .inr 41, .inl 126, false), (5, .inr 22, .inl 0, true), (5, .inr 23, .inl 0, true), (5, .inr 24, .inl 0, true), (5, .inr 25, .inl 0, true), (2, .inr 14, .inl 0, false), (2, .inr 15, .inl 0, false), (2, .inr 16, .inl 0, false), (2, .inr 17, .inl 0, false), (2, .inr 38, .inl 33, false), (2, .inr 39, .inl 33, false), (2, .inr 40, .inl 33, false), (2, .inr 41, .inl 33, false)] = true := by decide +kernel
set_option maxRecDepth 1000000 in
theorem q_p61 : z_caseP [(5, -1, 1, true), (6, -1, 1, true), (7, -1, 1, true), (8, -1, 1, true), (9, -1, 1, true), (14, 0, 1, false), (15, 0, 1, false), (16, 0, 1, false), (17, 0, 1, false), (18, -1, -1, false), (22, -1, 0, false), (23, -1, 0, false), (24, -1, 0, false), (25, -1, 0, false), (30, 1, 1, false), (31, 1, 1, false), (32, 1, 1, false), (33, 1, 1, false), (34, 0, 0, false), (38, 33, 126, false), (39, 33, 126, false), (40, 33, 126, false), (41, 33, 126, false)] [(0, .inr 30, .inl 0, false), (0, .inr 31, .inl 0, false), (0, .inr 32, .inl 0, false), (0, .inr 33, .inl 0, false), (0, .inr 34, .inl 0, true), (0, .inr 5, .inl 0, false), (0, .inr 6, .inl 0, false), (0, .inr 7, .inl 0, false), (0, .inr 8, .inl 0, false), (0, .inr 9, .inl 0, false), (4, .inr 38, .inl 126, false), (4, .inr 39, .inl 126, false), (4, .inr 40, .inl 126, false), (4, .inr 41, .inl 126, false), (5, .inr 22, .inl 0, true), (5, .inr 23, .inl 0, true), (5, .inr 24, .inl 0, true), (5, .inr 25, .inl 0, true), (2, .inr 14, .inl 0, false), (2, .inr 15, .inl 0, false), (2, .inr 16, .inl 0, false), (2, .inr 17, .inl 0, false), (2, .inr 18, .inl 0, true), (2, .inr 38, .inl 33, false), (2, .inr 39, .inl 33, false), (2, .inr 40, .inl 33, false), (2, .inr 41, .inl 33, false)] = true := by decide +kernel
set_option maxRecDepth 1000000 in
theorem q_p62 : z_caseP [(5, -1, 1, true), (6, -1, 1, true), (7, -1, 1, true), (8, -1, 1, true), (9, -1, 1, true), (14, 0, 1, false), (15, 0, 1, false), (16, 0, 1, false), (17, 0, 1, false), (18, -1, -1, false), (22, -1, 0, false), (23, -1, 0, false), (24, -1, 0, false), (25, -1, 0, false), (30, 1, 1, false), (31, 1, 1, false), (32, 1, 1, false), (33, 1, 1, false), (34, 1, 1, false), (35, 0, 0, false), (38, 33, 126, false), (39, 33, 126, false), (40, 33, 126, false), (41, 33, 126, false), (42, 1, 32, false)] [(0, .inr 30, .inl 0, false), (0, .inr 31, .inl 0, false), (0, .inr 32, .inl 0, false), (0, .inr 33, .inl 0, false), (0, .inr 34, .inl 0, false), (0, .inr 35, .inl 0, true), (0, .inr 5, .inl 0, false), (0, .inr 6, .inl 0, false), (0, .inr 7, .inl 0, false), (0, .inr 8, .inl 0, false), (0, .inr 9, .inl 0, false), (4, .inr 38, .inl 126, false), (4, .inr 39, .inl 126, false), (4, .inr 40, .inl 126, false), (4, .inr 41, .inl 126, false), (5, .inr 22, .inl 0, true), (5, .inr 23, .inl 0, true), (5, .inr 24, .inl 0, true), (5, .inr 25, .inl 0, true), (2, .inr 14, .inl 0, false), (2, .inr 15, .inl 0, false), (2, .inr 16, .inl 0, false), (2, .inr 17, .inl 0, false), (2, .inr 18, .inl 0, true), (2, .inr 38, .inl 33, false), (2, .inr 39, .inl 33, false), (2, .inr 40, .inl 33, false), (2, .inr 41, .inl 33, false), (2, .inr 42, .inl 33, true)] = true := by decide +kernel
set_option maxRecDepth 1000000 in
theorem q_p63 : z_caseP [(5, -1, 1, true), (6, -1, 1, true), (7, -1, 1, true), (8, -1, 1, true), (9, -1, 1, true), (14, 0, 1, false), (15, 0, 1, false), (16, 0, 1, false), (17, 0, 1, false), (18, -1, -1, false), (22, -1, 0, false), (23, -1, 0, false), (24, -1, 0, false), (25, -1, 0, false), (30, 1, 1, false), (31, 1, 1, false), (32, 1, 1, false), (33, 1, 1, false), (34, 1, 1, false), (35, 1, 1, false), (36, 0, 0, false), (38, 33, 126, false), (39, 33, 126, false), (40, 33, 126, false), (41, 33, 126, false), (42, 1, 32, false)] [(0, .inr 30, .inl 0, false), (0, .inr 31, .inl 0, false), (0, .inr 32, .inl 0, false), (0, .inr 33, .inl 0, false), (0, .inr 34, .inl 0, false), (0, .inr 35, .inl 0, false), (0, .inr 36, .inl 0, true), (0, .inr 5, .inl 0, false), (0, .inr 6, .inl 0, false), (0, .inr 7, .inl 0, false), (0, .inr 8, .inl 0, false), (0, .inr 9, .inl 0, false), (4, .inr 38, .inl 126, false), (4, .inr 39, .inl 126, false), (4, .inr 40, .inl 126, false), (4, .inr 41, .inl 126, false), (5, .inr 22, .inl 0, true), (5, .inr 23, .inl 0, true), (5, .inr 24, .inl 0, true), (5, .inr 25, .inl 0, true), (2, .inr 14, .inl 0, false), (2, .inr 15, .inl 0, false), (2, .inr 16, .inl 0, false), (2, .inr 17, .inl 0, false), (2, .inr 18, .inl 0, true), (2, .inr 38, .inl 33, false), (2, .inr 39, .inl 33, false), (2, .inr 40, .inl 33, false), (2, .inr 41, .inl 33, false), (2, .inr 42, .inl 33, true)] = true := by decide +kernel
set_option maxRecDepth 1000000 in
theorem q_p64 : z_caseP [(5, -1, 1, true), (6, -1, 1, true), (7, -1, 1, true), (8, -1, 1, true), (9, -1, 1, true), (14, 0, 1, false), (15, 0, 1, false), (16, 0, 1, false), (17, 0, 1, false), (18, -1, -1, false), (22, -1, 0, false), (23, -1, 0, false), (24, -1, 0, false), (25, -1, 0, false), (30, 1, 1, false), (31, 1, 1, false), (32, 1, 1, false), (33, 1, 1, false), (34, 1, 1, false), (35, 1, 1, false), (36, 1, 1, false), (37, 0, 0, false), (38, 33, 126, false), (39, 33, 126, false), (40, 33, 126, false), (41, 33, 126, false), (42, 1, 32, false)] [(0, .inr 30, .inl 0, false), (0, .inr 31, .inl 0, false), (0, .inr 32, .inl 0, false), (0, .inr 33, .inl 0, false), (0, .inr 34, .inl 0, false), (0, .inr 35, .inl 0, false), (0, .inr 36, .inl 0, false), (0, .inr 37, .inl 0, true), (0, .inr 5, .inl 0, false), (0, .inr 6, .inl 0, false), (0, .inr 7, .inl 0, false), (0, .inr 8, .inl 0, false), (0, .inr 9, .inl 0, false), (4, .inr 38, .inl 126, false), (4, .inr 39, .inl 126, false), (4, .inr 40, .inl 126, false), (4, .inr 41, .inl 126, false), (5, .inr 22, .inl 0, true), (5, .inr 23, .inl 0, true), (5, .inr 24, .inl 0, true), (5, .inr 25, .inl 0, true), (2, .inr 14, .inl 0, false), (2, .inr 15, .inl 0, false), (2, .inr 16, .inl 0, false), (2, .inr 17, .inl 0, false), (2, .inr 18, .inl 0, true), (2, .inr 38, .inl 33, false), (2, .inr 39, .inl 33, false), (2, .inr 40, .inl 33, false), (2, .inr 41, .inl 33, false), (2, .inr 42, .inl 33, true)] = true := by decide +kernel
set_option maxRecDepth 1000000 in
theorem q_p65 : z_caseP [(5, -1, 1, true), (6, -1, 1, true), (7, -1, 1, true), (8, -1, 1, true), (9, -1, 1, true), (14, 0, 1, false), (15, 0, 1, false), (16, 0, 1, false), (17, 0, 1, false), (18, -1, -1, false), (22, -1, 0, false), (23, -1, 0, false), (24, -1, 0, false), (25, -1, 0, false), (30, 1, 1, false), (31, 1, 1, false), (32, 1, 1, false), (33, 1, 1, false), (34, 1, 1, false), (35, 1, 1, false), (36, 1, 1, false), (37, 1, 1, false), (38, 33, 126, false), (39, 33, 126, false), (40, 33, 126, false), (41, 33, 126, false), (42, 1, 32, false)] [(0, .inr 30, .inl 0, false), (0, .inr 31, .inl 0, false), (0, .inr 32, .inl 0, false), (0, .inr 33, .inl 0, false), (0, .inr 34, .inl 0, false), (0, .inr 35, .inl 0, false), (0, .inr 36, .inl 0, false), (0, .inr 37, .inl 0, false), (0, .inr 5, .inl 0, false), (0, .inr 6, .inl 0, false), (0, .inr 7, .inl 0, false), (0, .inr 8, .inl 0, false), (0, .inr 9, .inl 0, false), (4, .inr 38, .inl 126, false), (4, .inr 39, .inl 126, false), (4, .inr 40, .inl 126, false), (4, .inr 41, .inl 126, false), (5, .inr 22, .inl 0, true), (5, .inr 23, .inl 0, true), (5, .inr 24, .inl 0, true), (5, .inr 25, .inl 0, true), (2, .inr 14, .inl 0, false), (2, .inr 15, .inl 0, false), (2, .inr 16, .inl 0, false), (2, .inr 17, .inl 0, false), (2, .inr 18, .inl 0, true), (2, .inr 38, .inl 33, false), (2, .inr 39, .inl 33, false), (2, .inr 40, .inl 33, false), (2, .inr 41, .inl 33, false), (2, .inr 42, .inl 33, true)] = true := by decide +kernel
set_option maxRecDepth 1000000 in
theorem q_p66 : z_caseP [(5, -1, 1, true), (6, -1, 1, true), (7, -1, 1, true), (8, -1, 1, true), (9, -1, 1, true), (14, 0, 1, false), (15, 0, 1, false), (16, 0, 1, false), (17, 0, 1, false), (18, 0, 1, false), (22, -1, 0, false), (23, -1, 0, false), (24, -1, 0, false), (25, -1, 0, false), (26, 1, 1, false), (30, 1, 1, false), (31, 1, 1, false), (32, 1, 1, false), (33, 1, 1, false), (34, 1, 1, false), (35, 0, 0, false), (38, 33, 126, false), (39, 33, 126, false), (40, 33, 126, false), (41, 33, 126, false), (42, 127, 255, false)] [(0, .inr 30, .inl 0, false), (0, .inr 31, .inl 0, false), (0, .inr 32, .inl 0, false), (0, .inr 33, .inl 0, false), (0, .inr 34, .inl 0, false), (0, .inr 35, .inl 0, true), (0, .inr 5, .inl 0, false), (0, .inr 6, .inl 0, false), (0, .inr 7, .inl 0, false), (0, .inr 8, .inl 0, false), (0, .inr 9, .inl 0, false), (4, .inr 38, .inl 126, false), (4, .inr 39, .inl 126, false), (4, .inr 40, .inl 126, false), (4, .inr 41, .inl 126, false), (4, .inr 42, .inl 126, true), (5, .inr 22, .inl 0, true), (5, .inr 23, .inl 0, true), (5, .inr 24, .inl 0, true), (5, .inr 25, .inl 0, true), (5, .inr 26, .inl 0, false), (2, .inr 14, .inl 0, false), (2, .inr 15, .inl 0, false), (2, .inr 16, .inl 0, false), (2, .inr 17, .inl 0, false), (2, .inr 18, .inl 0, false), (2, .inr 38, .inl 33, false), (2, .inr 39, .inl 33, false), (2, .inr 40, .inl 33, false), (2, .inr 41, .inl 33, false), (2, .inr 42, .inl 33, false)] = true := by decide +kernel
set_option maxRecDepth 1000000 in
theorem q_p67 : z_caseP [(5, -1, 1, true), (6, -1, 1, true), (7, -1, 1, true), (8, -1, 1, true), (9, -1, 1, true), (14, 0, 1, false), (15, 0, 1, false), (16, 0, 1, false), (17, 0, 1, false), (18, 0, 1, false), (22, -1, 0, false), (23, -1, 0, false), (24, -1, 0, false), (25, -1, 0, false), (26, 1, 1, false), (30, 1, 1, false), (31, 1, 1, false), (32, 1, 1, false), (33, 1, 1, false), (34, 1, 1, false), (35, 1, 1, false), (36, 0, 0, false), (38, 33, 126, false), (39, 33, 126, false), (40, 33, 126, false), (41, 33, 126, false), (42, 127, 255, false)] [(0, .inr 30, .inl 0, false), (0, .inr 31, .inl 0, false), (0, .inr 32, .inl 0, false), (0, .inr 33, .inl 0, false), (0, .inr 34, .inl 0, false), (0, .inr 35, .inl 0, false), (0, .inr 36, .inl 0, true), (0, .inr 5, .inl 0, false), (0, .inr 6, .inl 0, false), (0, .inr 7, .inl 0, false), (0, .inr 8, .inl 0, false), (0, .inr 9, .inl 0, false), (4, .inr 38, .inl 126, false), (4, .inr 39, .inl 126, false), (4, .inr 40, .inl 126, false), (4, .inr 41, .inl 126, false), (4, .inr 42, .inl 126, true), (5, .inr 22, .inl 0, true), (5, .inr 23, .inl 0, true), (5, .inr 24, .inl 0, true), (5, .inr 25, .inl 0, true), (5, .inr 26, .inl 0, false), (2, .inr 14, .inl 0, false), (2, .inr 15, .inl 0, false), (2, .inr 16, .inl 0, false), (2, .inr 17, .inl 0, false), (2, .inr 18, .inl 0, false), (2, .inr 38, .inl 33, false), (2, .inr 39, .inl 33, false), (2, .inr 40, .inl 33, false), (2, .inr 41, .inl 33, false), (2, .inr 42, .inl 33, false)] = true := by decide +kernel
set_option maxRecDepth 1000000 in
theorem q_p68 : z_caseP [(5, -1, 1, true), (6, -1, 1, true), (7, -1, 1, true), (8, -1, 1, true), (9, -1, 1, true), (14, 0, 1, false), (15, 0, 1, false), (16, 0, 1, false), (17, 0, 1, false), (18, 0, 1, false), (22, -1, 0, false), (23, -1, 0, false), (24, -1, 0, false), (25, -1, 0, false), (26, 1, 1, false), (30, 1, 1, false), (31, 1, 1, false), (32, 1, 1, false), (33, 1, 1, false), (34, 1, 1, false), (35, 1, 1, false), (36, 1, 1, false), (37, 0, 0, false), (38, 33, 126, false), (39, 33, 126, false), (40, 33, 126, false), (41, 33, 126, false), (42, 127, 255, false)] [(0, .inr 30, .inl 0, false), (0, .inr 31, .inl 0, false), (0, .inr 32, .inl 0, false), (0, .inr 33, .inl 0, false), (0, .inr 34, .inl 0, false), (0, .inr 35, .inl 0, false), (0, .inr 36, .inl 0, false), (0, .inr 37, .inl 0, true), (0, .inr 5, .inl 0, false), (0, .inr 6, .inl 0, false), (0, .inr 7, .inl 0, false), (0, .inr 8, .inl 0, false), (0, .inr 9, .inl 0, false), (4, .inr 38, .inl 126, false), (4, .inr 39, .inl 126, false), (4, .inr 40, .inl 126, false), (4, .inr 41, .inl 126, false), (4, .inr 42, .inl 126, true), (5, .inr 22, .inl 0, true), (5, .inr 23, .inl 0, true), (5, .inr 24, .inl 0, true), (5, .inr 25, .inl 0, true), (5, .inr 26, .inl 0, false), (2, .inr 14, .inl 0, false), (2, .inr 15, .inl 0, false), (2, .inr 16, .inl 0, false), (2, .inr 17, .inl 0, false), (2, .inr 18, .inl 0, false), (2, .inr 38, .inl 33, false), (2, .inr 39, .inl 33, false), (2, .inr 40, .inl 33, false), (2, .inr 41, .inl 33, false), (2, .inr 42, .inl 33, false)] = true := by decide +kernel
set_option maxRecDepth 1000000 in
theorem q_p69 : z_caseP [(5, -1, 1, true), (6, -1, 1, true), (7, -1, 1, true), (8, -1, 1, true), (9, -1, 1, true), (14, 0, 1, false), (15, 0, 1, false), (16, 0, 1, false), (17, 0, 1, false), (18, 0, 1, false), (22, -1, 0, false), (23, -1, 0, false), (24, -1, 0, false), (25, -1, 0, false), (26, 1, 1, false), (30, 1, 1, false), (31, 1, 1, false), (32, 1, 1, false), (33, 1, 1, false), (34, 1, 1, false), (35, 1, 1, false), (36, 1, 1, false), (37, 1, 1, false), (38, 33, 126, false), (39, 33, 126, false), (40, 33, 126, false), (41, 33, 126, false), (42, 127, 255, false)] [(0, .inr 30, .inl 0, false), (0, .inr 31, .inl 0, false), (0, .inr 32, .inl 0, false), (0, .inr 33, .inl 0, false), (0, .inr 34, .inl 0, false), (0, .inr 35, .inl 0, false), (0, .inr 36, .inl 0, false), (0, .inr 37, .inl 0, false), (0, .inr 5, .inl 0, false), (0, .inr 6, .inl 0, false), (0, .inr 7, .inl 0, false), (0, .inr 8, .inl 0, false), (0, .inr 9, .inl 0, false), (4, .inr 38, .inl 126, false), (4, .inr 39, .inl 126, false), (4, .inr 40, .inl 126, false), (4, .inr 41, .inl 126, false), (4, .inr 42, .inl 126, true), (5, .inr 22, .inl 0, true), (5, .inr 23, .inl 0, true), (5, .inr 24, .inl 0, true), (5, .inr 25, .inl 0, true), (5, .inr 26, .inl 0, false), (2, .inr 14, .inl 0, false), (2, .inr 15, .inl 0, false), (2, .inr 16, .inl 0, false), (2, .inr 17, .inl 0, false), (2, .inr 18, .inl 0, false), (2, .inr 38, .inl 33, false), (2, .inr 39, .inl 33, false), (2, .inr 40, .inl 33, false), (2, .inr 41, .inl 33, false), (2, .inr 42, .inl 33, false)] = true := by decide +kernel
set_option maxRecDepth 1000000 in
theorem q_p70 : z_caseP [(5, -1, 1, true), (6, -1, 1, true), (7, -1, 1, true), (8, -1, 1, true), (9, -1, 1, true), (10, 0, 0, false), (14, 0, 1, false), (15, 0, 1, false), (16, 0, 1, false), (17, 0, 1, false), (18, 0, 1, false), (22, -1, 0, false), (23, -1, 0, false), (24, -1, 0, false), (25, -1, 0, false), (26, -1, 0, false), (30, 1, 1, false), (31, 1, 1, false), (32, 1, 1, false), (33, 1, 1, false), (34, 1, 1, false), (35, 0, 0, false), (38, 33, 126, false), (39, 33, 126, false), (40, 33, 126, false), (41, 33, 126, false), (42, 33, 126, false)] [(0, .inr 10, .inl 0, true), (0, .inr 30, .inl 0, false), (0, .inr 31, .inl 0, false), (0, .inr 32, .inl 0, false), (0, .inr 33, .inl 0, false), (0, .inr 34, .inl 0, false), (0, .inr 35, .inl 0, true), (0, .inr 5, .inl 0, false), (0, .inr 6, .inl 0, false), (0, .inr 7, .inl 0, false), (0, .inr 8, .inl 0, false), (0, .inr 9, .inl 0, false), (4, .inr 38, .inl 126, false), (4, .inr 39, .inl 126, false), (4, .inr 40, .inl 126, false), (4, .inr 41, .inl 126, false), (4, .inr 42, .inl 126, false), (5, .inr 22, .inl 0, true), (5, .inr 23, .inl 0, true), (5, .inr 24, .inl 0, true), (5, .inr 25, .inl 0, true), (5, .inr 26, .inl 0, true), (2, .inr 14, .inl 0, false), (2, .inr 15, .inl 0, false), (2, .inr 16, .inl 0, false), (2, .inr 17, .inl 0, false), (2, .inr 18, .inl 0, false), (2, .inr 38, .inl 33, false), (2, .inr 39, .inl 33, false), (2, .inr 40, .inl 33, false), (2, .inr 41, .inl 33, false), (2, .inr 42, .inl 33, false)] = true := by decide +kernel
set_option maxRecDepth 1000000 in
theorem q_p71 : z_caseP [(5, -1, 1, true), (6, -1, 1, true), (7, -1, 1, true), (8, -1, 1, true), (9, -1, 1, true), (10, -1, 1, true), (14, 0, 1, false), (15, 0, 1, false), (16, 0, 1, false), (17, 0, 1, false), (18, 0, 1, false), (19, -1, -1, false), (22, -1, 0, false), (23, -1, 0, false), (24, -1, 0, false), (25, -1, 0, false), (26, -1, 0, false), (30, 1, 1, false), (31, 1, 1, false), (32, 1, 1, false), (33, 1, 1, false), (34, 1, 1, false), (35, 0, 0, false), (38, 33, 126, false), (39, 33, 126, false), (40, 33, 126, false), (41, 33, 126, false), (42, 33, 126, false)] [(0, .inr 10, .inl 0, false), (0, .inr 30, .inl 0, false), (0, .inr 31, .inl 0, false), (0, .inr 32, .inl 0, false), (0, .inr 33, .inl 0, false), (0, .inr 34, .inl 0, false), (0, .inr 35, .inl 0, true), (0, .inr 5, .inl 0, false), (0, .inr 6, .inl 0, false), (0, .inr 7, .inl 0, false), (0, .inr 8, .inl 0, false), (0, .inr 9, .inl 0, false), (4, .inr 38, .inl 126, false), (4, .inr 39, .inl 126, false), (4, .inr 40, .inl 126, false), (4, .inr 41, .inl 126, false), (4, .inr 42, .inl 126, false), (5, .inr 22, .inl 0, true), (5, .inr 23, .inl 0, true), (5, .inr 24, .inl 0, true), (5, .inr 25, .inl 0, true), (5, .inr 26, .inl 0, true), (2, .inr 14, .inl 0, false), (2, .inr 15, .inl 0, false), (2, .inr 16, .inl 0, false), (2, .inr 17, .inl 0, false), (2, .inr 18, .inl 0, false), (2, .inr 19, .inl 0, true), (2, .inr 38, .inl 33, false), (2, .inr 39, .inl 33, false), (2, .inr 40, .inl 33, false), (2, .inr 41, .inl 33, false), (2, .inr 42, .inl 33, false)] = true := by decide +kernel
set_option maxRecDepth 1000000 in
theorem q_p72 : z_caseP [(5, -1, 1, true), (6, -1, 1, true), (7, -1, 1, true), (8, -1, 1, true), (9, -1, 1, true), (10, -1, 1, true), (14, 0, 1, false), (15, 0, 1, false), (16, 0, 1, false), (17, 0, 1, false), (18, 0, 1, false), (19, -1, -1, false), (22, -1, 0, false), (23, -1, 0, false), (24, -1, 0, false), (25, -1, 0, false), (26, -1, 0, false), (30, 1, 1, false), (31, 1, 1, false), (32, 1, 1, false), (33, 1, 1, false), (34, 1, 1, false), (35, 1, 1, false), (36, 0, 0, false), (38, 33, 126, false), (39, 33, 126, false), (40, 33, 126, false), (41, 33, 126, false), (42, 33, 126, false), (43, 1, 32, false)] [(0, .inr 10, .inl 0, false), (0, .inr 30, .inl 0, false), (0, .inr 31, .inl 0, false), (0, .inr 32, .inl 0, false), (0, .inr 33, .inl 0, false), (0, .inr 34, .inl 0, false), (0, .inr 35, .inl 0, false), (0, .inr 36, .inl 0, true), (0, .inr 5, .inl 0, false), (0, .inr 6, .inl 0, false), (0, .inr 7, .inl 0, false), (0, .inr 8, .inl 0, false), (0, .inr 9, .inl 0, false), (4, .inr 38, .inl 126, false), (4, .inr 39, .inl 126, false), (4, .inr 40, .inl 126, false), (4, .inr 41, .inl 126, false), (4, .inr 42, .inl 126, false), (5, .inr 22, .inl 0, true), (5, .inr 23, .inl 0, true), (5, .inr 24, .inl 0, true), (5, .inr 25, .inl 0, true), (5, .inr 26, .inl 0, true), (2, .inr 14, .inl 0, false), (2, .inr 15, .inl 0, false), (2, .inr 16, .inl 0, false), (2, .inr 17, .inl 0, false), (2, .inr 18, .inl 0, false), (2, .inr 19, .inl 0, true), (2, .inr 38, .inl 33, false), (2, .inr 39, .inl 33, false), (2, .inr 40, .inl 33, false), (2, .inr 41, .inl 33, false), (2, .inr 42, .inl 33, false), (2, .inr 43, .inl 33, true)] = true := by decide +kernel
set_option maxRecDepth 1000000 in
theorem q_p73 : z_caseP [(5, -1, 1, true), (6, -1, 1, true), (7, -1, 1, true), (8, -1, 1, true), (9, -1, 1, true), (10, -1, 1, true), (14, 0, 1, false), (15, 0, 1, false), (16, 0, 1, false), (17, 0, 1, false), (18, 0, 1, false), (19, -1, -1, false), (22, -1, 0, false), (23, -1, 0, false), (24, -1, 0, false), (25, -1, 0, false), (26, -1, 0, false), (30, 1, 1, false), (31, 1, 1, false), (32, 1, 1, false), (33, 1, 1, false), (34, 1, 1, false), (35, 1, 1, false), (36, 1, 1, false), (37, 0, 0, false), (38, 33, 126, false), (39, 33, 126, false), (40, 33, 126, false), (41, 33, 126, false), (42, 33, 126, false), (43, 1, 32, false)] [(0, .inr 10, .inl 0, false), (0, .inr 30, .inl 0, false), (0, .inr 31, .inl 0, false), (0, .inr 32, .inl 0, false), (0, .inr 33, .inl 0, false), (0, .inr 34, .inl 0, false), (0, .inr 35, .inl 0, false), (0, .inr 36, .inl 0, false), (0, .inr 37, .inl 0, true), (0, .inr 5, .inl 0, false), (0, .inr 6, .inl 0, false), (0, .inr 7, .inl 0, false), (0, .inr 8, .inl 0, false), (0, .inr 9, .inl 0, false), (4, .inr 38, .inl 126, false), (4, .inr 39, .inl 126, false), (4, .inr 40, .inl 126, false), (4, .inr 41, .inl 126, false), (4, .inr 42, .inl 126, false), (5, .inr 22, .inl 0, true), (5, .inr 23, .inl 0, true), (5, .inr 24, .inl 0, true), (5, .inr 25, .inl 0, true), (5, .inr 26, .inl 0, true), (2, .inr 14, .inl 0, false), (2, .inr 15, .inl 0, false), (2, .inr 16, .inl 0, false), (2, .inr 17, .inl 0, false), (2, .inr 18, .inl 0, false), (2, .inr 19, .inl 0, true), (2, .inr 38, .inl 33, false), (2, .inr 39, .inl 33, false), (2, .inr 40, .inl 33, false), (2, .inr 41, .inl 33, false), (2, .inr 42, .inl 33, false), (2, .inr 43, .inl 33, true)] = true := by decide +kernel
set_option maxRecDepth 1000000 in
theorem q_p74 : z_caseP [(5, -1, 1, true), (6, -1, 1, true), (7, -1, 1, true), (8, -1, 1, true), (9, -1, 1, true), (10, -1, 1, true), (14, 0, 1, false), (15, 0, 1, false), (16, 0, 1, false), (17, 0, 1, false), (18, 0, 1, false), (19, -1, -1, false), (22, -1, 0, false), (23, -1, 0, false), (24, -1, 0, false), (25, -1, 0, false), (26, -1, 0, false), (30, 1, 1, false), (31, 1, 1, false), (32, 1, 1, false), (33, 1, 1, false), (34, 1, 1, false), (35, 1, 1, false), (36, 1, 1, false), (37, 1, 1, false), (38, 33, 126, false), (39, 33, 126, false), (40, 33, 126, false), (41, 33, 126, false), (42, 33, 126, false), (43, 1, 32, false)] [(0, .inr 10, .inl 0, false), (0, .inr 30, .inl 0, false), (0, .inr 31, .inl 0, false), (0, .inr 32, .inl 0, false), (0, .inr 33, .inl 0, false), (0, .inr 34, .inl 0, false), (0, .inr 35, .inl 0, false), (0, .inr 36, .inl 0, false), (0, .inr 37, .inl 0, false), (0, .inr 5, .inl 0, false), (0, .inr 6, .inl 0, false), (0, .inr 7, .inl 0, false), (0, .inr 8, .inl 0, false), (0, .inr 9, .inl 0, false), (4, .inr 38, .inl 126, false), (4, .inr 39, .inl 126, false), (4, .inr 40, .inl 126, false), (4, .inr 41, .inl 126, false), (4, .inr 42, .inl 126, false), (5, .inr 22, .inl 0, true), (5, .inr 23, .inl 0, true), (5, .inr 24, .inl 0, true), (5, .inr 25, .inl 0, true), (5, .inr 26, .inl 0, true), (2, .inr 14, .inl 0, false), (2, .inr 15, .inl 0, false), (2, .inr 16, .inl 0, false), (2, .inr 17, .inl 0, false), (2, .inr 18, .inl 0, false), (2, .inr 19, .inl 0, true), (2, .inr 38, .inl 33, false), (2, .inr 39, .inl 33, false), (2, .inr 40, .inl 33, false), (2, .inr 41, .inl 33, false), (2, .inr 42, .inl 33, false), (2, .inr 43, .inl 33, true)] = true := by decide +kernel
set_option maxRecDepth 1000000 in
theorem q_p75 : z_caseP [(5, -1, 1, true), (6, -1, 1, true), (7, -1, 1, true), (8, -1, 1, true), (9, -1, 1, true), (10, -1, 1, true), (14, 0, 1, false), (15, 0, 1, false), (16, 0, 1, false), (17, 0, 1, false), (18, 0, 1, false), (19, 0, 1, false), (22, -1, 0, false), (23, -1, 0, false), (24, -1, 0, false), (25, -1, 0, false), (26, -1, 0, false), (27, 1, 1, false), (30, 1, 1, false), (31, 1, 1, false), (32, 1, 1, false), (33, 1, 1, false), (34, 1, 1, false), (35, 1, 1, false), (36, 0, 0, false), (38, 33, 126, false), (39, 33, 126, false), (40, 33, 126, false), (41, 33, 126, false), (42, 33, 126, false), (43, 127, 255, false)] [(0, .inr 10, .inl 0, false), (0, .inr 30, .inl 0, false), (0, .inr 31, .inl 0, false), (0, .inr 32, .inl 0, false), (0, .inr 33, .inl 0, false), (0, .inr 34, .inl 0, false), (0, .inr 35, .inl 0, false), (0, .inr 36, .inl 0, true), (0, .inr 5, .inl 0, false), (0, .inr 6, .inl 0, false), (0, .inr 7, .inl 0, false), (0, .inr 8, .inl 0, false), (0, .inr 9, .inl 0, false), (4, .inr 38, .inl 126, false), (4, .inr 39, .inl 126, false), (4, .inr 40, .inl 126, false), (4, .inr 41, .inl 126, false), (4, .inr 42, .inl 126, false), (4, .inr 43, .inl 126, true), (5, .inr 22, .inl 0, true), (5, .inr 23, .inl 0, true), (5, .inr 24, .inl 0, true), (5, .inr 25, .inl 0, true), (5, .inr 26, .inl 0, true), (5, .inr 27, .inl 0, false), (2, .inr 14, .inl 0, false), (2, .inr 15, .inl 0, false), (2, .inr 16, .inl 0, false), (2, .inr 17, .inl 0, false), (2, .inr 18, .inl 0, false), (2, .inr 19, .inl 0, false), (2, .inr 38, .inl 33, false), (2, .inr 39, .inl 33, false), (2, .inr 40, .inl 33, false), (2, .inr 41, .inl 33, false), (2, .inr 42, .inl 33, false), (2, .inr 43, .inl 33, false)] = true := by decide +kernel
set_option maxRecDepth 1000000 in
theorem q_p76 : z_caseP [(5, -1, 1, true), (6, -1, 1, true), (7, -1, 1, true), (8, -1, 1, true), (9, -1, 1, true), (10, -1, 1, true), (14, 0, 1, false), (15, 0, 1, false), (16, 0, 1, false), (17, 0, 1, false), (18, 0, 1, false), (19, 0, 1, false), (22, -1, 0, false), (23, -1, 0, false), (24, -1, 0, false), (25, -1, 0, false), (26, -1, 0, false), (27, 1, 1, false), (30, 1, 1, false), (31, 1, 1, false), (32, 1, 1, false), (33, 1, 1, false), (34, 1, 1, false), (35, 1, 1, false), (36, 1, 1, false), (37, 0, 0, false), (38, 33, 126, false), (39, 33, 126, false), (40, 33, 126, false), (41, 33, 126, false), (42, 33, 126, false), (43, 127, 255, false)] [(0, .inr 10, .inl 0, false), (0, .inr 30, .inl 0, false), (0, .inr 31, .inl 0, false), (0, .inr 32, .inl 0, false), (0, .inr 33, .inl 0, false), (0, .inr 34, .inl 0, false), (0, .inr 35, .inl 0, false), (0, .inr 36, .inl 0, false), (0, .inr 37, .inl 0, true), (0, .inr 5, .inl 0, false), (0, .inr 6, .inl 0, false), (0, .inr 7, .inl 0, false), (0, .inr 8, .inl 0, false), (0, .inr 9, .inl 0, false), (4, .inr 38, .inl 126, false), (4, .inr 39, .inl 126, false), (4, .inr 40, .inl 126, false), (4, .inr 41, .inl 126, false), (4, .inr 42, .inl 126, false), (4, .inr 43, .inl 126, true), (5, .inr 22, .inl 0, true), (5, .inr 23, .inl 0, true), (5, .inr 24, .inl 0, true), (5, .inr 25, .inl 0, true), (5, .inr 26, .inl 0, true), (5, .inr 27, .inl 0, false), (2, .inr 14, .inl 0, false), (2, .inr 15, .inl 0, false), (2, .inr 16, .inl 0, false), (2, .inr 17, .inl 0, false), (2, .inr 18, .inl 0, false), (2, .inr 19, .inl 0, false), (2, .inr 38, .inl 33, false), (2, .inr 39, .inl 33, false), (2, .inr 40, .inl 33, false), (2, .inr 41, .inl 33, false), (2, .inr 42, .inl 33, false), (2, .inr 43, .inl 33, false)] = true := by decide +kernel
set_option maxRecDepth 1000000 in
theorem q_p77 : z_caseP [(5, -1, 1, true), (6, -1, 1, true), (7, -1, 1, true), (8, -1, 1, true), (9, -1, 1, true), (10, -1, 1, true), (14, 0, 1, false), (15, 0, 1, false), (16, 0, 1, false), (17, 0, 1, false), (18, 0, 1, false), (19, 0, 1, false), (22, -1, 0, false), (23, -1, 0, false), (24, -1, 0, false), (25, -1, 0, false), (26, -1, 0, false), (27, 1, 1, false), (30, 1, 1, false), (31, 1, 1, false), (32, 1, 1, false), (33, 1, 1, false), (34, 1, 1, false), (35, 1, 1, false), (36, 1, 1, false), (37, 1, 1, false), (38, 33, 126, false), (39, 33, 126, false), (40, 33, 126, false), (41, 33, 126, false), (42, 33, 126, false), (43, 127, 255, false)] [(0, .inr 10, .inl 0, false), (0, .inr 30, .inl 0, false), (0, .inr 31, .inl 0, false), (0, .inr 32, .inl 0, false), (0, .inr 33, .inl 0, false), (0, .inr 34, .inl 0, false), (0, .inr 35, .inl 0, false), (0, .inr 36, .inl 0, false), (0, .inr 37, .inl 0, false), (0, .inr 5, .inl 0, false), (0, .inr 6, .inl 0, false), (0, .inr 7, .inl 0, false), (0, .inr 8, .inl 0, false), (0, .inr 9, .inl 0, false), (4, .inr 38, .inl 126, false), (4, .inr 39, .inl 126, false), (4, .inr 40, .inl 126, false), (4, .inr 41, .inl 126, false), (4, .inr 42, .inl 126, false), (4, .inr 43, .inl 126, true), (5, .inr 22, .inl 0, true), (5, .inr 23, .inl 0, true), (5, .inr 24, .inl 0, true), (5, .inr 25, .inl 0, true), (5, .inr 26, .inl 0, true), (5, .inr 27, .inl 0, false), (2, .inr 14, .inl 0, false), (2, .inr 15, .inl 0, false), (2, .inr 16, .inl 0, false), (2, .inr 17, .inl 0, false), (2, .inr 18, .inl 0, false), (2, .inr 19, .inl 0, false), (2, .inr 38, .inl 33, false), (2, .inr 39, .inl 33, false), (2, .inr 40, .inl 33, false), (2, .inr 41, .inl 33, false), (2, .inr 42, .inl 33, false), (2, .inr 43, .inl 33, false)] = true := by decide +kernel
set_option maxRecDepth 1000000 in
theorem q_p78 : z_caseP [(5, -1, 1, true), (6, -1, 1, true), (7, -1, 1, true), (8, -1, 1, true), (9, -1, 1, true), (10, -1, 1, true), (11, 0, 0, false), (14, 0, 1, false), (15, 0, 1, false), (16, 0, 1, false), (17, 0, 1, false), (18, 0, 1, false), (19, 0, 1, false), (22, -1, 0, false), (23, -1, 0, false), (24, -1, 0, false), (25, -1, 0, false), (26, -1, 0, false), (27, -1, 0, false), (30, 1, 1, false), (31, 1, 1, false), (32, 1, 1, false), (33, 1, 1, false), (34, 1, 1, false), (35, 1, 1, false), (36, 0, 0, false), (38, 33, 126, false), (39, 33, 126, false), (40, 33, 126, false), (41, 33, 126, false), (42, 33, 126, false), (43, 33, 126, false)] [(0, .inr 10, .inl 0, false), (0, .inr 11, .inl 0, true), (0, .inr 30, .inl 0, false), (0, .inr 31, .inl 0, false), (0, .inr 32, .inl 0, false), (0, .inr 33, .inl 0, false), (0, .inr 34, .inl 0, false), (0, .inr 35, .inl 0, false), (0, .inr 36, .inl 0, true), (0, .inr 5, .inl 0, false), (0, .inr 6, .inl 0, false), (0, .inr 7, .inl 0, false), (0, .inr 8, .inl 0, false), (0, .inr 9, .inl 0, false), (4, .inr 38, .inl 126, false), (4, .inr 39, .inl 126, false), (4, .inr 40, .inl 126, false), (4, .inr 41, .inl 126, false), (4, .inr 42, .inl 126, false), (4, .inr 43, .inl 126, false), (5, .inr 22, .inl 0, true), (5, .inr 23, .inl 0, true), (5, .inr 24, .inl 0, true), (5, .inr 25, .inl 0, true), (5, .inr 26, .inl 0, true), (5, .inr 27, .inl 0, true), (2, .inr 14, .inl 0, false), (2, .inr 15, .inl 0, false), (2, .inr 16, .inl 0, false), (2, .inr 17, .inl 0, false), (2, .inr 18, .inl 0, false), (2, .inr 19, .inl 0, false), (2, .inr 38, .inl 33, false), (2, .inr 39, .inl 33, false), (2, .inr 40, .inl 33, false), (2, .inr 41, .inl 33, false), (2, .inr 42, .inl 33, false), (2, .inr 43, .inl 33, false)] = true := by decide +kernel
set_option maxRecDepth 1000000 in
theorem q_p79 : z_caseP [(5, -1, 1, true), (6, -1, 1, true), (7, -1, 1, true), (8, -1, 1, true), (9, -1, 1, true), (10, -1, 1, true), (11, -1, 1, true), (14, 0, 1, false), (15, 0, 1, false), (16, 0, 1, false), (17, 0, 1, false), (18, 0, 1, false), (19, 0, 1, false), (20, -1, -1, false), (22, -1, 0, false), (23, -1, 0, false), (24, -1, 0, false), (25, -1, 0, false), (26, -1, 0, false), (27, -1, 0, false), (30, 1, 1, false), (31, 1, 1, false), (32, 1, 1, false), (33, 1, 1, false), (34, 1, 1, false), (35, 1, 1, false), (36, 0, 0, false), (38, 33, 126, false), (39, 33, 126, false), (40, 33, 126, false), (41, 33, 126, false), (42, 33, 126, false), (43, 33, 126, false)] [(0, .inr 10, .inl 0, false), (0, .inr 11, .inl 0, false), (0, .inr 30, .inl 0, false), (0, .inr 31, .inl 0, false), (0, .inr 32, .inl 0, false), (0, .inr 33, .inl 0, false), (0, .inr 34, .inl 0, false), (0, .inr 35, .inl 0, false), (0, .inr 36, .inl 0, true), (0, .inr 5, .inl 0, false), (0, .inr 6, .inl 0, false), (0, .inr 7, .inl 0, false), (0, .inr 8, .inl 0, false), (0, .inr 9, .inl 0, false), (4, .inr 38, .inl 126, false), (4, .inr 39, .inl 126, false), (4, .inr 40, .inl 126, false), (4, .inr 41, .inl 126, false), (4, .inr 42, .inl 126, false), (4, .inr 43, .inl 126, false), (5, .inr 22, .inl 0, true), (5, .inr 23, .inl 0, true), (5, .inr 24, .inl 0, true), (5, .inr 25, .inl 0, true), (5, .inr 26, .inl 0, true), (5, .inr 27, .inl 0, true), (2, .inr 14, .inl 0, false), (2, .inr 15, .inl 0, false), (2, .inr 16, .inl 0, false), (2, .inr 17, .inl 0, false), (2, .inr 18, .inl 0, false), (2, .inr 19, .inl 0, false), (2, .inr 20, .inl 0, true), (2, .inr 38, .inl 33, false), (2, .inr 39, .inl 33, false), (2, .inr 40, .inl 33, false), (2, .inr 41, .inl 33, false), (2, .inr 42, .inl 33, false), (2, .inr 43, .inl 33, false)] = true := by decide +kernel
set_option maxRecDepth 1000000 in
theorem q_p80 : z_caseP [(5, -1, 1, true), (6, -1, 1, true), (7, -1, 1, true), (8, -1, 1, true), (9, -1, 1, true), (10, -1, 1, true), (11, -1, 1, true), (14, 0, 1, false), (15, 0, 1, false), (16, 0, 1, false), (17, 0, 1, false), (18, 0, 1, false), (19, 0, 1, false), (20, -1, -1, false), (22, -1, 0, false), (23, -1, 0, false), (24, -1, 0, false), (25, -1, 0, false), (26, -1, 0, false), (27, -1, 0, false), (30, 1, 1, false), (31, 1, 1, false), (32, 1, 1, false), (33, 1, 1, false), (34, 1, 1, false), (35, 1, 1, false), (36, 1, 1, false), (37, 0, 0, false), (38, 33, 126, false), (39, 33, 126, false), (40, 33, 126, false), (41, 33, 126, false), (42, 33, 126, false), (43, 33, 126, false), (44, 1, 32, false)] [(0, .inr 10, .inl 0, false), (0, .inr 11, .inl 0, false), (0, .inr 30, .inl 0, false), (0, .inr 31, .inl 0, false), (0, .inr 32, .inl 0, false), (0, .inr 33, .inl 0, false), (0, .inr 34, .inl 0, false), (0, .inr 35, .inl 0, false), (0, .inr 36, .inl 0, false), (0, .inr 37, .inl 0, true), (0, .inr 5, .inl 0, false), (0, .inr 6, .inl 0, false), (0, .inr 7, .inl 0, false), (0, .inr 8, .inl 0, false), (0, .inr 9, .inl 0, false), (4, .inr 38, .inl 126, false), (4, .inr 39, .inl 126, false), (4, .inr 40, .inl 126, false), (4, .inr 41, .inl 126, false), (4, .inr 42, .inl 126, false), (4, .inr 43, .inl 126, false), (5, .inr 22, .inl 0, true), (5, .inr 23, .inl 0, true), (5, .inr 24, .inl 0, true), (5, .inr 25, .inl 0, true), (5, .inr 26, .inl 0, true), (5, .inr 27, .inl 0, true), (2, .inr 14, .inl 0, false), (2, .inr 15, .inl 0, false), (2, .inr 16, .inl 0, false), (2, .inr 17, .inl 0, false), (2, .inr 18, .inl 0, false), (2, .inr 19, .inl 0, false), (2, .inr 20, .inl 0, true), (2, .inr 38, .inl 33, false), (2, .inr 39, .inl 33, false), (2, .inr 40, .inl 33, false), (2, .inr 41, .inl 33, false), (2, .inr 42, .inl 33, false), (2, .inr 43, .inl 33, false), (2, .inr 44, .inl 33, true)] = true := by decide +kernel
set_option maxRecDepth 1000000 in
theorem q_p81 : z_caseP [(5, -1, 1, true), (6, -1, 1, true), (7, -1, 1, true), (8, -1, 1, true), (9, -1, 1, true), (10, -1, 1, true), (11, -1, 1, true), (14, 0, 1, false), (15, 0, 1, false), (16, 0, 1, false), (17, 0, 1, false), (18, 0, 1, false), (19, 0, 1, false), (20, -1, -1, false), (22, -1, 0, false), (23, -1, 0, false), (24, -1, 0, false), (25, -1, 0, false), (26, -1, 0, false), (27, -1, 0, false), (30, 1, 1, false), (31, 1, 1, false), (32, 1, 1, false), (33, 1, 1, false), (34, 1, 1, false), (35, 1, 1, false), (36, 1, 1, false), (37, 1, 1, false), (38, 33, 126, false), (39, 33, 126, false), (40, 33, 126, false), (41, 33, 126, false), (42, 33, 126, false), (43, 33, 126, false), (44, 1, 32, false)] [(0, .inr 10, .inl 0, false), (0, .inr 11, .inl 0, false), (0, .inr 30, .inl 0, false), (0, .inr 31, .inl 0, false), (0, .inr 32, .inl 0, false), (0, .inr 33, .inl 0, false), (0, .inr 34, .inl 0, false), (0, .inr 35, .inl 0, false), (0, .inr 36, .inl 0, false), (0, .inr 37, .inl 0, false), (0, .inr 5, .inl 0, false), (0, .inr 6, .inl 0, false), (0, .inr 7, .inl 0, false), (0, .inr 8, .inl 0, false), (0, .inr 9, .inl 0, false), (4, .inr 38, .inl 126, false), (4, .inr 39, .inl 126, false), (4, .inr 40, .inl 126, false), (4, .inr 41, .inl 126, false), (4, .inr 42, .inl 126, false), (4, .inr 43, .inl 126, false), (5, .inr 22, .inl 0, true), (5, .inr 23, .inl 0, true), (5, .inr 24, .inl 0, true), (5, .inr 25, .inl 0, true), (5, .inr 26, .inl 0, true), (5, .inr 27, .inl 0, true), (2, .inr 14, .inl 0, false), (2, .inr 15, .inl 0, false), (2, .inr 16, .inl 0, false), (2, .inr 17, .inl 0, false), (2, .inr 18, .inl 0, false), (2, .inr 19, .inl 0, false), (2, .inr 20, .inl 0, true), (2, .inr 38, .inl 33, false), (2, .inr 39, .inl 33, false), (2, .inr 40, .inl 33, false), (2, .inr 41, .inl 33, false), (2, .inr 42, .inl 33, false), (2, .inr 43, .inl 33, false), (2, .inr 44, .inl 33, true)] = true := by decide +kernel
set_option maxRecDepth 1000000 in
theorem q_p82 : z_caseP [(5, -1, 1, true), (6, -1, 1, true), (7, -1, 1, true), (8, -1, 1, true), (9, -1, 1, true), (10, -1, 1, true), (11, -1, 1, true), (14, 0, 1, false), (15, 0, 1, false), (16, 0, 1, false), (17, 0, 1, false), (18, 0, 1, false), (19, 0, 1, false), (20, 0, 1, false), (22, -1, 0, false), (23, -1, 0, false), (24, -1, 0, false), (25, -1, 0, false), (26, -1, 0, false), (27, -1, 0, false), (28, 1, 1, false), (30, 1, 1, false), (31, 1, 1, false), (32, 1, 1, false), (33, 1, 1, false), (34, 1, 1, false), (35, 1, 1, false), (36, 1, 1, false), (37, 0, 0, false), (38, 33, 126, false), (39, 33, 126, false), (40, 33, 126, false), (41, 33, 126, false), (42, 33, 126, false), (43, 33, 126, false), (44, 127, 255, false)] [(0, .inr 10, .inl 0, false), (0, .inr 11, .inl 0, false), (0, .inr 30, .inl 0, false), (0, .inr 31, .inl 0, false), (0, .inr 32, .inl 0, false), (0, .inr 33, .inl 0, false), (0, .inr 34, .inl 0, false), (0, .inr 35, .inl 0, false), (0, .inr 36, .inl 0, false), (0, .inr 37, .inl 0, true), (0, .inr 5, .inl 0, false), (0, .inr 6, .inl 0, false), (0, .inr 7, .inl 0, false), (0, .inr 8, .inl 0, false), (0, .inr 9, .inl 0, false), (4, .inr 38, .inl 126, false), (4, .inr 39, .inl 126, false), (4, .inr 40, .inl 126, false), (4, .inr 41, .inl 126, false), (4, .inr 42, .inl 126, false), (4, .inr 43, .inl 126, false), (4, .inr 44, .inl 126, true), (5, .inr 22, .inl 0, true), (5, .inr 23, .inl 0, true), (5, .inr 24, .inl 0, true), (5, .inr 25, .inl 0, true), (5, .inr 26, .inl 0, true), (5, .inr 27, .inl 0, true), (5, .inr 28, .inl 0, false), (2, .inr 14, .inl 0, false), (2, .inr 15, .inl 0, false), (2, .inr 16, .inl 0, false), (2, .inr 17, .inl 0, false), (2, .inr 18, .inl 0, false), (2, .inr 19, .inl 0, false), (2, .inr 20, .inl 0, false), (2, .inr 38, .inl 33, false), (2, .inr 39, .inl 33, false), (2, .inr 40, .inl 33, false), (2, .inr 41, .inl 33, false), (2, .inr 42, .inl 33, false), (2, .inr 43, .inl 33, false), (2, .inr 44, .inl 33, false)] = true := by decide +kernel
set_option maxRecDepth 1000000 in
theorem q_p83 : z_caseP [(5, -1, 1, true), (6, -1, 1, true), (7, -1, 1, true), (8, -1, 1, true), (9, -1, 1, true), (10, -1, 1, true), (11, -1, 1, true), (14, 0, 1, false), (15, 0, 1, false), (16, 0, 1, false), (17, 0, 1, false), (18, 0, 1, false), (19, 0, 1, false), (20, 0, 1, false), (22, -1, 0, false), (23, -1, 0, false), (24, -1, 0, false), (25, -1, 0, false), (26, -1, 0, false), (27, -1, 0, false), (28, 1, 1, false), (30, 1, 1, false), (31, 1, 1, false), (32, 1, 1, false), (33, 1, 1, false), (34, 1, 1, false), (35, 1, 1, false), (36, 1, 1, false), (37, 1, 1, false), (38, 33, 126, false), (39, 33, 126, false), (40, 33, 126, false), (41, 33, 126, false), (42, 33, 126, false), (43, 33, 126, false), (44, 127, 255, false)] [(0, .inr 10, .inl 0, false), (0, .inr 11, .inl 0, false), (0, .inr 30, .inl 0, false), (0, .inr 31, .inl 0, false), (0, .inr 32, .inl 0, false), (0, .inr 33, .inl 0, false), (0, .inr 34, .inl 0, false), (0, .inr 35, .inl 0, false), (0, .inr 36, .inl 0, false), (0, .inr 37, .inl 0, false), (0, .inr 5, .inl 0, false), (0, .inr 6, .inl 0, false), (0, .inr 7, .inl 0, false), (0, .inr 8, .inl 0, false), (0, .inr 9, .inl 0, false), (4, .inr 38, .inl 126, false), (4, .inr 39, .inl 126, false), (4, .inr 40, .inl 126, false), (4, .inr 41, .inl 126, false), (4, .inr 42, .inl 126, false), (4, .inr 43, .inl 126, false), (4, .inr 44, .inl 126, true), (5, .inr 22, .inl 0, true), (5, .inr 23, .inl 0, true), (5, .inr 24, .inl 0, true), (5, .inr 25, .inl 0, true), (5, .inr 26, .inl 0, true), (5, .inr 27, .inl 0, true), (5, .inr 28, .inl 0, false), (2, .inr 14, .inl 0, false), (2, .inr 15, .inl 0, false), (2, .inr 16, .inl 0, false), (2, .inr 17, .inl 0, false), (2, .inr 18, .inl 0, false), (2, .inr 19, .inl 0, false), (2, .inr 20, .inl 0, false), (2, .inr 38, .inl 33, false), (2, .inr 39, .inl 33, false), (2, .inr 40, .inl 33, false), (2, .inr 41, .inl 33, false), (2, .inr 42, .inl 33, false), (2, .inr 43, .inl 33, false), (2, .inr 44, .inl 33, false)] = true := by decide +kernel
set_option maxRecDepth 1000000 in
theorem q_p84 : z_caseP [(5, -1, 1, true), (6, -1, 1, true), (7, -1, 1, true), (8, -1, 1, true), (9, -1, 1, true), (10, -1, 1, true), (11, -1, 1, true), (12, 0, 0, false), (14, 0, 1, false), (15, 0, 1, false), (16, 0, 1, false), (17, 0, 1, false), (18, 0, 1, false), (19, 0, 1, false), (20, 0, 1, false), (22, -1, 0, false), (23, -1, 0, false), (24, -1, 0, false), (25, -1, 0, false), (26, -1, 0, false), (27, -1, 0, false), (28, -1, 0, false), (30, 1, 1, false), (31, 1, 1, false), (32, 1, 1, false), (33, 1, 1, false), (34, 1, 1, false), (35, 1, 1, false), (36, 1, 1, false), (37, 0, 0, false), (38, 33, 126, false), (39, 33, 126, false), (40, 33, 126, false), (41, 33, 126, false), (42, 33, 126, false), (43, 33, 126, false), (44, 33, 126, false)] [(0, .inr 10, .inl 0, false), (0, .inr 11, .inl 0, false), (0, .inr 12, .inl 0, true), (0, .inr 30, .inl 0, false), (0, .inr 31, .inl 0, false), (0, .inr 32, .inl 0, false), (0, .inr 33, .inl 0, false), (0, .inr 34, .inl 0, false), (0, .inr 35, .inl 0, false), (0, .inr 36, .inl 0, false), (0, .inr 37, .inl 0, true), (0, .inr 5, .inl 0, false), (0, .inr 6, .inl 0, false), (0, .inr 7, .inl 0, false), (0, .inr 8, .inl 0, false), (0, .inr 9, .inl 0, false), (4, .inr 38, .inl 126, false), (4, .inr 39, .inl 126, false), (4, .inr 40, .inl 126, false), (4, .inr 41, .inl 126, false), (4, .inr 42, .inl 126, false), (4, .inr 43, .inl 126, false), (4, .inr 44, .inl 126, false), (5, .inr 22, .inl 0, true), (5, .inr 23, .inl 0, true), (5, .inr 24, .inl 0, true), (5, .inr 25, .inl 0, true), (5, .inr 26, .inl 0, true), (5, .inr 27, .inl 0, true), (5, .inr 28, .inl 0, true), (2, .inr 14, .inl 0, false), (2, .inr 15, .inl 0, false), (2, .inr 16, .inl 0, false), (2, .inr 17, .inl 0, false), (2, .inr 18, .inl 0, false), (2, .inr 19, .inl 0, false), (2, .inr 20, .inl 0, false), (2, .inr 38, .inl 33, false), (2, .inr 39, .inl 33, false), (2, .inr 40, .inl 33, false), (2, .inr 41, .inl 33, false), (2, .inr 42, .inl 33, false), (2, .inr 43, .inl 33, false), (2, .inr 44, .inl 33, false)] = true := by decide +kernel
set_option maxRecDepth 1000000 in
theorem q_p85 : z_caseP [(5, -1, 1, true), (6, -1, 1, true), (7, -1, 1, true), (8, -1, 1, true), (9, -1, 1, true), (10, -1, 1, true), (11, -1, 1, true), (12, -1, 1, true), (14, 0, 1, false), (15, 0, 1, false), (16, 0, 1, false), (17, 0, 1, false), (18, 0, 1, false), (19, 0, 1, false), (20, 0, 1, false), (21, -1, -1, false), (22, -1, 0, false), (23, -1, 0, false), (24, -1, 0, false), (25, -1, 0, false), (26, -1, 0, false), (27, -1, 0, false), (28, -1, 0, false), (30, 1, 1, false), (31, 1, 1, false), (32, 1, 1, false), (33, 1, 1, false), (34, 1, 1, false), (35, 1, 1, false), (36, 1, 1, false), (37, 0, 0, false), (38, 33, 126, false), (39, 33, 126, false), (40, 33, 126, false), (41, 33, 126, false), (42, 33, 126, false), (43, 33, 126, false), (44, 33, 126, false)] [(0, .inr 10, .inl 0, false), (0, .inr 11, .inl 0, false), (0, .inr 12, .inl 0, false), (0, .inr 30, .inl 0, false), (0, .inr 31, .inl 0, false), (0, .inr 32, .inl 0, false), (0, .inr 33, .inl 0, false), (0, .inr 34, .inl 0, false), (0, .inr 35, .inl 0, false), (0, .inr 36, .inl 0, false), (0, .inr 37, .inl 0, true), (0, .inr 5, .inl 0, false), (0, .inr 6, .inl 0, false), (0, .inr 7, .inl 0, false), (0, .inr 8, .inl 0, false), (0, .inr 9, .inl 0, false), (4, .inr 38, .inl 126, false), (4, .inr 39, .inl 126, false), (4, .inr 40, .inl 126, false), (4, .inr 41, .inl 126, false), (4, .inr 42, .inl 126, false), (4, .inr 43, .inl 126, false), (4, .inr 44, .inl 126, false), (5, .inr 22, .inl 0, true), (5, .inr 23, .inl 0, true), (5, .inr 24, .inl 0, true), (5, .inr 25, .inl 0, true), (5, .inr 26, .inl 0, true), (5, .inr 27, .inl 0, true), (5, .inr 28, .inl 0, true), (2, .inr 14, .inl 0, false), (2, .inr 15, .inl 0, false), (2, .inr 16, .inl 0, false), (2, .inr 17, .inl 0, false), (2, .inr 18, .inl 0, false), (2, .inr 19, .inl 0, false), (2, .inr 20, .inl 0, false), (2, .inr 21, .inl 0, true), (2, .inr 38, .inl 33, false), (2, .inr 39, .inl 33, false), (2, .inr 40, .inl 33, false), (2, .inr 41, .inl 33, false), (2, .inr 42, .inl 33, false), (2, .inr 43, .inl 33, false), (2, .inr 44, .inl 33, false)] = true := by decide +kernel
set_option maxRecDepth 1000000 in
theorem q_p86 : z_caseP [(5, -1, 1, true), (6, -1, 1, true), (7, -1, 1, true), (8, -1, 1, true), (9, -1, 1, true), (10, -1, 1, true), (11, -1, 1, true), (12, -1, 1, true), (14, 0, 1, false), (15, 0, 1, false), (16, 0, 1, false), (17, 0, 1, false), (18, 0, 1, false), (19, 0, 1, false), (20, 0, 1, false), (21, -1, -1, false), (22, -1, 0, false), (23, -1, 0, false), (24, -1, 0, false), (25, -1, 0, false), (26, -1, 0, false), (27, -1, 0, false), (28, -1, 0, false), (30, 1, 1, false), (31, 1, 1, false), (32, 1, 1, false), (33, 1, 1, false), (34, 1, 1, false), (35, 1, 1, false), (36, 1, 1, false), (37, 1, 1, false), (38, 33, 126, false), (39, 33, 126, false), (40, 33, 126, false), (41, 33, 126, false), (42, 33, 126, false), (43, 33, 126, false), (44, 33, 126, false), (45, 1, 32, false)] [(0, .inr 10, .inl 0, false), (0, .inr 11, .inl 0, false), (0, .inr 12, .inl 0, false), (0, .inr 30, .inl 0, false), (0, .inr 31, .inl 0, false), (0, .inr 32, .inl 0, false), (0, .inr 33, .inl 0, false), (0, .inr 34, .inl 0, false), (0, .inr 35, .inl 0, false), (0, .inr 36, .inl 0, false), (0, .inr 37, .inl 0, false), (0, .inr 5, .inl 0, false), (0, .inr 6, .inl 0, false), (0, .inr 7, .inl 0, false), (0, .inr 8, .inl 0, false), (0, .inr 9, .inl 0, false), (4, .inr 38, .inl 126, false), (4, .inr 39, .inl 126, false), (4, .inr 40, .inl 126, false), (4, .inr 41, .inl 126, false), (4, .inr 42, .inl 126, false), (4, .inr 43, .inl 126, false), (4, .inr 44, .inl 126, false), (5, .inr 22, .inl 0, true), (5, .inr 23, .inl 0, true), (5, .inr 24, .inl 0, true), (5, .inr 25, .inl 0, true), (5, .inr 26, .inl 0, true), (5, .inr 27, .inl 0, true), (5, .inr 28, .inl 0, true), (2, .inr 14, .inl 0, false), (2, .inr 15, .inl 0, false), (2, .inr 16, .inl 0, false), (2, .inr 17, .inl 0, false), (2, .inr 18, .inl 0, false), (2, .inr 19, .inl 0, false), (2, .inr 20, .inl 0, false), (2, .inr 21, .inl 0, true), (2, .inr 38, .inl 33, false), (2, .inr 39, .inl 33, false), (2, .inr 40, .inl 33, false), (2, .inr 41, .inl 33, false), (2, .inr 42, .inl 33, false), (2, .inr 43, .inl 33, false), (2, .inr 44, .inl 33, false), (2, .inr 45, .inl 33, true)] = true := by decide +kernel
set_option maxRecDepth 1000000 in
theorem q_p87 : z_caseP [(5, -1, 1, true), (6, -1, 1, true), (7, -1, 1, true), (8, -1, 1, true), (9, -1, 1, true), (10, -1, 1, true), (11, -1, 1, true), (12, -1, 1, true), (14, 0, 1, false), (15, 0, 1, false), (16, 0, 1, false), (17, 0, 1, false), (18, 0, 1, false), (19, 0, 1, false), (20, 0, 1, false), (21, 0, 1, false), (22, -1, 0, false), (23, -1, 0, false), (24, -1, 0, false), (25, -1, 0, false), (26, -1, 0, false), (27, -1, 0, false), (28, -1, 0, false), (29, 1, 1, false), (30, 1, 1, false), (31, 1, 1, false), (32, 1, 1, false), (33, 1, 1, false), (34, 1, 1, false), (35, 1, 1, false), (36, 1, 1, false), (37, 1, 1, false), (38, 33, 126, false), (39, 33, 126, false), (40, 33, 126, false), (41, 33, 126, false), (42, 33, 126, false), (43, 33, 126, false), (44, 33, 126, false), (45, 127, 255, false)] [(0, .inr 10, .inl 0, false), (0, .inr 11, .inl 0, false), (0, .inr 12, .inl 0, false), (0, .inr 30, .inl 0, false), (0, .inr 31, .inl 0, false), (0, .inr 32, .inl 0, false), (0, .inr 33, .inl 0, false), (0, .inr 34, .inl 0, false), (0, .inr 35, .inl 0, false), (0, .inr 36, .inl 0, false), (0, .inr 37, .inl 0, false), (0, .inr 5, .inl 0, false), (0, .inr 6, .inl 0, false), (0, .inr 7, .inl 0, false), (0, .inr 8, .inl 0, false), (0, .inr 9, .inl 0, false), (4, .inr 38, .inl 126, false), (4, .inr 39, .inl 126, false), (4, .inr 40, .inl 126, false), (4, .inr 41, .inl 126, false), (4, .inr 42, .inl 126, false), (4, .inr 43, .inl 126, false), (4, .inr 44, .inl 126, false), (4, .inr 45, .inl 126, true), (5, .inr 22, .inl 0, true), (5, .inr 23, .inl 0, true), (5, .inr 24, .inl 0, true), (5, .inr 25, .inl 0, true), (5, .inr 26, .inl 0, true), (5, .inr 27, .inl 0, true), (5, .inr 28, .inl 0, true), (5, .inr 29, .inl 0, false), (2, .inr 14, .inl 0, false), (2, .inr 15, .inl 0, false), (2, .inr 16, .inl 0, false), (2, .inr 17, .inl 0, false), (2, .inr 18, .inl 0, false), (2, .inr 19, .inl 0, false), (2, .inr 20, .inl 0, false), (2, .inr 21, .inl 0, false), (2, .inr 38, .inl 33, false), (2, .inr 39, .inl 33, false), (2, .inr 40, .inl 33, false), (2, .inr 41, .inl 33, false), (2, .inr 42, .inl 33, false), (2, .inr 43, .inl 33, false), (2, .inr 44, .inl 33, false), (2, .inr 45, .inl 33, false)] = true := by decide +kernel
set_option maxRecDepth 1000000 in
theorem q_p88 : z_caseP [(5, -1, 1, true), (6, -1, 1, true), (7, -1, 1, true), (8, -1, 1, true), (9, -1, 1, true), (10, -1, 1, true), (11, -1, 1, true), (12, -1, 1, true), (13, 0, 0, false), (14, 0, 1, false), (15, 0, 1, false), (16, 0, 1, false), (17, 0, 1, false), (18, 0, 1, false), (19, 0, 1, false), (20, 0, 1, false), (21, 0, 1, false), (22, -1, 0, false), (23, -1, 0, false), (24, -1, 0, false), (25, -1, 0, false), (26, -1, 0, false), (27, -1, 0, false), (28, -1, 0, false), (29, -1, 0, false), (30, 1, 1, false), (31, 1, 1, false), (32, 1, 1, false), (33, 1, 1, false), (34, 1, 1, false), (35, 1, 1, false), (36, 1, 1, false), (37, 1, 1, false), (38, 33, 126, false), (39, 33, 126, false), (40, 33, 126, false), (41, 33, 126, false), (42, 33, 126, false), (43, 33, 126, false), (44, 33, 126, false), (45, 33, 126, false)] [(0, .inr 10, .inl 0, false), (0, .inr 11, .inl 0, false), (0, .inr 12, .inl 0, false), (0, .inr 13, .inl 0, true), (0, .inr 30, .inl 0, false), (0, .inr 31, .inl 0, false), (0, .inr 32, .inl 0, false), (0, .inr 33, .inl 0, false), (0, .inr 34, .inl 0, false), (0, .inr 35, .inl 0, false), (0, .inr 36, .inl 0, false), (0, .inr 37, .inl 0, false), (0, .inr 5, .inl 0, false), (0, .inr 6, .inl 0, false), (0, .inr 7, .inl 0, false), (0, .inr 8, .inl 0, false), (0, .inr 9, .inl 0, false), (4, .inr 38, .inl 126, false), (4, .inr 39, .inl 126, false), (4, .inr 40, .inl 126, false), (4, .inr 41, .inl 126, false), (4, .inr 42, .inl 126, false), (4, .inr 43, .inl 126, false), (4, .inr 44, .inl 126, false), (4, .inr 45, .inl 126, false), (5, .inr 22, .inl 0, true), (5, .inr 23, .inl 0, true), (5, .inr 24, .inl 0, true), (5, .inr 25, .inl 0, true), (5, .inr 26, .inl 0, true), (5, .inr 27, .inl 0, true), (5, .inr 28, .inl 0, true), (5, .inr 29, .inl 0, true), (2, .inr 14, .inl 0, false), (2, .inr 15, .inl 0, false), (2, .inr 16, .inl 0, false), (2, .inr 17, .inl 0, false), (2, .inr 18, .inl 0, false), (2, .inr 19, .inl 0, false), (2, .inr 20, .inl 0, false), (2, .inr 21, .inl 0, false), (2, .inr 38, .inl 33, false), (2, .inr 39, .inl 33, false), (2, .inr 40, .inl 33, false), (2, .inr 41, .inl 33, false), (2, .inr 42, .inl 33, false), (2, .inr 43, .inl 33, false), (2, .inr 44, .inl 33, false), (2, .inr 45, .inl 33, false)] = true := by decide +kernel
end
section
set_option maxRecDepth 100000 in
set_option maxHeartbeats 4000000 in
theorem w_19 {xs : Nat → Int32} (hk : xs 0 &&& 31 = nI 19) : z_Won xs 5 := by
  by_cases r0 : p_R xs 0 = 0
  · have n0 := p_N0 r0
    exact z_useP q_p0 hk (y_bdp (p_v0 (k := 0) r0) (y_bdp (p_z0 (k := 0) (by omega)) (trivial)))
  · rcases p_split xs 0 with n0 | n0 | n0 | n0
    · exact z_useP q_p1 hk (y_bdp (p_v1 (k := 0) r0) (y_bdp (p_a0 (k := 0) (by omega)) (y_bdp (p_z0 (k := 0) (by omega)) (trivial))))
    · by_cases n1 : p_N xs 1 = 0
      · exact z_useP q_p2 hk (y_bdp (p_v1 (k := 0) r0) (y_bdp (p_a0 (k := 0) (by omega)) (y_bdp (p_z1 (k := 0) (by omega)) (y_bdp (p_z0 (k := 1) (by omega)) (y_bdp (p_n (k := 0) (lo := 1) (hi := 32) (by omega)) (trivial))))))
      · by_cases n2 : p_N xs 2 = 0
        · exact z_useP q_p3 hk (y_bdp (p_v1 (k := 0) r0) (y_bdp (p_a0 (k := 0) (by omega)) (y_bdp (p_z1 (k := 0) (by omega)) (y_bdp (p_z1 (k := 1) (by omega)) (y_bdp (p_z0 (k := 2) (by omega)) (y_bdp (p_n (k := 0) (lo := 1) (hi := 32) (by omega)) (trivial)))))))
        · by_cases n3 : p_N xs 3 = 0
          · exact z_useP q_p4 hk (y_bdp (p_v1 (k := 0) r0) (y_bdp (p_a0 (k := 0) (by omega)) (y_bdp (p_z1 (k := 0) (by omega)) (y_bdp (p_z1 (k := 1) (by omega)) (y_bdp (p_z1 (k := 2) (by omega)) (y_bdp (p_z0 (k := 3) (by omega)) (y_bdp (p_n (k := 0) (lo := 1) (hi := 32) (by omega)) (trivial))))))))
          · by_cases n4 : p_N xs 4 = 0
            · exact z_useP q_p5 hk (y_bdp (p_v1 (k := 0) r0) (y_bdp (p_a0 (k := 0) (by omega)) (y_bdp (p_z1 (k := 0) (by omega)) (y_bdp (p_z1 (k := 1) (by omega)) (y_bdp (p_z1 (k := 2) (by omega)) (y_bdp (p_z1 (k := 3) (by omega)) (y_bdp (p_z0 (k := 4) (by omega)) (y_bdp (p_n (k := 0) (lo := 1) (hi := 32) (by omega)) (trivial)))))))))
            · by_cases n5 : p_N xs 5 = 0
              · exact z_useP q_p6 hk (y_bdp (p_v1 (k := 0) r0) (y_bdp (p_a0 (k := 0) (by omega)) (y_bdp (p_z1 (k := 0) (by omega)) (y_bdp (p_z1 (k := 1) (by omega)) (y_bdp (p_z1 (k := 2) (by omega)) (y_bdp (p_z1 (k := 3) (by omega)) (y_bdp (p_z1 (k := 4) (by omega)) (y_bdp (p_z0 (k := 5) (by omega)) (y_bdp (p_n (k := 0) (lo := 1) (hi := 32) (by omega)) (trivial))))))))))
              · by_cases n6 : p_N xs 6 = 0
                · exact z_useP q_p7 hk (y_bdp (p_v1 (k := 0) r0) (y_bdp (p_a0 (k := 0) (by omega)) (y_bdp (p_z1 (k := 0) (by omega)) (y_bdp (p_z1 (k := 1) (by omega)) (y_bdp (p_z1 (k := 2) (by omega)) (y_bdp (p_z1 (k := 3) (by omega)) (y_bdp (p_z1 (k := 4) (by omega)) (y_bdp (p_z1 (k := 5) (by omega)) (y_bdp (p_z0 (k := 6) (by omega)) (y_bdp (p_n (k := 0) (lo := 1) (hi := 32) (by omega)) (trivial)))))))))))
                · by_cases n7 : p_N xs 7 = 0
                  · exact z_useP q_p8 hk (y_bdp (p_v1 (k := 0) r0) (y_bdp (p_a0 (k := 0) (by omega)) (y_bdp (p_z1 (k := 0) (by omega)) (y_bdp (p_z1 (k := 1) (by omega)) (y_bdp (p_z1 (k := 2) (by omega)) (y_bdp (p_z1 (k := 3) (by omega)) (y_bdp (p_z1 (k := 4) (by omega)) (y_bdp (p_z1 (k := 5) (by omega)) (y_bdp (p_z1 (k := 6) (by omega)) (y_bdp (p_z0 (k := 7) (by omega)) (y_bdp (p_n (k := 0) (lo := 1) (hi := 32) (by omega)) (trivial))))))))))))
                  · exact z_useP q_p9 hk (y_bdp (p_v1 (k := 0) r0) (y_bdp (p_a0 (k := 0) (by omega)) (y_bdp (p_z1 (k := 0) (by omega)) (y_bdp (p_z1 (k := 1) (by omega)) (y_bdp (p_z1 (k := 2) (by omega)) (y_bdp (p_z1 (k := 3) (by omega)) (y_bdp (p_z1 (k := 4) (by omega)) (y_bdp (p_z1 (k := 5) (by omega)) (y_bdp (p_z1 (k := 6) (by omega)) (y_bdp (p_z1 (k := 7) (by omega)) (y_bdp (p_n (k := 0) (lo := 1) (hi := 32) (by omega)) (trivial))))))))))))
    · by_cases n1 : p_N xs 1 = 0
      · exact z_useP q_p10 hk (y_bdp (p_v1 (k := 0) r0) (y_bdp (p_a1 (k := 0) (by omega)) (y_bdp (p_b1 (k := 0) (by omega)) (y_bdp (p_z1 (k := 0) (by omega)) (y_bdp (p_z0 (k := 1) (by omega)) (y_bdp (p_n (k := 0) (lo := 127) (hi := 255) (by omega)) (trivial)))))))
      · by_cases n2 : p_N xs 2 = 0
        · exact z_useP q_p11 hk (y_bdp (p_v1 (k := 0) r0) (y_bdp (p_a1 (k := 0) (by omega)) (y_bdp (p_b1 (k := 0) (by omega)) (y_bdp (p_z1 (k := 0) (by omega)) (y_bdp (p_z1 (k := 1) (by omega)) (y_bdp (p_z0 (k := 2) (by omega)) (y_bdp (p_n (k := 0) (lo := 127) (hi := 255) (by omega)) (trivial))))))))
        · by_cases n3 : p_N xs 3 = 0
          · exact z_useP q_p12 hk (y_bdp (p_v1 (k := 0) r0) (y_bdp (p_a1 (k := 0) (by omega)) (y_bdp (p_b1 (k := 0) (by omega)) (y_bdp (p_z1 (k := 0) (by omega)) (y_bdp (p_z1 (k := 1) (by omega)) (y_bdp (p_z1 (k := 2) (by omega)) (y_bdp (p_z0 (k := 3) (by omega)) (y_bdp (p_n (k := 0) (lo := 127) (hi := 255) (by omega)) (trivial)))))))))
          · by_cases n4 : p_N xs 4 = 0
            · exact z_useP q_p13 hk (y_bdp (p_v1 (k := 0) r0) (y_bdp (p_a1 (k := 0) (by omega)) (y_bdp (p_b1 (k := 0) (by omega)) (y_bdp (p_z1 (k := 0) (by omega)) (y_bdp (p_z1 (k := 1) (by omega)) (y_bdp (p_z1 (k := 2) (by omega)) (y_bdp (p_z1 (k := 3) (by omega)) (y_bdp (p_z0 (k := 4) (by omega)) (y_bdp (p_n (k := 0) (lo := 127) (hi := 255) (by omega)) (trivial))))))))))
            · by_cases n5 : p_N xs 5 = 0
              · exact z_useP q_p14 hk (y_bdp (p_v1 (k := 0) r0) (y_bdp (p_a1 (k := 0) (by omega)) (y_bdp (p_b1 (k := 0) (by omega)) (y_bdp (p_z1 (k := 0) (by omega)) (y_bdp (p_z1 (k := 1) (by omega)) (y_bdp (p_z1 (k := 2) (by omega)) (y_bdp (p_z1 (k := 3) (by omega)) (y_bdp (p_z1 (k := 4) (by omega)) (y_bdp (p_z0 (k := 5) (by omega)) (y_bdp (p_n (k := 0) (lo := 127) (hi := 255) (by omega)) (trivial)))))))))))
              · by_cases n6 : p_N xs 6 = 0
                · exact z_useP q_p15 hk (y_bdp (p_v1 (k := 0) r0) (y_bdp (p_a1 (k := 0) (by omega)) (y_bdp (p_b1 (k := 0) (by omega)) (y_bdp (p_z1 (k := 0) (by omega)) (y_bdp (p_z1 (k := 1) (by omega)) (y_bdp (p_z1 (k := 2) (by omega)) (y_bdp (p_z1 (k := 3) (by omega)) (y_bdp (p_z1 (k := 4) (by omega)) (y_bdp (p_z1 (k := 5) (by omega)) (y_bdp (p_z0 (k := 6) (by omega)) (y_bdp (p_n (k := 0) (lo := 127) (hi := 255) (by omega)) (trivial))))))))))))
                · by_cases n7 : p_N xs 7 = 0
                  · exact z_useP q_p16 hk (y_bdp (p_v1 (k := 0) r0) (y_bdp (p_a1 (k := 0) (by omega)) (y_bdp (p_b1 (k := 0) (by omega)) (y_bdp (p_z1 (k := 0) (by omega)) (y_bdp (p_z1 (k := 1) (by omega)) (y_bdp (p_z1 (k := 2) (by omega)) (y_bdp (p_z1 (k := 3) (by omega)) (y_bdp (p_z1 (k := 4) (by omega)) (y_bdp (p_z1 (k := 5) (by omega)) (y_bdp (p_z1 (k := 6) (by omega)) (y_bdp (p_z0 (k := 7) (by omega)) (y_bdp (p_n (k := 0) (lo := 127) (hi := 255) (by omega)) (trivial)))))))))))))
                  · exact z_useP q_p17 hk (y_bdp (p_v1 (k := 0) r0) (y_bdp (p_a1 (k := 0) (by omega)) (y_bdp (p_b1 (k := 0) (by omega)) (y_bdp (p_z1 (k := 0) (by omega)) (y_bdp (p_z1 (k := 1) (by omega)) (y_bdp (p_z1 (k := 2) (by omega)) (y_bdp (p_z1 (k := 3) (by omega)) (y_bdp (p_z1 (k := 4) (by omega)) (y_bdp (p_z1 (k := 5) (by omega)) (y_bdp (p_z1 (k := 6) (by omega)) (y_bdp (p_z1 (k := 7) (by omega)) (y_bdp (p_n (k := 0) (lo := 127) (hi := 255) (by omega)) (trivial)))))))))))))
    · by_cases r1 : p_R xs 1 = 0
      · have n1 := p_N0 r1
        exact z_useP q_p18 hk (y_bdp (p_v1 (k := 0) r0) (y_bdp (p_v0 (k := 1) r1) (y_bdp (p_a1 (k := 0) (by omega)) (y_bdp (p_b0 (k := 0) (by omega)) (y_bdp (p_z1 (k := 0) (by omega)) (y_bdp (p_z0 (k := 1) (by omega)) (y_bdp (p_n (k := 0) (lo := 33) (hi := 126) (by omega)) (trivial))))))))
      · rcases p_split xs 1 with n1 | n1 | n1 | n1
        · exact z_useP q_p19 hk (y_bdp (p_v1 (k := 0) r0) (y_bdp (p_v1 (k := 1) r1) (y_bdp (p_a1 (k := 0) (by omega)) (y_bdp (p_a0 (k := 1) (by omega)) (y_bdp (p_b0 (k := 0) (by omega)) (y_bdp (p_z1 (k := 0) (by omega)) (y_bdp (p_z0 (k := 1) (by omega)) (y_bdp (p_n (k := 0) (lo := 33) (hi := 126) (by omega)) (trivial)))))))))
        · by_cases n2 : p_N xs 2 = 0
          · exact z_useP q_p20 hk (y_bdp (p_v1 (k := 0) r0) (y_bdp (p_v1 (k := 1) r1) (y_bdp (p_a1 (k := 0) (by omega)) (y_bdp (p_a0 (k := 1) (by omega)) (y_bdp (p_b0 (k := 0) (by omega)) (y_bdp (p_z1 (k := 0) (by omega)) (y_bdp (p_z1 (k := 1) (by omega)) (y_bdp (p_z0 (k := 2) (by omega)) (y_bdp (p_n (k := 0) (lo := 33) (hi := 126) (by omega)) (y_bdp (p_n (k := 1) (lo := 1) (hi := 32) (by omega)) (trivial)))))))))))
          · by_cases n3 : p_N xs 3 = 0
            · exact z_useP q_p21 hk (y_bdp (p_v1 (k := 0) r0) (y_bdp (p_v1 (k := 1) r1) (y_bdp (p_a1 (k := 0) (by omega)) (y_bdp (p_a0 (k := 1) (by omega)) (y_bdp (p_b0 (k := 0) (by omega)) (y_bdp (p_z1 (k := 0) (by omega)) (y_bdp (p_z1 (k := 1) (by omega)) (y_bdp (p_z1 (k := 2) (by omega)) (y_bdp (p_z0 (k := 3) (by omega)) (y_bdp (p_n (k := 0) (lo := 33) (hi := 126) (by omega)) (y_bdp (p_n (k := 1) (lo := 1) (hi := 32) (by omega)) (trivial))))))))))))
            · by_cases n4 : p_N xs 4 = 0
              · exact z_useP q_p22 hk (y_bdp (p_v1 (k := 0) r0) (y_bdp (p_v1 (k := 1) r1) (y_bdp (p_a1 (k := 0) (by omega)) (y_bdp (p_a0 (k := 1) (by omega)) (y_bdp (p_b0 (k := 0) (by omega)) (y_bdp (p_z1 (k := 0) (by omega)) (y_bdp (p_z1 (k := 1) (by omega)) (y_bdp (p_z1 (k := 2) (by omega)) (y_bdp (p_z1 (k := 3) (by omega)) (y_bdp (p_z0 (k := 4) (by omega)) (y_bdp (p_n (k := 0) (lo := 33) (hi := 126) (by omega)) (y_bdp (p_n (k := 1) (lo := 1) (hi := 32) (by omega)) (trivial)))))))))))))
              · by_cases n5 : p_N xs 5 = 0
                · exact z_useP q_p23 hk (y_bdp (p_v1 (k := 0) r0) (y_bdp (p_v1 (k := 1) r1) (y_bdp (p_a1 (k := 0) (by omega)) (y_bdp (p_a0 (k := 1) (by omega)) (y_bdp (p_b0 (k := 0) (by omega)) (y_bdp (p_z1 (k := 0) (by omega)) (y_bdp (p_z1 (k := 1) (by omega)) (y_bdp (p_z1 (k := 2) (by omega)) (y_bdp (p_z1 (k := 3) (by omega)) (y_bdp (p_z1 (k := 4) (by omega)) (y_bdp (p_z0 (k := 5) (by omega)) (y_bdp (p_n (k := 0) (lo := 33) (hi := 126) (by omega)) (y_bdp (p_n (k := 1) (lo := 1) (hi := 32) (by omega)) (trivial))))))))))))))
                · by_cases n6 : p_N xs 6 = 0
                  · exact z_useP q_p24 hk (y_bdp (p_v1 (k := 0) r0) (y_bdp (p_v1 (k := 1) r1) (y_bdp (p_a1 (k := 0) (by omega)) (y_bdp (p_a0 (k := 1) (by omega)) (y_bdp (p_b0 (k := 0) (by omega)) (y_bdp (p_z1 (k := 0) (by omega)) (y_bdp (p_z1 (k := 1) (by omega)) (y_bdp (p_z1 (k := 2) (by omega)) (y_bdp (p_z1 (k := 3) (by omega)) (y_bdp (p_z1 (k := 4) (by omega)) (y_bdp (p_z1 (k := 5) (by omega)) (y_bdp (p_z0 (k := 6) (by omega)) (y_bdp (p_n (k := 0) (lo := 33) (hi := 126) (by omega)) (y_bdp (p_n (k := 1) (lo := 1) (hi := 32) (by omega)) (trivial)))))))))))))))
                  · by_cases n7 : p_N xs 7 = 0
                    · exact z_useP q_p25 hk (y_bdp (p_v1 (k := 0) r0) (y_bdp (p_v1 (k := 1) r1) (y_bdp (p_a1 (k := 0) (by omega)) (y_bdp (p_a0 (k := 1) (by omega)) (y_bdp (p_b0 (k := 0) (by omega)) (y_bdp (p_z1 (k := 0) (by omega)) (y_bdp (p_z1 (k := 1) (by omega)) (y_bdp (p_z1 (k := 2) (by omega)) (y_bdp (p_z1 (k := 3) (by omega)) (y_bdp (p_z1 (k := 4) (by omega)) (y_bdp (p_z1 (k := 5) (by omega)) (y_bdp (p_z1 (k := 6) (by omega)) (y_bdp (p_z0 (k := 7) (by omega)) (y_bdp (p_n (k := 0) (lo := 33) (hi := 126) (by omega)) (y_bdp (p_n (k := 1) (lo := 1) (hi := 32) (by omega)) (trivial))))))))))))))))
                    · exact z_useP q_p26 hk (y_bdp (p_v1 (k := 0) r0) (y_bdp (p_v1 (k := 1) r1) (y_bdp (p_a1 (k := 0) (by omega)) (y_bdp (p_a0 (k := 1) (by omega)) (y_bdp (p_b0 (k := 0) (by omega)) (y_bdp (p_z1 (k := 0) (by omega)) (y_bdp (p_z1 (k := 1) (by omega)) (y_bdp (p_z1 (k := 2) (by omega)) (y_bdp (p_z1 (k := 3) (by omega)) (y_bdp (p_z1 (k := 4) (by omega)) (y_bdp (p_z1 (k := 5) (by omega)) (y_bdp (p_z1 (k := 6) (by omega)) (y_bdp (p_z1 (k := 7) (by omega)) (y_bdp (p_n (k := 0) (lo := 33) (hi := 126) (by omega)) (y_bdp (p_n (k := 1) (lo := 1) (hi := 32) (by omega)) (trivial))))))))))))))))
        · by_cases n2 : p_N xs 2 = 0
          · exact z_useP q_p27 hk (y_bdp (p_v1 (k := 0) r0) (y_bdp (p_v1 (k := 1) r1) (y_bdp (p_a1 (k := 0) (by omega)) (y_bdp (p_a1 (k := 1) (by omega)) (y_bdp (p_b0 (k := 0) (by omega)) (y_bdp (p_b1 (k := 1) (by omega)) (y_bdp (p_z1 (k := 0) (by omega)) (y_bdp (p_z1 (k := 1) (by omega)) (y_bdp (p_z0 (k := 2) (by omega)) (y_bdp (p_n (k := 0) (lo := 33) (hi := 126) (by omega)) (y_bdp (p_n (k := 1) (lo := 127) (hi := 255) (by omega)) (trivial))))))))))))
          · by_cases n3 : p_N xs 3 = 0
            · exact z_useP q_p28 hk (y_bdp (p_v1 (k := 0) r0) (y_bdp (p_v1 (k := 1) r1) (y_bdp (p_a1 (k := 0) (by omega)) (y_bdp (p_a1 (k := 1) (by omega)) (y_bdp (p_b0 (k := 0) (by omega)) (y_bdp (p_b1 (k := 1) (by omega)) (y_bdp (p_z1 (k := 0) (by omega)) (y_bdp (p_z1 (k := 1) (by omega)) (y_bdp (p_z1 (k := 2) (by omega)) (y_bdp (p_z0 (k := 3) (by omega)) (y_bdp (p_n (k := 0) (lo := 33) (hi := 126) (by omega)) (y_bdp (p_n (k := 1) (lo := 127) (hi := 255) (by omega)) (trivial)))))))))))))
            · by_cases n4 : p_N xs 4 = 0
              · exact z_useP q_p29 hk (y_bdp (p_v1 (k := 0) r0) (y_bdp (p_v1 (k := 1) r1) (y_bdp (p_a1 (k := 0) (by omega)) (y_bdp (p_a1 (k := 1) (by omega)) (y_bdp (p_b0 (k := 0) (by omega)) (y_bdp (p_b1 (k := 1) (by omega)) (y_bdp (p_z1 (k := 0) (by omega)) (y_bdp (p_z1 (k := 1) (by omega)) (y_bdp (p_z1 (k := 2) (by omega)) (y_bdp (p_z1 (k := 3) (by omega)) (y_bdp (p_z0 (k := 4) (by omega)) (y_bdp (p_n (k := 0) (lo := 33) (hi := 126) (by omega)) (y_bdp (p_n (k := 1) (lo := 127) (hi := 255) (by omega)) (trivial))))))))))))))
              · by_cases n5 : p_N xs 5 = 0
                · exact z_useP q_p30 hk (y_bdp (p_v1 (k := 0) r0) (y_bdp (p_v1 (k := 1) r1) (y_bdp (p_a1 (k := 0) (by omega)) (y_bdp (p_a1 (k := 1) (by omega)) (y_bdp (p_b0 (k := 0) (by omega)) (y_bdp (p_b1 (k := 1) (by omega)) (y_bdp (p_z1 (k := 0) (by omega)) (y_bdp (p_z1 (k := 1) (by omega)) (y_bdp (p_z1 (k := 2) (by omega)) (y_bdp (p_z1 (k := 3) (by omega)) (y_bdp (p_z1 (k := 4) (by omega)) (y_bdp (p_z0 (k := 5) (by omega)) (y_bdp (p_n (k := 0) (lo := 33) (hi := 126) (by omega)) (y_bdp (p_n (k := 1) (lo := 127) (hi := 255) (by omega)) (trivial)))))))))))))))
                · by_cases n6 : p_N xs 6 = 0
                  · exact z_useP q_p31 hk (y_bdp (p_v1 (k := 0) r0) (y_bdp (p_v1 (k := 1) r1) (y_bdp (p_a1 (k := 0) (by omega)) (y_bdp (p_a1 (k := 1) (by omega)) (y_bdp (p_b0 (k := 0) (by omega)) (y_bdp (p_b1 (k := 1) (by omega)) (y_bdp (p_z1 (k := 0) (by omega)) (y_bdp (p_z1 (k := 1) (by omega)) (y_bdp (p_z1 (k := 2) (by omega)) (y_bdp (p_z1 (k := 3) (by omega)) (y_bdp (p_z1 (k := 4) (by omega)) (y_bdp (p_z1 (k := 5) (by omega)) (y_bdp (p_z0 (k := 6) (by omega)) (y_bdp (p_n (k := 0) (lo := 33) (hi := 126) (by omega)) (y_bdp (p_n (k := 1) (lo := 127) (hi := 255) (by omega)) (trivial))))))))))))))))
                  · by_cases n7 : p_N xs 7 = 0
                    · exact z_useP q_p32 hk (y_bdp (p_v1 (k := 0) r0) (y_bdp (p_v1 (k := 1) r1) (y_bdp (p_a1 (k := 0) (by omega)) (y_bdp (p_a1 (k := 1) (by omega)) (y_bdp (p_b0 (k := 0) (by omega)) (y_bdp (p_b1 (k := 1) (by omega)) (y_bdp (p_z1 (k := 0) (by omega)) (y_bdp (p_z1 (k := 1) (by omega)) (y_bdp (p_z1 (k := 2) (by omega)) (y_bdp (p_z1 (k := 3) (by omega)) (y_bdp (p_z1 (k := 4) (by omega)) (y_bdp (p_z1 (k := 5) (by omega)) (y_bdp (p_z1 (k := 6) (by omega)) (y_bdp (p_z0 (k := 7) (by omega)) (y_bdp (p_n (k := 0) (lo := 33) (hi := 126) (by omega)) (y_bdp (p_n (k := 1) (lo := 127) (hi := 255) (by omega)) (trivial)))))))))))))))))
                    · exact z_useP q_p33 hk (y_bdp (p_v1 (k := 0) r0) (y_bdp (p_v1 (k := 1) r1) (y_bdp (p_a1 (k := 0) (by omega)) (y_bdp (p_a1 (k := 1) (by omega)) (y_bdp (p_b0 (k := 0) (by omega)) (y_bdp (p_b1 (k := 1) (by omega)) (y_bdp (p_z1 (k := 0) (by omega)) (y_bdp (p_z1 (k := 1) (by omega)) (y_bdp (p_z1 (k := 2) (by omega)) (y_bdp (p_z1 (k := 3) (by omega)) (y_bdp (p_z1 (k := 4) (by omega)) (y_bdp (p_z1 (k := 5) (by omega)) (y_bdp (p_z1 (k := 6) (by omega)) (y_bdp (p_z1 (k := 7) (by omega)) (y_bdp (p_n (k := 0) (lo := 33) (hi := 126) (by omega)) (y_bdp (p_n (k := 1) (lo := 127) (hi := 255) (by omega)) (trivial)))))))))))))))))
        · by_cases r2 : p_R xs 2 = 0
          · have n2 := p_N0 r2
            exact z_useP q_p34 hk (y_bdp (p_v1 (k := 0) r0) (y_bdp (p_v1 (k := 1) r1) (y_bdp (p_v0 (k := 2) r2) (y_bdp (p_a1 (k := 0) (by omega)) (y_bdp (p_a1 (k := 1) (by omega)) (y_bdp (p_b0 (k := 0) (by omega)) (y_bdp (p_b0 (k := 1) (by omega)) (y_bdp (p_z1 (k := 0) (by omega)) (y_bdp (p_z1 (k := 1) (by omega)) (y_bdp (p_z0 (k := 2) (by omega)) (y_bdp (p_n (k := 0) (lo := 33) (hi := 126) (by omega)) (y_bdp (p_n (k := 1) (lo := 33) (hi := 126) (by omega)) (trivial)))))))))))))
          · rcases p_split xs 2 with n2 | n2 | n2 | n2
            · exact z_useP q_p35 hk (y_bdp (p_v1 (k := 0) r0) (y_bdp (p_v1 (k := 1) r1) (y_bdp (p_v1 (k := 2) r2) (y_bdp (p_a1 (k := 0) (by omega)) (y_bdp (p_a1 (k := 1) (by omega)) (y_bdp (p_a0 (k := 2) (by omega)) (y_bdp (p_b0 (k := 0) (by omega)) (y_bdp (p_b0 (k := 1) (by omega)) (y_bdp (p_z1 (k := 0) (by omega)) (y_bdp (p_z1 (k := 1) (by omega)) (y_bdp (p_z0 (k := 2) (by omega)) (y_bdp (p_n (k := 0) (lo := 33) (hi := 126) (by omega)) (y_bdp (p_n (k := 1) (lo := 33) (hi := 126) (by omega)) (trivial))))))))))))))
            · by_cases n3 : p_N xs 3 = 0
              · exact z_useP q_p36 hk (y_bdp (p_v1 (k := 0) r0) (y_bdp (p_v1 (k := 1) r1) (y_bdp (p_v1 (k := 2) r2) (y_bdp (p_a1 (k := 0) (by omega)) (y_bdp (p_a1 (k := 1) (by omega)) (y_bdp (p_a0 (k := 2) (by omega)) (y_bdp (p_b0 (k := 0) (by omega)) (y_bdp (p_b0 (k := 1) (by omega)) (y_bdp (p_z1 (k := 0) (by omega)) (y_bdp (p_z1 (k := 1) (by omega)) (y_bdp (p_z1 (k := 2) (by omega)) (y_bdp (p_z0 (k := 3) (by omega)) (y_bdp (p_n (k := 0) (lo := 33) (hi := 126) (by omega)) (y_bdp (p_n (k := 1) (lo := 33) (hi := 126) (by omega)) (y_bdp (p_n (k := 2) (lo := 1) (hi := 32) (by omega)) (trivial))))))))))))))))
              · by_cases n4 : p_N xs 4 = 0
                · exact z_useP q_p37 hk (y_bdp (p_v1 (k := 0) r0) (y_bdp (p_v1 (k := 1) r1) (y_bdp (p_v1 (k := 2) r2) (y_bdp (p_a1 (k := 0) (by omega)) (y_bdp (p_a1 (k := 1) (by omega)) (y_bdp (p_a0 (k := 2) (by omega)) (y_bdp (p_b0 (k := 0) (by omega)) (y_bdp (p_b0 (k := 1) (by omega)) (y_bdp (p_z1 (k := 0) (by omega)) (y_bdp (p_z1 (k := 1) (by omega)) (y_bdp (p_z1 (k := 2) (by omega)) (y_bdp (p_z1 (k := 3) (by omega)) (y_bdp (p_z0 (k := 4) (by omega)) (y_bdp (p_n (k := 0) (lo := 33) (hi := 126) (by omega)) (y_bdp (p_n (k := 1) (lo := 33) (hi := 126) (by omega)) (y_bdp (p_n (k := 2) (lo := 1) (hi := 32) (by omega)) (trivial)))))))))))))))))
                · by_cases n5 : p_N xs 5 = 0
                  · exact z_useP q_p38 hk (y_bdp (p_v1 (k := 0) r0) (y_bdp (p_v1 (k := 1) r1) (y_bdp (p_v1 (k := 2) r2) (y_bdp (p_a1 (k := 0) (by omega)) (y_bdp (p_a1 (k := 1) (by omega)) (y_bdp (p_a0 (k := 2) (by omega)) (y_bdp (p_b0 (k := 0) (by omega)) (y_bdp (p_b0 (k := 1) (by omega)) (y_bdp (p_z1 (k := 0) (by omega)) (y_bdp (p_z1 (k := 1) (by omega)) (y_bdp (p_z1 (k := 2) (by omega)) (y_bdp (p_z1 (k := 3) (by omega)) (y_bdp (p_z1 (k := 4) (by omega)) (y_bdp (p_z0 (k := 5) (by omega)) (y_bdp (p_n (k := 0) (lo := 33) (hi := 126) (by omega)) (y_bdp (p_n (k := 1) (lo := 33) (hi := 126) (by omega)) (y_bdp (p_n (k := 2) (lo := 1) (hi := 32) (by omega)) (trivial))))))))))))))))))
                  · by_cases n6 : p_N xs 6 = 0
                    · exact z_useP q_p39 hk (y_bdp (p_v1 (k := 0) r0) (y_bdp (p_v1 (k := 1) r1) (y_bdp (p_v1 (k := 2) r2) (y_bdp (p_a1 (k := 0) (by omega)) (y_bdp (p_a1 (k := 1) (by omega)) (y_bdp (p_a0 (k := 2) (by omega)) (y_bdp (p_b0 (k := 0) (by omega)) (y_bdp (p_b0 (k := 1) (by omega)) (y_bdp (p_z1 (k := 0) (by omega)) (y_bdp (p_z1 (k := 1) (by omega)) (y_bdp (p_z1 (k := 2) (by omega)) (y_bdp (p_z1 (k := 3) (by omega)) (y_bdp (p_z1 (k := 4) (by omega)) (y_bdp (p_z1 (k := 5) (by omega)) (y_bdp (p_z0 (k := 6) (by omega)) (y_bdp (p_n (k := 0) (lo := 33) (hi := 126) (by omega)) (y_bdp (p_n (k := 1) (lo := 33) (hi := 126) (by omega)) (y_bdp (p_n (k := 2) (lo := 1) (hi := 32) (by omega)) (trivial)))))))))))))))))))
                    · by_cases n7 : p_N xs 7 = 0
                      · exact z_useP q_p40 hk (y_bdp (p_v1 (k := 0) r0) (y_bdp (p_v1 (k := 1) r1) (y_bdp (p_v1 (k := 2) r2) (y_bdp (p_a1 (k := 0) (by omega)) (y_bdp (p_a1 (k := 1) (by omega)) (y_bdp (p_a0 (k := 2) (by omega)) (y_bdp (p_b0 (k := 0) (by omega)) (y_bdp (p_b0 (k := 1) (by omega)) (y_bdp (p_z1 (k := 0) (by omega)) (y_bdp (p_z1 (k := 1) (by omega)) (y_bdp (p_z1 (k := 2) (by omega)) (y_bdp (p_z1 (k := 3) (by omega)) (y_bdp (p_z1 (k := 4) (by omega)) (y_bdp (p_z1 (k := 5) (by omega)) (y_bdp (p_z1 (k := 6) (by omega)) (y_bdp (p_z0 (k := 7) (by omega)) (y_bdp (p_n (k := 0) (lo := 33) (hi := 126) (by omega)) (y_bdp (p_n (k := 1) (lo := 33) (hi := 126) (by omega)) (y_bdp (p_n (k := 2) (lo := 1) (hi := 32) (by omega)) (trivial))))))))))))))))))))
                      · exact z_useP q_p41 hk (y_bdp (p_v1 (k := 0) r0) (y_bdp (p_v1 (k := 1) r1) (y_bdp (p_v1 (k := 2) r2) (y_bdp (p_a1 (k := 0) (by omega)) (y_bdp (p_a1 (k := 1) (by omega)) (y_bdp (p_a0 (k := 2) (by omega)) (y_bdp (p_b0 (k := 0) (by omega)) (y_bdp (p_b0 (k := 1) (by omega)) (y_bdp (p_z1 (k := 0) (by omega)) (y_bdp (p_z1 (k := 1) (by omega)) (y_bdp (p_z1 (k := 2) (by omega)) (y_bdp (p_z1 (k := 3) (by omega)) (y_bdp (p_z1 (k := 4) (by omega)) (y_bdp (p_z1 (k := 5) (by omega)) (y_bdp (p_z1 (k := 6) (by omega)) (y_bdp (p_z1 (k := 7) (by omega)) (y_bdp (p_n (k := 0) (lo := 33) (hi := 126) (by omega)) (y_bdp (p_n (k := 1) (lo := 33) (hi := 126) (by omega)) (y_bdp (p_n (k := 2) (lo := 1) (hi := 32) (by omega)) (trivial))))))))))))))))))))
            · by_cases n3 : p_N xs 3 = 0
              · exact z_useP q_p42 hk (y_bdp (p_v1 (k := 0) r0) (y_bdp (p_v1 (k := 1) r1) (y_bdp (p_v1 (k := 2) r2) (y_bdp (p_a1 (k := 0) (by omega)) (y_bdp (p_a1 (k := 1) (by omega)) (y_bdp (p_a1 (k := 2) (by omega)) (y_bdp (p_b0 (k := 0) (by omega)) (y_bdp (p_b0 (k := 1) (by omega)) (y_bdp (p_b1 (k := 2) (by omega)) (y_bdp (p_z1 (k := 0) (by omega)) (y_bdp (p_z1 (k := 1) (by omega)) (y_bdp (p_z1 (k := 2) (by omega)) (y_bdp (p_z0 (k := 3) (by omega)) (y_bdp (p_n (k := 0) (lo := 33) (hi := 126) (by omega)) (y_bdp (p_n (k := 1) (lo := 33) (hi := 126) (by omega)) (y_bdp (p_n (k := 2) (lo := 127) (hi := 255) (by omega)) (trivial)))))))))))))))))
              · by_cases n4 : p_N xs 4 = 0
                · exact z_useP q_p43 hk (y_bdp (p_v1 (k := 0) r0) (y_bdp (p_v1 (k := 1) r1) (y_bdp (p_v1 (k := 2) r2) (y_bdp (p_a1 (k := 0) (by omega)) (y_bdp (p_a1 (k := 1) (by omega)) (y_bdp (p_a1 (k := 2) (by omega)) (y_bdp (p_b0 (k := 0) (by omega)) (y_bdp (p_b0 (k := 1) (by omega)) (y_bdp (p_b1 (k := 2) (by omega)) (y_bdp (p_z1 (k := 0) (by omega)) (y_bdp (p_z1 (k := 1) (by omega)) (y_bdp (p_z1 (k := 2) (by omega)) (y_bdp (p_z1 (k := 3) (by omega)) (y_bdp (p_z0 (k := 4) (by omega)) (y_bdp (p_n (k := 0) (lo := 33) (hi := 126) (by omega)) (y_bdp (p_n (k := 1) (lo := 33) (hi := 126) (by omega)) (y_bdp (p_n (k := 2) (lo := 127) (hi := 255) (by omega)) (trivial))))))))))))))))))
                · by_cases n5 : p_N xs 5 = 0
                  · exact z_useP q_p44 hk (y_bdp (p_v1 (k := 0) r0) (y_bdp (p_v1 (k := 1) r1) (y_bdp (p_v1 (k := 2) r2) (y_bdp (p_a1 (k := 0) (by omega)) (y_bdp (p_a1 (k := 1) (by omega)) (y_bdp (p_a1 (k := 2) (by omega)) (y_bdp (p_b0 (k := 0) (by omega)) (y_bdp (p_b0 (k := 1) (by omega)) (y_bdp (p_b1 (k := 2) (by omega)) (y_bdp (p_z1 (k := 0) (by omega)) (y_bdp (p_z1 (k := 1) (by omega)) (y_bdp (p_z1 (k := 2) (by omega)) (y_bdp (p_z1 (k := 3) (by omega)) (y_bdp (p_z1 (k := 4) (by omega)) (y_bdp (p_z0 (k := 5) (by omega)) (y_bdp (p_n (k := 0) (lo := 33) (hi := 126) (by omega)) (y_bdp (p_n (k := 1) (lo := 33) (hi := 126) (by omega)) (y_bdp (p_n (k := 2) (lo := 127) (hi := 255) (by omega)) (trivial)))))))))))))))))))
                  · by_cases n6 : p_N xs 6 = 0
                    · exact z_useP q_p45 hk (y_bdp (p_v1 (k := 0) r0) (y_bdp (p_v1 (k := 1) r1) (y_bdp (p_v1 (k := 2) r2) (y_bdp (p_a1 (k := 0) (by omega)) (y_bdp (p_a1 (k := 1) (by omega)) (y_bdp (p_a1 (k := 2) (by omega)) (y_bdp (p_b0 (k := 0) (by omega)) (y_bdp (p_b0 (k := 1) (by omega)) (y_bdp (p_b1 (k := 2) (by omega)) (y_bdp (p_z1 (k := 0) (by omega)) (y_bdp (p_z1 (k := 1) (by omega)) (y_bdp (p_z1 (k := 2) (by omega)) (y_bdp (p_z1 (k := 3) (by omega)) (y_bdp (p_z1 (k := 4) (by omega)) (y_bdp (p_z1 (k := 5) (by omega)) (y_bdp (p_z0 (k := 6) (by omega)) (y_bdp (p_n (k := 0) (lo := 33) (hi := 126) (by omega)) (y_bdp (p_n (k := 1) (lo := 33) (hi := 126) (by omega)) (y_bdp (p_n (k := 2) (lo := 127) (hi := 255) (by omega)) (trivial))))))))))))))))))))
                    · by_cases n7 : p_N xs 7 = 0
                      · exact z_useP q_p46 hk (y_bdp (p_v1 (k := 0) r0) (y_bdp (p_v1 (k := 1) r1) (y_bdp (p_v1 (k := 2) r2) (y_bdp (p_a1 (k := 0) (by omega)) (y_bdp (p_a1 (k := 1) (by omega)) (y_bdp (p_a1 (k := 2) (by omega)) (y_bdp (p_b0 (k := 0) (by omega)) (y_bdp (p_b0 (k := 1) (by omega)) (y_bdp (p_b1 (k := 2) (by omega)) (y_bdp (p_z1 (k := 0) (by omega)) (y_bdp (p_z1 (k := 1) (by omega)) (y_bdp (p_z1 (k := 2) (by omega)) (y_bdp (p_z1 (k := 3) (by omega)) (y_bdp (p_z1 (k := 4) (by omega)) (y_bdp (p_z1 (k := 5) (by omega)) (y_bdp (p_z1 (k := 6) (by omega)) (y_bdp (p_z0 (k := 7) (by omega)) (y_bdp (p_n (k := 0) (lo := 33) (hi := 126) (by omega)) (y_bdp (p_n (k := 1) (lo := 33) (hi := 126) (by omega)) (y_bdp (p_n (k := 2) (lo := 127) (hi := 255) (by omega)) (trivial)))))))))))))))))))))
                      · exact z_useP q_p47 hk (y_bdp (p_v1 (k := 0) r0) (y_bdp (p_v1 (k := 1) r1) (y_bdp (p_v1 (k := 2) r2) (y_bdp (p_a1 (k := 0) (by omega)) (y_bdp (p_a1 (k := 1) (by omega)) (y_bdp (p_a1 (k := 2) (by omega)) (y_bdp (p_b0 (k := 0) (by omega)) (y_bdp (p_b0 (k := 1) (by omega)) (y_bdp (p_b1 (k := 2) (by omega)) (y_bdp (p_z1 (k := 0) (by omega)) (y_bdp (p_z1 (k := 1) (by omega)) (y_bdp (p_z1 (k := 2) (by omega)) (y_bdp (p_z1 (k := 3) (by omega)) (y_bdp (p_z1 (k := 4) (by omega)) (y_bdp (p_z1 (k := 5) (by omega)) (y_bdp (p_z1 (k := 6) (by omega)) (y_bdp (p_z1 (k := 7) (by omega)) (y_bdp (p_n (k := 0) (lo := 33) (hi := 126) (by omega)) (y_bdp (p_n (k := 1) (lo := 33) (hi := 126) (by omega)) (y_bdp (p_n (k := 2) (lo := 127) (hi := 255) (by omega)) (trivial)))))))))))))))))))))
            · by_cases r3 : p_R xs 3 = 0
              · have n3 := p_N0 r3
                exact z_useP q_p48 hk (y_bdp (p_v1 (k := 0) r0) (y_bdp (p_v1 (k := 1) r1) (y_bdp (p_v1 (k := 2) r2) (y_bdp (p_v0 (k := 3) r3) (y_bdp (p_a1 (k := 0) (by omega)) (y_bdp (p_a1 (k := 1) (by omega)) (y_bdp (p_a1 (k := 2) (by omega)) (y_bdp (p_b0 (k := 0) (by omega)) (y_bdp (p_b0 (k := 1) (by omega)) (y_bdp (p_b0 (k := 2) (by omega)) (y_bdp (p_z1 (k := 0) (by omega)) (y_bdp (p_z1 (k := 1) (by omega)) (y_bdp (p_z1 (k := 2) (by omega)) (y_bdp (p_z0 (k := 3) (by omega)) (y_bdp (p_n (k := 0) (lo := 33) (hi := 126) (by omega)) (y_bdp (p_n (k := 1) (lo := 33) (hi := 126) (by omega)) (y_bdp (p_n (k := 2) (lo := 33) (hi := 126) (by omega)) (trivial))))))))))))))))))
              · rcases p_split xs 3 with n3 | n3 | n3 | n3
                · exact z_useP q_p49 hk (y_bdp (p_v1 (k := 0) r0) (y_bdp (p_v1 (k := 1) r1) (y_bdp (p_v1 (k := 2) r2) (y_bdp (p_v1 (k := 3) r3) (y_bdp (p_a1 (k := 0) (by omega)) (y_bdp (p_a1 (k := 1) (by omega)) (y_bdp (p_a1 (k := 2) (by omega)) (y_bdp (p_a0 (k := 3) (by omega)) (y_bdp (p_b0 (k := 0) (by omega)) (y_bdp (p_b0 (k := 1) (by omega)) (y_bdp (p_b0 (k := 2) (by omega)) (y_bdp (p_z1 (k := 0) (by omega)) (y_bdp (p_z1 (k := 1) (by omega)) (y_bdp (p_z1 (k := 2) (by omega)) (y_bdp (p_z0 (k := 3) (by omega)) (y_bdp (p_n (k := 0) (lo := 33) (hi := 126) (by omega)) (y_bdp (p_n (k := 1) (lo := 33) (hi := 126) (by omega)) (y_bdp (p_n (k := 2) (lo := 33) (hi := 126) (by omega)) (trivial)))))))))))))))))))
                · by_cases n4 : p_N xs 4 = 0
                  · exact z_useP q_p50 hk (y_bdp (p_v1 (k := 0) r0) (y_bdp (p_v1 (k := 1) r1) (y_bdp (p_v1 (k := 2) r2) (y_bdp (p_v1 (k := 3) r3) (y_bdp (p_a1 (k := 0) (by omega)) (y_bdp (p_a1 (k := 1) (by omega)) (y_bdp (p_a1 (k := 2) (by omega)) (y_bdp (p_a0 (k := 3) (by omega)) (y_bdp (p_b0 (k := 0) (by omega)) (y_bdp (p_b0 (k := 1) (by omega)) (y_bdp (p_b0 (k := 2) (by omega)) (y_bdp (p_z1 (k := 0) (by omega)) (y_bdp (p_z1 (k := 1) (by omega)) (y_bdp (p_z1 (k := 2) (by omega)) (y_bdp (p_z1 (k := 3) (by omega)) (y_bdp (p_z0 (k := 4) (by omega)) (y_bdp (p_n (k := 0) (lo := 33) (hi := 126) (by omega)) (y_bdp (p_n (k := 1) (lo := 33) (hi := 126) (by omega)) (y_bdp (p_n (k := 2) (lo := 33) (hi := 126) (by omega)) (y_bdp (p_n (k := 3) (lo := 1) (hi := 32) (by omega)) (trivial)))))))))))))))))))))
                  · by_cases n5 : p_N xs 5 = 0
                    · exact z_useP q_p51 hk (y_bdp (p_v1 (k := 0) r0) (y_bdp (p_v1 (k := 1) r1) (y_bdp (p_v1 (k := 2) r2) (y_bdp (p_v1 (k := 3) r3) (y_bdp (p_a1 (k := 0) (by omega)) (y_bdp (p_a1 (k := 1) (by omega)) (y_bdp (p_a1 (k := 2) (by omega)) (y_bdp (p_a0 (k := 3) (by omega)) (y_bdp (p_b0 (k := 0) (by omega)) (y_bdp (p_b0 (k := 1) (by omega)) (y_bdp (p_b0 (k := 2) (by omega)) (y_bdp (p_z1 (k := 0) (by omega)) (y_bdp (p_z1 (k := 1) (by omega)) (y_bdp (p_z1 (k := 2) (by omega)) (y_bdp (p_z1 (k := 3) (by omega)) (y_bdp (p_z1 (k := 4) (by omega)) (y_bdp (p_z0 (k := 5) (by omega)) (y_bdp (p_n (k := 0) (lo := 33) (hi := 126) (by omega)) (y_bdp (p_n (k := 1) (lo := 33) (hi := 126) (by omega)) (y_bdp (p_n (k := 2) (lo := 33) (hi := 126) (by omega)) (y_bdp (p_n (k := 3) (lo := 1) (hi := 32) (by omega)) (trivial))))))))))))))))))))))
                    · by_cases n6 : p_N xs 6 = 0
                      · exact z_useP q_p52 hk (y_bdp (p_v1 (k := 0) r0) (y_bdp (p_v1 (k := 1) r1) (y_bdp (p_v1 (k := 2) r2) (y_bdp (p_v1 (k := 3) r3) (y_bdp (p_a1 (k := 0) (by omega)) (y_bdp (p_a1 (k := 1) (by omega)) (y_bdp (p_a1 (k := 2) (by omega)) (y_bdp (p_a0 (k := 3) (by omega)) (y_bdp (p_b0 (k := 0) (by omega)) (y_bdp (p_b0 (k := 1) (by omega)) (y_bdp (p_b0 (k := 2) (by omega)) (y_bdp (p_z1 (k := 0) (by omega)) (y_bdp (p_z1 (k := 1) (by omega)) (y_bdp (p_z1 (k := 2) (by omega)) (y_bdp (p_z1 (k := 3) (by omega)) (y_bdp (p_z1 (k := 4) (by omega)) (y_bdp (p_z1 (k := 5) (by omega)) (y_bdp (p_z0 (k := 6) (by omega)) (y_bdp (p_n (k := 0) (lo := 33) (hi := 126) (by omega)) (y_bdp (p_n (k := 1) (lo := 33) (hi := 126) (by omega)) (y_bdp (p_n (k := 2) (lo := 33) (hi := 126) (by omega)) (y_bdp (p_n (k := 3) (lo := 1) (hi := 32) (by omega)) (trivial)))))))))))))))))))))))
                      · by_cases n7 : p_N xs 7 = 0
                        · exact z_useP q_p53 hk (y_bdp (p_v1 (k := 0) r0) (y_bdp (p_v1 (k := 1) r1) (y_bdp (p_v1 (k := 2) r2) (y_bdp (p_v1 (k := 3) r3) (y_bdp (p_a1 (k := 0) (by omega)) (y_bdp (p_a1 (k := 1) (by omega)) (y_bdp (p_a1 (k := 2) (by omega)) (y_bdp (p_a0 (k := 3) (by omega)) (y_bdp (p_b0 (k := 0) (by omega)) (y_bdp (p_b0 (k := 1) (by omega)) (y_bdp (p_b0 (k := 2) (by omega)) (y_bdp (p_z1 (k := 0) (by omega)) (y_bdp (p_z1 (k := 1) (by omega)) (y_bdp (p_z1 (k := 2) (by omega)) (y_bdp (p_z1 (k := 3) (by omega)) (y_bdp (p_z1 (k := 4) (by omega)) (y_bdp (p_z1 (k := 5) (by omega)) (y_bdp (p_z1 (k := 6) (by omega)) (y_bdp (p_z0 (k := 7) (by omega)) (y_bdp (p_n (k := 0) (lo := 33) (hi := 126) (by omega)) (y_bdp (p_n (k := 1) (lo := 33) (hi := 126) (by omega)) (y_bdp (p_n (k := 2) (lo := 33) (hi := 126) (by omega)) (y_bdp (p_n (k := 3) (lo := 1) (hi := 32) (by omega)) (trivial))))))))))))))))))))))))
                        · exact z_useP q_p54 hk (y_bdp (p_v1 (k := 0) r0) (y_bdp (p_v1 (k := 1) r1) (y_bdp (p_v1 (k := 2) r2) (y_bdp (p_v1 (k := 3) r3) (y_bdp (p_a1 (k := 0) (by omega)) (y_bdp (p_a1 (k := 1) (by omega)) (y_bdp (p_a1 (k := 2) (by omega)) (y_bdp (p_a0 (k := 3) (by omega)) (y_bdp (p_b0 (k := 0) (by omega)) (y_bdp (p_b0 (k := 1) (by omega)) (y_bdp (p_b0 (k := 2) (by omega)) (y_bdp (p_z1 (k := 0) (by omega)) (y_bdp (p_z1 (k := 1) (by omega)) (y_bdp (p_z1 (k := 2) (by omega)) (y_bdp (p_z1 (k := 3) (by omega)) (y_bdp (p_z1 (k := 4) (by omega)) (y_bdp (p_z1 (k := 5) (by omega)) (y_bdp (p_z1 (k := 6) (by omega)) (y_bdp (p_z1 (k := 7) (by omega)) (y_bdp (p_n (k := 0) (lo := 33) (hi := 126) (by omega)) (y_bdp (p_n (k := 1) (lo := 33) (hi := 126) (by omega)) (y_bdp (p_n (k := 2) (lo := 33) (hi := 126) (by omega)) (y_bdp (p_n (k := 3) (lo := 1) (hi := 32) (by omega)) (trivial))))))))))))))))))))))))
                · by_cases n4 : p_N xs 4 = 0
                  · exact z_useP q_p55 hk (y_bdp (p_v1 (k := 0) r0) (y_bdp (p_v1 (k := 1) r1) (y_bdp (p_v1 (k := 2) r2) (y_bdp (p_v1 (k := 3) r3) (y_bdp (p_a1 (k := 0) (by omega)) (y_bdp (p_a1 (k := 1) (by omega)) (y_bdp (p_a1 (k := 2) (by omega)) (y_bdp (p_a1 (k := 3) (by omega)) (y_bdp (p_b0 (k := 0) (by omega)) (y_bdp (p_b0 (k := 1) (by omega)) (y_bdp (p_b0 (k := 2) (by omega)) (y_bdp (p_b1 (k := 3) (by omega)) (y_bdp (p_z1 (k := 0) (by omega)) (y_bdp (p_z1 (k := 1) (by omega)) (y_bdp (p_z1 (k := 2) (by omega)) (y_bdp (p_z1 (k := 3) (by omega)) (y_bdp (p_z0 (k := 4) (by omega)) (y_bdp (p_n (k := 0) (lo := 33) (hi := 126) (by omega)) (y_bdp (p_n (k := 1) (lo := 33) (hi := 126) (by omega)) (y_bdp (p_n (k := 2) (lo := 33) (hi := 126) (by omega)) (y_bdp (p_n (k := 3) (lo := 127) (hi := 255) (by omega)) (trivial))))))))))))))))))))))
                  · by_cases n5 : p_N xs 5 = 0
                    · exact z_useP q_p56 hk (y_bdp (p_v1 (k := 0) r0) (y_bdp (p_v1 (k := 1) r1) (y_bdp (p_v1 (k := 2) r2) (y_bdp (p_v1 (k := 3) r3) (y_bdp (p_a1 (k := 0) (by omega)) (y_bdp (p_a1 (k := 1) (by omega)) (y_bdp (p_a1 (k := 2) (by omega)) (y_bdp (p_a1 (k := 3) (by omega)) (y_bdp (p_b0 (k := 0) (by omega)) (y_bdp (p_b0 (k := 1) (by omega)) (y_bdp (p_b0 (k := 2) (by omega)) (y_bdp (p_b1 (k := 3) (by omega)) (y_bdp (p_z1 (k := 0) (by omega)) (y_bdp (p_z1 (k := 1) (by omega)) (y_bdp (p_z1 (k := 2) (by omega)) (y_bdp (p_z1 (k := 3) (by omega)) (y_bdp (p_z1 (k := 4) (by omega)) (y_bdp (p_z0 (k := 5) (by omega)) (y_bdp (p_n (k := 0) (lo := 33) (hi := 126) (by omega)) (y_bdp (p_n (k := 1) (lo := 33) (hi := 126) (by omega)) (y_bdp (p_n (k := 2) (lo := 33) (hi := 126) (by omega)) (y_bdp (p_n (k := 3) (lo := 127) (hi := 255) (by omega)) (trivial)))))))))))))))))))))))
                    · by_cases n6 : p_N xs 6 = 0
                      · exact z_useP q_p57 hk (y_bdp (p_v1 (k := 0) r0) (y_bdp (p_v1 (k := 1) r1) (y_bdp (p_v1 (k := 2) r2) (y_bdp (p_v1 (k := 3) r3) (y_bdp (p_a1 (k := 0) (by omega)) (y_bdp (p_a1 (k := 1) (by omega)) (y_bdp (p_a1 (k := 2) (by omega)) (y_bdp (p_a1 (k := 3) (by omega)) (y_bdp (p_b0 (k := 0) (by omega)) (y_bdp (p_b0 (k := 1) (by omega)) (y_bdp (p_b0 (k := 2) (by omega)) (y_bdp (p_b1 (k := 3) (by omega)) (y_bdp (p_z1 (k := 0) (by omega)) (y_bdp (p_z1 (k := 1) (by omega)) (y_bdp (p_z1 (k := 2) (by omega)) (y_bdp (p_z1 (k := 3) (by omega)) (y_bdp (p_z1 (k := 4) (by omega)) (y_bdp (p_z1 (k := 5) (by omega)) (y_bdp (p_z0 (k := 6) (by omega)) (y_bdp (p_n (k := 0) (lo := 33) (hi := 126) (by omega)) (y_bdp (p_n (k := 1) (lo := 33) (hi := 126) (by omega)) (y_bdp (p_n (k := 2) (lo := 33) (hi := 126) (by omega)) (y_bdp (p_n (k := 3) (lo := 127) (hi := 255) (by omega)) (trivial))))))))))))))))))))))))
                      · by_cases n7 : p_N xs 7 = 0
                        · exact z_useP q_p58 hk (y_bdp (p_v1 (k := 0) r0) (y_bdp (p_v1 (k := 1) r1) (y_bdp (p_v1 (k := 2) r2) (y_bdp (p_v1 (k := 3) r3) (y_bdp (p_a1 (k := 0) (by omega)) (y_bdp (p_a1 (k := 1) (by omega)) (y_bdp (p_a1 (k := 2) (by omega)) (y_bdp (p_a1 (k := 3) (by omega)) (y_bdp (p_b0 (k := 0) (by omega)) (y_bdp (p_b0 (k := 1) (by omega)) (y_bdp (p_b0 (k := 2) (by omega)) (y_bdp (p_b1 (k := 3) (by omega)) (y_bdp (p_z1 (k := 0) (by omega)) (y_bdp (p_z1 (k := 1) (by omega)) (y_bdp (p_z1 (k := 2) (by omega)) (y_bdp (p_z1 (k := 3) (by omega)) (y_bdp (p_z1 (k := 4) (by omega)) (y_bdp (p_z1 (k := 5) (by omega)) (y_bdp (p_z1 (k := 6) (by omega)) (y_bdp (p_z0 (k := 7) (by omega)) (y_bdp (p_n (k := 0) (lo := 33) (hi := 126) (by omega)) (y_bdp (p_n (k := 1) (lo := 33) (hi := 126) (by omega)) (y_bdp (p_n (k := 2) (lo := 33) (hi := 126) (by omega)) (y_bdp (p_n (k := 3) (lo := 127) (hi := 255) (by omega)) (trivial)))))))))))))))))))))))))
                        · exact z_useP q_p59 hk (y_bdp (p_v1 (k := 0) r0) (y_bdp (p_v1 (k := 1) r1) (y_bdp (p_v1 (k := 2) r2) (y_bdp (p_v1 (k := 3) r3) (y_bdp (p_a1 (k := 0) (by omega)) (y_bdp (p_a1 (k := 1) (by omega)) (y_bdp (p_a1 (k := 2) (by omega)) (y_bdp (p_a1 (k := 3) (by omega)) (y_bdp (p_b0 (k := 0) (by omega)) (y_bdp (p_b0 (k := 1) (by omega)) (y_bdp (p_b0 (k := 2) (by omega)) (y_bdp (p_b1 (k := 3) (by omega)) (y_bdp (p_z1 (k := 0) (by omega)) (y_bdp (p_z1 (k := 1) (by omega)) (y_bdp (p_z1 (k := 2) (by omega)) (y_bdp (p_z1 (k := 3) (by omega)) (y_bdp (p_z1 (k := 4) (by omega)) (y_bdp (p_z1 (k := 5) (by omega)) (y_bdp (p_z1 (k := 6) (by omega)) (y_bdp (p_z1 (k := 7) (by omega)) (y_bdp (p_n (k := 0) (lo := 33) (hi := 126) (by omega)) (y_bdp (p_n (k := 1) (lo := 33) (hi := 126) (by omega)) (y_bdp (p_n (k := 2) (lo := 33) (hi := 126) (by omega)) (y_bdp (p_n (k := 3) (lo := 127) (hi := 255) (by omega)) (trivial)))))))))))))))))))))))))
                · by_cases r4 : p_R xs 4 = 0
                  · have n4 := p_N0 r4
                    exact z_useP q_p60 hk (y_bdp (p_v1 (k := 0) r0) (y_bdp (p_v1 (k := 1) r1) (y_bdp (p_v1 (k := 2) r2) (y_bdp (p_v1 (k := 3) r3) (y_bdp (p_v0 (k := 4) r4) (y_bdp (p_a1 (k := 0) (by omega)) (y_bdp (p_a1 (k := 1) (by omega)) (y_bdp (p_a1 (k := 2) (by omega)) (y_bdp (p_a1 (k := 3) (by omega)) (y_bdp (p_b0 (k := 0) (by omega)) (y_bdp (p_b0 (k := 1) (by omega)) (y_bdp (p_b0 (k := 2) (by omega)) (y_bdp (p_b0 (k := 3) (by omega)) (y_bdp (p_z1 (k := 0) (by omega)) (y_bdp (p_z1 (k := 1) (by omega)) (y_bdp (p_z1 (k := 2) (by omega)) (y_bdp (p_z1 (k := 3) (by omega)) (y_bdp (p_z0 (k := 4) (by omega)) (y_bdp (p_n (k := 0) (lo := 33) (hi := 126) (by omega)) (y_bdp (p_n (k := 1) (lo := 33) (hi := 126) (by omega)) (y_bdp (p_n (k := 2) (lo := 33) (hi := 126) (by omega)) (y_bdp (p_n (k := 3) (lo := 33) (hi := 126) (by omega)) (trivial)))))))))))))))))))))))
                  · rcases p_split xs 4 with n4 | n4 | n4 | n4
                    · exact z_useP q_p61 hk (y_bdp (p_v1 (k := 0) r0) (y_bdp (p_v1 (k := 1) r1) (y_bdp (p_v1 (k := 2) r2) (y_bdp (p_v1 (k := 3) r3) (y_bdp (p_v1 (k := 4) r4) (y_bdp (p_a1 (k := 0) (by omega)) (y_bdp (p_a1 (k := 1) (by omega)) (y_bdp (p_a1 (k := 2) (by omega)) (y_bdp (p_a1 (k := 3) (by omega)) (y_bdp (p_a0 (k := 4) (by omega)) (y_bdp (p_b0 (k := 0) (by omega)) (y_bdp (p_b0 (k := 1) (by omega)) (y_bdp (p_b0 (k := 2) (by omega)) (y_bdp (p_b0 (k := 3) (by omega)) (y_bdp (p_z1 (k := 0) (by omega)) (y_bdp (p_z1 (k := 1) (by omega)) (y_bdp (p_z1 (k := 2) (by omega)) (y_bdp (p_z1 (k := 3) (by omega)) (y_bdp (p_z0 (k := 4) (by omega)) (y_bdp (p_n (k := 0) (lo := 33) (hi := 126) (by omega)) (y_bdp (p_n (k := 1) (lo := 33) (hi := 126) (by omega)) (y_bdp (p_n (k := 2) (lo := 33) (hi := 126) (by omega)) (y_bdp (p_n (k := 3) (lo := 33) (hi := 126) (by omega)) (trivial))))))))))))))))))))))))
                    · by_cases n5 : p_N xs 5 = 0
                      · exact z_useP q_p62 hk (y_bdp (p_v1 (k := 0) r0) (y_bdp (p_v1 (k := 1) r1) (y_bdp (p_v1 (k := 2) r2) (y_bdp (p_v1 (k := 3) r3) (y_bdp (p_v1 (k := 4) r4) (y_bdp (p_a1 (k := 0) (by omega)) (y_bdp (p_a1 (k := 1) (by omega)) (y_bdp (p_a1 (k := 2) (by omega)) (y_bdp (p_a1 (k := 3) (by omega)) (y_bdp (p_a0 (k := 4) (by omega)) (y_bdp (p_b0 (k := 0) (by omega)) (y_bdp (p_b0 (k := 1) (by omega)) (y_bdp (p_b0 (k := 2) (by omega)) (y_bdp (p_b0 (k := 3) (by omega)) (y_bdp (p_z1 (k := 0) (by omega)) (y_bdp (p_z1 (k := 1) (by omega)) (y_bdp (p_z1 (k := 2) (by omega)) (y_bdp (p_z1 (k := 3) (by omega)) (y_bdp (p_z1 (k := 4) (by omega)) (y_bdp (p_z0 (k := 5) (by omega)) (y_bdp (p_n (k := 0) (lo := 33) (hi := 126) (by omega)) (y_bdp (p_n (k := 1) (lo := 33) (hi := 126) (by omega)) (y_bdp (p_n (k := 2) (lo := 33) (hi := 126) (by omega)) (y_bdp (p_n (k := 3) (lo := 33) (hi := 126) (by omega)) (y_bdp (p_n (k := 4) (lo := 1) (hi := 32) (by omega)) (trivial))))))))))))))))))))))))))
                      · by_cases n6 : p_N xs 6 = 0
                        · exact z_useP q_p63 hk (y_bdp (p_v1 (k := 0) r0) (y_bdp (p_v1 (k := 1) r1) (y_bdp (p_v1 (k := 2) r2) (y_bdp (p_v1 (k := 3) r3) (y_bdp (p_v1 (k := 4) r4) (y_bdp (p_a1 (k := 0) (by omega)) (y_bdp (p_a1 (k := 1) (by omega)) (y_bdp (p_a1 (k := 2) (by omega)) (y_bdp (p_a1 (k := 3) (by omega)) (y_bdp (p_a0 (k := 4) (by omega)) (y_bdp (p_b0 (k := 0) (by omega)) (y_bdp (p_b0 (k := 1) (by omega)) (y_bdp (p_b0 (k := 2) (by omega)) (y_bdp (p_b0 (k := 3) (by omega)) (y_bdp (p_z1 (k := 0) (by omega)) (y_bdp (p_z1 (k := 1) (by omega)) (y_bdp (p_z1 (k := 2) (by omega)) (y_bdp (p_z1 (k := 3) (by omega)) (y_bdp (p_z1 (k := 4) (by omega)) (y_bdp (p_z1 (k := 5) (by omega)) (y_bdp (p_z0 (k := 6) (by omega)) (y_bdp (p_n (k := 0) (lo := 33) (hi := 126) (by omega)) (y_bdp (p_n (k := 1) (lo := 33) (hi := 126) (by omega)) (y_bdp (p_n (k := 2) (lo := 33) (hi := 126) (by omega)) (y_bdp (p_n (k := 3) (lo := 33) (hi := 126) (by omega)) (y_bdp (p_n (k := 4) (lo := 1) (hi := 32) (by omega)) (trivial)))))))))))))))))))))))))))
                        · by_cases n7 : p_N xs 7 = 0
                          · exact z_useP q_p64 hk (y_bdp (p_v1 (k := 0) r0) (y_bdp (p_v1 (k := 1) r1) (y_bdp (p_v1 (k := 2) r2) (y_bdp (p_v1 (k := 3) r3) (y_bdp (p_v1 (k := 4) r4) (y_bdp (p_a1 (k := 0) (by omega)) (y_bdp (p_a1 (k := 1) (by omega)) (y_bdp (p_a1 (k := 2) (by omega)) (y_bdp (p_a1 (k := 3) (by omega)) (y_bdp (p_a0 (k := 4) (by omega)) (y_bdp (p_b0 (k := 0) (by omega)) (y_bdp (p_b0 (k := 1) (by omega)) (y_bdp (p_b0 (k := 2) (by omega)) (y_bdp (p_b0 (k := 3) (by omega)) (y_bdp (p_z1 (k := 0) (by omega)) (y_bdp (p_z1 (k := 1) (by omega)) (y_bdp (p_z1 (k := 2) (by omega)) (y_bdp (p_z1 (k := 3) (by omega)) (y_bdp (p_z1 (k := 4) (by omega)) (y_bdp (p_z1 (k := 5) (by omega)) (y_bdp (p_z1 (k := 6) (by omega)) (y_bdp (p_z0 (k := 7) (by omega)) (y_bdp (p_n (k := 0) (lo := 33) (hi := 126) (by omega)) (y_bdp (p_n (k := 1) (lo := 33) (hi := 126) (by omega)) (y_bdp (p_n (k := 2) (lo := 33) (hi := 126) (by omega)) (y_bdp (p_n (k := 3) (lo := 33) (hi := 126) (by omega)) (y_bdp (p_n (k := 4) (lo := 1) (hi := 32) (by omega)) (trivial))))))))))))))))))))))))))))
                          · exact z_useP q_p65 hk (y_bdp (p_v1 (k := 0) r0) (y_bdp (p_v1 (k := 1) r1) (y_bdp (p_v1 (k := 2) r2) (y_bdp (p_v1 (k := 3) r3) (y_bdp (p_v1 (k := 4) r4) (y_bdp (p_a1 (k := 0) (by omega)) (y_bdp (p_a1 (k := 1) (by omega)) (y_bdp (p_a1 (k := 2) (by omega)) (y_bdp (p_a1 (k := 3) (by omega)) (y_bdp (p_a0 (k := 4) (by omega)) (y_bdp (p_b0 (k := 0) (by omega)) (y_bdp (p_b0 (k := 1) (by omega)) (y_bdp (p_b0 (k := 2) (by omega)) (y_bdp (p_b0 (k := 3) (by omega)) (y_bdp (p_z1 (k := 0) (by omega)) (y_bdp (p_z1 (k := 1) (by omega)) (y_bdp (p_z1 (k := 2) (by omega)) (y_bdp (p_z1 (k := 3) (by omega)) (y_bdp (p_z1 (k := 4) (by omega)) (y_bdp (p_z1 (k := 5) (by omega)) (y_bdp (p_z1 (k := 6) (by omega)) (y_bdp (p_z1 (k := 7) (by omega)) (y_bdp (p_n (k := 0) (lo := 33) (hi := 126) (by omega)) (y_bdp (p_n (k := 1) (lo := 33) (hi := 126) (by omega)) (y_bdp (p_n (k := 2) (lo := 33) (hi := 126) (by omega)) (y_bdp (p_n (k := 3) (lo := 33) (hi := 126) (by omega)) (y_bdp (p_n (k := 4) (lo := 1) (hi := 32) (by omega)) (trivial))))))))))))))))))))))))))))
                    · by_cases n5 : p_N xs 5 = 0
                      · exact z_useP q_p66 hk (y_bdp (p_v1 (k := 0) r0) (y_bdp (p_v1 (k := 1) r1) (y_bdp (p_v1 (k := 2) r2) (y_bdp (p_v1 (k := 3) r3) (y_bdp (p_v1 (k := 4) r4) (y_bdp (p_a1 (k := 0) (by omega)) (y_bdp (p_a1 (k := 1) (by omega)) (y_bdp (p_a1 (k := 2) (by omega)) (y_bdp (p_a1 (k := 3) (by omega)) (y_bdp (p_a1 (k := 4) (by omega)) (y_bdp (p_b0 (k := 0) (by omega)) (y_bdp (p_b0 (k := 1) (by omega)) (y_bdp (p_b0 (k := 2) (by omega)) (y_bdp (p_b0 (k := 3) (by omega)) (y_bdp (p_b1 (k := 4) (by omega)) (y_bdp (p_z1 (k := 0) (by omega)) (y_bdp (p_z1 (k := 1) (by omega)) (y_bdp (p_z1 (k := 2) (by omega)) (y_bdp (p_z1 (k := 3) (by omega)) (y_bdp (p_z1 (k := 4) (by omega)) (y_bdp (p_z0 (k := 5) (by omega)) (y_bdp (p_n (k := 0) (lo := 33) (hi := 126) (by omega)) (y_bdp (p_n (k := 1) (lo := 33) (hi := 126) (by omega)) (y_bdp (p_n (k := 2) (lo := 33) (hi := 126) (by omega)) (y_bdp (p_n (k := 3) (lo := 33) (hi := 126) (by omega)) (y_bdp (p_n (k := 4) (lo := 127) (hi := 255) (by omega)) (trivial)))))))))))))))))))))))))))
                      · by_cases n6 : p_N xs 6 = 0
                        · exact z_useP q_p67 hk (y_bdp (p_v1 (k := 0) r0) (y_bdp (p_v1 (k := 1) r1) (y_bdp (p_v1 (k := 2) r2) (y_bdp (p_v1 (k := 3) r3) (y_bdp (p_v1 (k := 4) r4) (y_bdp (p_a1 (k := 0) (by omega)) (y_bdp (p_a1 (k := 1) (by omega)) (y_bdp (p_a1 (k := 2) (by omega)) (y_bdp (p_a1 (k := 3) (by omega)) (y_bdp (p_a1 (k := 4) (by omega)) (y_bdp (p_b0 (k := 0) (by omega)) (y_bdp (p_b0 (k := 1) (by omega)) (y_bdp (p_b0 (k := 2) (by omega)) (y_bdp (p_b0 (k := 3) (by omega)) (y_bdp (p_b1 (k := 4) (by omega)) (y_bdp (p_z1 (k := 0) (by omega)) (y_bdp (p_z1 (k := 1) (by omega)) (y_bdp (p_z1 (k := 2) (by omega)) (y_bdp (p_z1 (k := 3) (by omega)) (y_bdp (p_z1 (k := 4) (by omega)) (y_bdp (p_z1 (k := 5) (by omega)) (y_bdp (p_z0 (k := 6) (by omega)) (y_bdp (p_n (k := 0) (lo := 33) (hi := 126) (by omega)) (y_bdp (p_n (k := 1) (lo := 33) (hi := 126) (by omega)) (y_bdp (p_n (k := 2) (lo := 33) (hi := 126) (by omega)) (y_bdp (p_n (k := 3) (lo := 33) (hi := 126) (by omega)) (y_bdp (p_n (k := 4) (lo := 127) (hi := 255) (by omega)) (trivial))))))))))))))))))))))))))))
                        · by_cases n7 : p_N xs 7 = 0
                          · exact z_useP q_p68 hk (y_bdp (p_v1 (k := 0) r0) (y_bdp (p_v1 (k := 1) r1) (y_bdp (p_v1 (k := 2) r2) (y_bdp (p_v1 (k := 3) r3) (y_bdp (p_v1 (k := 4) r4) (y_bdp (p_a1 (k := 0) (by omega)) (y_bdp (p_a1 (k := 1) (by omega)) (y_bdp (p_a1 (k := 2) (by omega)) (y_bdp (p_a1 (k := 3) (by omega)) (y_bdp (p_a1 (k := 4) (by omega)) (y_bdp (p_b0 (k := 0) (by omega)) (y_bdp (p_b0 (k := 1) (by omega)) (y_bdp (p_b0 (k := 2) (by omega)) (y_bdp (p_b0 (k := 3) (by omega)) (y_bdp (p_b1 (k := 4) (by omega)) (y_bdp (p_z1 (k := 0) (by omega)) (y_bdp (p_z1 (k := 1) (by omega)) (y_bdp (p_z1 (k := 2) (by omega)) (y_bdp (p_z1 (k := 3) (by omega)) (y_bdp (p_z1 (k := 4) (by omega)) (y_bdp (p_z1 (k := 5) (by omega)) (y_bdp (p_z1 (k := 6) (by omega)) (y_bdp (p_z0 (k := 7) (by omega)) (y_bdp (p_n (k := 0) (lo := 33) (hi := 126) (by omega)) (y_bdp (p_n (k := 1) (lo := 33) (hi := 126) (by omega)) (y_bdp (p_n (k := 2) (lo := 33) (hi := 126) (by omega)) (y_bdp (p_n (k := 3) (lo := 33) (hi := 126) (by omega)) (y_bdp (p_n (k := 4) (lo := 127) (hi := 255) (by omega)) (trivial)))))))))))))))))))))))))))))
                          · exact z_useP q_p69 hk (y_bdp (p_v1 (k := 0) r0) (y_bdp (p_v1 (k := 1) r1) (y_bdp (p_v1 (k := 2) r2) (y_bdp (p_v1 (k := 3) r3) (y_bdp (p_v1 (k := 4) r4) (y_bdp (p_a1 (k := 0) (by omega)) (y_bdp (p_a1 (k := 1) (by omega)) (y_bdp (p_a1 (k := 2) (by omega)) (y_bdp (p_a1 (k := 3) (by omega)) (y_bdp (p_a1 (k := 4) (by omega)) (y_bdp (p_b0 (k := 0) (by omega)) (y_bdp (p_b0 (k := 1) (by omega)) (y_bdp (p_b0 (k := 2) (by omega)) (y_bdp (p_b0 (k := 3) (by omega)) (y_bdp (p_b1 (k := 4) (by omega)) (y_bdp (p_z1 (k := 0) (by omega)) (y_bdp (p_z1 (k := 1) (by omega)) (y_bdp (p_z1 (k := 2) (by omega)) (y_bdp (p_z1 (k := 3) (by omega)) (y_bdp (p_z1 (k := 4) (by omega)) (y_bdp (p_z1 (k := 5) (by omega)) (y_bdp (p_z1 (k := 6) (by omega)) (y_bdp (p_z1 (k := 7) (by omega)) (y_bdp (p_n (k := 0) (lo := 33) (hi := 126) (by omega)) (y_bdp (p_n (k := 1) (lo := 33) (hi := 126) (by omega)) (y_bdp (p_n (k := 2) (lo := 33) (hi := 126) (by omega)) (y_bdp (p_n (k := 3) (lo := 33) (hi := 126) (by omega)) (y_bdp (p_n (k := 4) (lo := 127) (hi := 255) (by omega)) (trivial)))))))))))))))))))))))))))))
                    · by_cases r5 : p_R xs 5 = 0
                      · have n5 := p_N0 r5
                        exact z_useP q_p70 hk (y_bdp (p_v1 (k := 0) r0) (y_bdp (p_v1 (k := 1) r1) (y_bdp (p_v1 (k := 2) r2) (y_bdp (p_v1 (k := 3) r3) (y_bdp (p_v1 (k := 4) r4) (y_bdp (p_v0 (k := 5) r5) (y_bdp (p_a1 (k := 0) (by omega)) (y_bdp (p_a1 (k := 1) (by omega)) (y_bdp (p_a1 (k := 2) (by omega)) (y_bdp (p_a1 (k := 3) (by omega)) (y_bdp (p_a1 (k := 4) (by omega)) (y_bdp (p_b0 (k := 0) (by omega)) (y_bdp (p_b0 (k := 1) (by omega)) (y_bdp (p_b0 (k := 2) (by omega)) (y_bdp (p_b0 (k := 3) (by omega)) (y_bdp (p_b0 (k := 4) (by omega)) (y_bdp (p_z1 (k := 0) (by omega)) (y_bdp (p_z1 (k := 1) (by omega)) (y_bdp (p_z1 (k := 2) (by omega)) (y_bdp (p_z1 (k := 3) (by omega)) (y_bdp (p_z1 (k := 4) (by omega)) (y_bdp (p_z0 (k := 5) (by omega)) (y_bdp (p_n (k := 0) (lo := 33) (hi := 126) (by omega)) (y_bdp (p_n (k := 1) (lo := 33) (hi := 126) (by omega)) (y_bdp (p_n (k := 2) (lo := 33) (hi := 126) (by omega)) (y_bdp (p_n (k := 3) (lo := 33) (hi := 126) (by omega)) (y_bdp (p_n (k := 4) (lo := 33) (hi := 126) (by omega)) (trivial))))))))))))))))))))))))))))
                      · rcases p_split xs 5 with n5 | n5 | n5 | n5
                        · exact z_useP q_p71 hk (y_bdp (p_v1 (k := 0) r0) (y_bdp (p_v1 (k := 1) r1) (y_bdp (p_v1 (k := 2) r2) (y_bdp (p_v1 (k := 3) r3) (y_bdp (p_v1 (k := 4) r4) (y_bdp (p_v1 (k := 5) r5) (y_bdp (p_a1 (k := 0) (by omega)) (y_bdp (p_a1 (k := 1) (by omega)) (y_bdp (p_a1 (k := 2) (by omega)) (y_bdp (p_a1 (k := 3) (by omega)) (y_bdp (p_a1 (k := 4) (by omega)) (y_bdp (p_a0 (k := 5) (by omega)) (y_bdp (p_b0 (k := 0) (by omega)) (y_bdp (p_b0 (k := 1) (by omega)) (y_bdp (p_b0 (k := 2) (by omega)) (y_bdp (p_b0 (k := 3) (by omega)) (y_bdp (p_b0 (k := 4) (by omega)) (y_bdp (p_z1 (k := 0) (by omega)) (y_bdp (p_z1 (k := 1) (by omega)) (y_bdp (p_z1 (k := 2) (by omega)) (y_bdp (p_z1 (k := 3) (by omega)) (y_bdp (p_z1 (k := 4) (by omega)) (y_bdp (p_z0 (k := 5) (by omega)) (y_bdp (p_n (k := 0) (lo := 33) (hi := 126) (by omega)) (y_bdp (p_n (k := 1) (lo := 33) (hi := 126) (by omega)) (y_bdp (p_n (k := 2) (lo := 33) (hi := 126) (by omega)) (y_bdp (p_n (k := 3) (lo := 33) (hi := 126) (by omega)) (y_bdp (p_n (k := 4) (lo := 33) (hi := 126) (by omega)) (trivial)))))))))))))))))))))))))))))
                        · by_cases n6 : p_N xs 6 = 0
                          · exact z_useP q_p72 hk (y_bdp (p_v1 (k := 0) r0) (y_bdp (p_v1 (k := 1) r1) (y_bdp (p_v1 (k := 2) r2) (y_bdp (p_v1 (k := 3) r3) (y_bdp (p_v1 (k := 4) r4) (y_bdp (p_v1 (k := 5) r5) (y_bdp (p_a1 (k := 0) (by omega)) (y_bdp (p_a1 (k := 1) (by omega)) (y_bdp (p_a1 (k := 2) (by omega)) (y_bdp (p_a1 (k := 3) (by omega)) (y_bdp (p_a1 (k := 4) (by omega)) (y_bdp (p_a0 (k := 5) (by omega)) (y_bdp (p_b0 (k := 0) (by omega)) (y_bdp (p_b0 (k := 1) (by omega)) (y_bdp (p_b0 (k := 2) (by omega)) (y_bdp (p_b0 (k := 3) (by omega)) (y_bdp (p_b0 (k := 4) (by omega)) (y_bdp (p_z1 (k := 0) (by omega)) (y_bdp (p_z1 (k := 1) (by omega)) (y_bdp (p_z1 (k := 2) (by omega)) (y_bdp (p_z1 (k := 3) (by omega)) (y_bdp (p_z1 (k := 4) (by omega)) (y_bdp (p_z1 (k := 5) (by omega)) (y_bdp (p_z0 (k := 6) (by omega)) (y_bdp (p_n (k := 0) (lo := 33) (hi := 126) (by omega)) (y_bdp (p_n (k := 1) (lo := 33) (hi := 126) (by omega)) (y_bdp (p_n (k := 2) (lo := 33) (hi := 126) (by omega)) (y_bdp (p_n (k := 3) (lo := 33) (hi := 126) (by omega)) (y_bdp (p_n (k := 4) (lo := 33) (hi := 126) (by omega)) (y_bdp (p_n (k := 5) (lo := 1) (hi := 32) (by omega)) (trivial)))))))))))))))))))))))))))))))
                          · by_cases n7 : p_N xs 7 = 0
                            · exact z_useP q_p73 hk (y_bdp (p_v1 (k := 0) r0) (y_bdp (p_v1 (k := 1) r1) (y_bdp (p_v1 (k := 2) r2) (y_bdp (p_v1 (k := 3) r3) (y_bdp (p_v1 (k := 4) r4) (y_bdp (p_v1 (k := 5) r5) (y_bdp (p_a1 (k := 0) (by omega)) (y_bdp (p_a1 (k := 1) (by omega)) (y_bdp (p_a1 (k := 2) (by omega)) (y_bdp (p_a1 (k := 3) (by omega)) (y_bdp (p_a1 (k := 4) (by omega)) (y_bdp (p_a0 (k := 5) (by omega)) (y_bdp (p_b0 (k := 0) (by omega)) (y_bdp (p_b0 (k := 1) (by omega)) (y_bdp (p_b0 (k := 2) (by omega)) (y_bdp (p_b0 (k := 3) (by omega)) (y_bdp (p_b0 (k := 4) (by omega)) (y_bdp (p_z1 (k := 0) (by omega)) (y_bdp (p_z1 (k := 1) (by omega)) (y_bdp (p_z1 (k := 2) (by omega)) (y_bdp (p_z1 (k := 3) (by omega)) (y_bdp (p_z1 (k := 4) (by omega)) (y_bdp (p_z1 (k := 5) (by omega)) (y_bdp (p_z1 (k := 6) (by omega)) (y_bdp (p_z0 (k := 7) (by omega)) (y_bdp (p_n (k := 0) (lo := 33) (hi := 126) (by omega)) (y_bdp (p_n (k := 1) (lo := 33) (hi := 126) (by omega)) (y_bdp (p_n (k := 2) (lo := 33) (hi := 126) (by omega)) (y_bdp (p_n (k := 3) (lo := 33) (hi := 126) (by omega)) (y_bdp (p_n (k := 4) (lo := 33) (hi := 126) (by omega)) (y_bdp (p_n (k := 5) (lo := 1) (hi := 32) (by omega)) (trivial))))))))))))))))))))))))))))))))
                            · exact z_useP q_p74 hk (y_bdp (p_v1 (k := 0) r0) (y_bdp (p_v1 (k := 1) r1) (y_bdp (p_v1 (k := 2) r2) (y_bdp (p_v1 (k := 3) r3) (y_bdp (p_v1 (k := 4) r4) (y_bdp (p_v1 (k := 5) r5) (y_bdp (p_a1 (k := 0) (by omega)) (y_bdp (p_a1 (k := 1) (by omega)) (y_bdp (p_a1 (k := 2) (by omega)) (y_bdp (p_a1 (k := 3) (by omega)) (y_bdp (p_a1 (k := 4) (by omega)) (y_bdp (p_a0 (k := 5) (by omega)) (y_bdp (p_b0 (k := 0) (by omega)) (y_bdp (p_b0 (k := 1) (by omega)) (y_bdp (p_b0 (k := 2) (by omega)) (y_bdp (p_b0 (k := 3) (by omega)) (y_bdp (p_b0 (k := 4) (by omega)) (y_bdp (p_z1 (k := 0) (by omega)) (y_bdp (p_z1 (k := 1) (by omega)) (y_bdp (p_z1 (k := 2) (by omega)) (y_bdp (p_z1 (k := 3) (by omega)) (y_bdp (p_z1 (k := 4) (by omega)) (y_bdp (p_z1 (k := 5) (by omega)) (y_bdp (p_z1 (k := 6) (by omega)) (y_bdp (p_z1 (k := 7) (by omega)) (y_bdp (p_n (k := 0) (lo := 33) (hi := 126) (by omega)) (y_bdp (p_n (k := 1) (lo := 33) (hi := 126) (by omega)) (y_bdp (p_n (k := 2) (lo := 33) (hi := 126) (by omega)) (y_bdp (p_n (k := 3) (lo := 33) (hi := 126) (by omega)) (y_bdp (p_n (k := 4) (lo := 33) (hi := 126) (by omega)) (y_bdp (p_n (k := 5) (lo := 1) (hi := 32) (by omega)) (trivial))))))))))))))))))))))))))))))))
                        · by_cases n6 : p_N xs 6 = 0
                          · exact z_useP q_p75 hk (y_bdp (p_v1 (k := 0) r0) (y_bdp (p_v1 (k := 1) r1) (y_bdp (p_v1 (k := 2) r2) (y_bdp (p_v1 (k := 3) r3) (y_bdp (p_v1 (k := 4) r4) (y_bdp (p_v1 (k := 5) r5) (y_bdp (p_a1 (k := 0) (by omega)) (y_bdp (p_a1 (k := 1) (by omega)) (y_bdp (p_a1 (k := 2) (by omega)) (y_bdp (p_a1 (k := 3) (by omega)) (y_bdp (p_a1 (k := 4) (by omega)) (y_bdp (p_a1 (k := 5) (by omega)) (y_bdp (p_b0 (k := 0) (by omega)) (y_bdp (p_b0 (k := 1) (by omega)) (y_bdp (p_b0 (k := 2) (by omega)) (y_bdp (p_b0 (k := 3) (by omega)) (y_bdp (p_b0 (k := 4) (by omega)) (y_bdp (p_b1 (k := 5) (by omega)) (y_bdp (p_z1 (k := 0) (by omega)) (y_bdp (p_z1 (k := 1) (by omega)) (y_bdp (p_z1 (k := 2) (by omega)) (y_bdp (p_z1 (k := 3) (by omega)) (y_bdp (p_z1 (k := 4) (by omega)) (y_bdp (p_z1 (k := 5) (by omega)) (y_bdp (p_z0 (k := 6) (by omega)) (y_bdp (p_n (k := 0) (lo := 33) (hi := 126) (by omega)) (y_bdp (p_n (k := 1) (lo := 33) (hi := 126) (by omega)) (y_bdp (p_n (k := 2) (lo := 33) (hi := 126) (by omega)) (y_bdp (p_n (k := 3) (lo := 33) (hi := 126) (by omega)) (y_bdp (p_n (k := 4) (lo := 33) (hi := 126) (by omega)) (y_bdp (p_n (k := 5) (lo := 127) (hi := 255) (by omega)) (trivial))))))))))))))))))))))))))))))))
                          · by_cases n7 : p_N xs 7 = 0
                            · exact z_useP q_p76 hk (y_bdp (p_v1 (k := 0) r0) (y_bdp (p_v1 (k := 1) r1) (y_bdp (p_v1 (k := 2) r2) (y_bdp (p_v1 (k := 3) r3) (y_bdp (p_v1 (k := 4) r4) (y_bdp (p_v1 (k := 5) r5) (y_bdp (p_a1 (k := 0) (by omega)) (y_bdp (p_a1 (k := 1) (by omega)) (y_bdp (p_a1 (k := 2) (by omega)) (y_bdp (p_a1 (k := 3) (by omega)) (y_bdp (p_a1 (k := 4) (by omega)) (y_bdp (p_a1 (k := 5) (by omega)) (y_bdp (p_b0 (k := 0) (by omega)) (y_bdp (p_b0 (k := 1) (by omega)) (y_bdp (p_b0 (k := 2) (by omega)) (y_bdp (p_b0 (k := 3) (by omega)) (y_bdp (p_b0 (k := 4) (by omega)) (y_bdp (p_b1 (k := 5) (by omega)) (y_bdp (p_z1 (k := 0) (by omega)) (y_bdp (p_z1 (k := 1) (by omega)) (y_bdp (p_z1 (k := 2) (by omega)) (y_bdp (p_z1 (k := 3) (by omega)) (y_bdp (p_z1 (k := 4) (by omega)) (y_bdp (p_z1 (k := 5) (by omega)) (y_bdp (p_z1 (k := 6) (by omega)) (y_bdp (p_z0 (k := 7) (by omega)) (y_bdp (p_n (k := 0) (lo := 33) (hi := 126) (by omega)) (y_bdp (p_n (k := 1) (lo := 33) (hi := 126) (by omega)) (y_bdp (p_n (k := 2) (lo := 33) (hi := 126) (by omega)) (y_bdp (p_n (k := 3) (lo := 33) (hi := 126) (by omega)) (y_bdp (p_n (k := 4) (lo := 33) (hi := 126) (by omega)) (y_bdp (p_n (k := 5) (lo := 127) (hi := 255) (by omega)) (trivial)))))))))))))))))))))))))))))))))
                            · exact z_useP q_p77 hk (y_bdp (p_v1 (k := 0) r0) (y_bdp (p_v1 (k := 1) r1) (y_bdp (p_v1 (k := 2) r2) (y_bdp (p_v1 (k := 3) r3) (y_bdp (p_v1 (k := 4) r4) (y_bdp (p_v1 (k := 5) r5) (y_bdp (p_a1 (k := 0) (by omega)) (y_bdp (p_a1 (k := 1) (by omega)) (y_bdp (p_a1 (k := 2) (by omega)) (y_bdp (p_a1 (k := 3) (by omega)) (y_bdp (p_a1 (k := 4) (by omega)) (y_bdp (p_a1 (k := 5) (by omega)) (y_bdp (p_b0 (k := 0) (by omega)) (y_bdp (p_b0 (k := 1) (by omega)) (y_bdp (p_b0 (k := 2) (by omega)) (y_bdp (p_b0 (k := 3) (by omega)) (y_bdp (p_b0 (k := 4) (by omega)) (y_bdp (p_b1 (k := 5) (by omega)) (y_bdp (p_z1 (k := 0) (by omega)) (y_bdp (p_z1 (k := 1) (by omega)) (y_bdp (p_z1 (k := 2) (by omega)) (y_bdp (p_z1 (k := 3) (by omega)) (y_bdp (p_z1 (k := 4) (by omega)) (y_bdp (p_z1 (k := 5) (by omega)) (y_bdp (p_z1 (k := 6) (by omega)) (y_bdp (p_z1 (k := 7) (by omega)) (y_bdp (p_n (k := 0) (lo := 33) (hi := 126) (by omega)) (y_bdp (p_n (k := 1) (lo := 33) (hi := 126) (by omega)) (y_bdp (p_n (k := 2) (lo := 33) (hi := 126) (by omega)) (y_bdp (p_n (k := 3) (lo := 33) (hi := 126) (by omega)) (y_bdp (p_n (k := 4) (lo := 33) (hi := 126) (by omega)) (y_bdp (p_n (k := 5) (lo := 127) (hi := 255) (by omega)) (trivial)))))))))))))))))))))))))))))))))
                        · by_cases r6 : p_R xs 6 = 0
                          · have n6 := p_N0 r6
                            exact z_useP q_p78 hk (y_bdp (p_v1 (k := 0) r0) (y_bdp (p_v1 (k := 1) r1) (y_bdp (p_v1 (k := 2) r2) (y_bdp (p_v1 (k := 3) r3) (y_bdp (p_v1 (k := 4) r4) (y_bdp (p_v1 (k := 5) r5) (y_bdp (p_v0 (k := 6) r6) (y_bdp (p_a1 (k := 0) (by omega)) (y_bdp (p_a1 (k := 1) (by omega)) (y_bdp (p_a1 (k := 2) (by omega)) (y_bdp (p_a1 (k := 3) (by omega)) (y_bdp (p_a1 (k := 4) (by omega)) (y_bdp (p_a1 (k := 5) (by omega)) (y_bdp (p_b0 (k := 0) (by omega)) (y_bdp (p_b0 (k := 1) (by omega)) (y_bdp (p_b0 (k := 2) (by omega)) (y_bdp (p_b0 (k := 3) (by omega)) (y_bdp (p_b0 (k := 4) (by omega)) (y_bdp (p_b0 (k := 5) (by omega)) (y_bdp (p_z1 (k := 0) (by omega)) (y_bdp (p_z1 (k := 1) (by omega)) (y_bdp (p_z1 (k := 2) (by omega)) (y_bdp (p_z1 (k := 3) (by omega)) (y_bdp (p_z1 (k := 4) (by omega)) (y_bdp (p_z1 (k := 5) (by omega)) (y_bdp (p_z0 (k := 6) (by omega)) (y_bdp (p_n (k := 0) (lo := 33) (hi := 126) (by omega)) (y_bdp (p_n (k := 1) (lo := 33) (hi := 126) (by omega)) (y_bdp (p_n (k := 2) (lo := 33) (hi := 126) (by omega)) (y_bdp (p_n (k := 3) (lo := 33) (hi := 126) (by omega)) (y_bdp (p_n (k := 4) (lo := 33) (hi := 126) (by omega)) (y_bdp (p_n (k := 5) (lo := 33) (hi := 126) (by omega)) (trivial)))))))))))))))))))))))))))))))))
                          · rcases p_split xs 6 with n6 | n6 | n6 | n6
                            · exact z_useP q_p79 hk (y_bdp (p_v1 (k := 0) r0) (y_bdp (p_v1 (k := 1) r1) (y_bdp (p_v1 (k := 2) r2) (y_bdp (p_v1 (k := 3) r3) (y_bdp (p_v1 (k := 4) r4) (y_bdp (p_v1 (k := 5) r5) (y_bdp (p_v1 (k := 6) r6) (y_bdp (p_a1 (k := 0) (by omega)) (y_bdp (p_a1 (k := 1) (by omega)) (y_bdp (p_a1 (k := 2) (by omega)) (y_bdp (p_a1 (k := 3) (by omega)) (y_bdp (p_a1 (k := 4) (by omega)) (y_bdp (p_a1 (k := 5) (by omega)) (y_bdp (p_a0 (k := 6) (by omega)) (y_bdp (p_b0 (k := 0) (by omega)) (y_bdp (p_b0 (k := 1) (by omega)) (y_bdp (p_b0 (k := 2) (by omega)) (y_bdp (p_b0 (k := 3) (by omega)) (y_bdp (p_b0 (k := 4) (by omega)) (y_bdp (p_b0 (k := 5) (by omega)) (y_bdp (p_z1 (k := 0) (by omega)) (y_bdp (p_z1 (k := 1) (by omega)) (y_bdp (p_z1 (k := 2) (by omega)) (y_bdp (p_z1 (k := 3) (by omega)) (y_bdp (p_z1 (k := 4) (by omega)) (y_bdp (p_z1 (k := 5) (by omega)) (y_bdp (p_z0 (k := 6) (by omega)) (y_bdp (p_n (k := 0) (lo := 33) (hi := 126) (by omega)) (y_bdp (p_n (k := 1) (lo := 33) (hi := 126) (by omega)) (y_bdp (p_n (k := 2) (lo := 33) (hi := 126) (by omega)) (y_bdp (p_n (k := 3) (lo := 33) (hi := 126) (by omega)) (y_bdp (p_n (k := 4) (lo := 33) (hi := 126) (by omega)) (y_bdp (p_n (k := 5) (lo := 33) (hi := 126) (by omega)) (trivial))))))))))))))))))))))))))))))))))
                            · by_cases n7 : p_N xs 7 = 0
                              · exact z_useP q_p80 hk (y_bdp (p_v1 (k := 0) r0) (y_bdp (p_v1 (k := 1) r1) (y_bdp (p_v1 (k := 2) r2) (y_bdp (p_v1 (k := 3) r3) (y_bdp (p_v1 (k := 4) r4) (y_bdp (p_v1 (k := 5) r5) (y_bdp (p_v1 (k := 6) r6) (y_bdp (p_a1 (k := 0) (by omega)) (y_bdp (p_a1 (k := 1) (by omega)) (y_bdp (p_a1 (k := 2) (by omega)) (y_bdp (p_a1 (k := 3) (by omega)) (y_bdp (p_a1 (k := 4) (by omega)) (y_bdp (p_a1 (k := 5) (by omega)) (y_bdp (p_a0 (k := 6) (by omega)) (y_bdp (p_b0 (k := 0) (by omega)) (y_bdp (p_b0 (k := 1) (by omega)) (y_bdp (p_b0 (k := 2) (by omega)) (y_bdp (p_b0 (k := 3) (by omega)) (y_bdp (p_b0 (k := 4) (by omega)) (y_bdp (p_b0 (k := 5) (by omega)) (y_bdp (p_z1 (k := 0) (by omega)) (y_bdp (p_z1 (k := 1) (by omega)) (y_bdp (p_z1 (k := 2) (by omega)) (y_bdp (p_z1 (k := 3) (by omega)) (y_bdp (p_z1 (k := 4) (by omega)) (y_bdp (p_z1 (k := 5) (by omega)) (y_bdp (p_z1 (k := 6) (by omega)) (y_bdp (p_z0 (k := 7) (by omega)) (y_bdp (p_n (k := 0) (lo := 33) (hi := 126) (by omega)) (y_bdp (p_n (k := 1) (lo := 33) (hi := 126) (by omega)) (y_bdp (p_n (k := 2) (lo := 33) (hi := 126) (by omega)) (y_bdp (p_n (k := 3) (lo := 33) (hi := 126) (by omega)) (y_bdp (p_n (k := 4) (lo := 33) (hi := 126) (by omega)) (y_bdp (p_n (k := 5) (lo := 33) (hi := 126) (by omega)) (y_bdp (p_n (k := 6) (lo := 1) (hi := 32) (by omega)) (trivial))))))))))))))))))))))))))))))))))))
                              · exact z_useP q_p81 hk (y_bdp (p_v1 (k := 0) r0) (y_bdp (p_v1 (k := 1) r1) (y_bdp (p_v1 (k := 2) r2) (y_bdp (p_v1 (k := 3) r3) (y_bdp (p_v1 (k := 4) r4) (y_bdp (p_v1 (k := 5) r5) (y_bdp (p_v1 (k := 6) r6) (y_bdp (p_a1 (k := 0) (by omega)) (y_bdp (p_a1 (k := 1) (by omega)) (y_bdp (p_a1 (k := 2) (by omega)) (y_bdp (p_a1 (k := 3) (by omega)) (y_bdp (p_a1 (k := 4) (by omega)) (y_bdp (p_a1 (k := 5) (by omega)) (y_bdp (p_a0 (k := 6) (by omega)) (y_bdp (p_b0 (k := 0) (by omega)) (y_bdp (p_b0 (k := 1) (by omega)) (y_bdp (p_b0 (k := 2) (by omega)) (y_bdp (p_b0 (k := 3) (by omega)) (y_bdp (p_b0 (k := 4) (by omega)) (y_bdp (p_b0 (k := 5) (by omega)) (y_bdp (p_z1 (k := 0) (by omega)) (y_bdp (p_z1 (k := 1) (by omega)) (y_bdp (p_z1 (k := 2) (by omega)) (y_bdp (p_z1 (k := 3) (by omega)) (y_bdp (p_z1 (k := 4) (by omega)) (y_bdp (p_z1 (k := 5) (by omega)) (y_bdp (p_z1 (k := 6) (by omega)) (y_bdp (p_z1 (k := 7) (by omega)) (y_bdp (p_n (k := 0) (lo := 33) (hi := 126) (by omega)) (y_bdp (p_n (k := 1) (lo := 33) (hi := 126) (by omega)) (y_bdp (p_n (k := 2) (lo := 33) (hi := 126) (by omega)) (y_bdp (p_n (k := 3) (lo := 33) (hi := 126) (by omega)) (y_bdp (p_n (k := 4) (lo := 33) (hi := 126) (by omega)) (y_bdp (p_n (k := 5) (lo := 33) (hi := 126) (by omega)) (y_bdp (p_n (k := 6) (lo := 1) (hi := 32) (by omega)) (trivial))))))))))))))))))))))))))))))))))))
                            · by_cases n7 : p_N xs 7 = 0
                              · exact z_useP q_p82 hk (y_bdp (p_v1 (k := 0) r0) (y_bdp (p_v1 (k := 1) r1) (y_bdp (p_v1 (k := 2) r2) (y_bdp (p_v1 (k := 3) r3) (y_bdp (p_v1 (k := 4) r4) (y_bdp (p_v1 (k := 5) r5) (y_bdp (p_v1 (k := 6) r6) (y_bdp (p_a1 (k := 0) (by omega)) (y_bdp (p_a1 (k := 1) (by omega)) (y_bdp (p_a1 (k := 2) (by omega)) (y_bdp (p_a1 (k := 3) (by omega)) (y_bdp (p_a1 (k := 4) (by omega)) (y_bdp (p_a1 (k := 5) (by omega)) (y_bdp (p_a1 (k := 6) (by omega)) (y_bdp (p_b0 (k := 0) (by omega)) (y_bdp (p_b0 (k := 1) (by omega)) (y_bdp (p_b0 (k := 2) (by omega)) (y_bdp (p_b0 (k := 3) (by omega)) (y_bdp (p_b0 (k := 4) (by omega)) (y_bdp (p_b0 (k := 5) (by omega)) (y_bdp (p_b1 (k := 6) (by omega)) (y_bdp (p_z1 (k := 0) (by omega)) (y_bdp (p_z1 (k := 1) (by omega)) (y_bdp (p_z1 (k := 2) (by omega)) (y_bdp (p_z1 (k := 3) (by omega)) (y_bdp (p_z1 (k := 4) (by omega)) (y_bdp (p_z1 (k := 5) (by omega)) (y_bdp (p_z1 (k := 6) (by omega)) (y_bdp (p_z0 (k := 7) (by omega)) (y_bdp (p_n (k := 0) (lo := 33) (hi := 126) (by omega)) (y_bdp (p_n (k := 1) (lo := 33) (hi := 126) (by omega)) (y_bdp (p_n (k := 2) (lo := 33) (hi := 126) (by omega)) (y_bdp (p_n (k := 3) (lo := 33) (hi := 126) (by omega)) (y_bdp (p_n (k := 4) (lo := 33) (hi := 126) (by omega)) (y_bdp (p_n (k := 5) (lo := 33) (hi := 126) (by omega)) (y_bdp (p_n (k := 6) (lo := 127) (hi := 255) (by omega)) (trivial)))))))))))))))))))))))))))))))))))))
                              · exact z_useP q_p83 hk (y_bdp (p_v1 (k := 0) r0) (y_bdp (p_v1 (k := 1) r1) (y_bdp (p_v1 (k := 2) r2) (y_bdp (p_v1 (k := 3) r3) (y_bdp (p_v1 (k := 4) r4) (y_bdp (p_v1 (k := 5) r5) (y_bdp (p_v1 (k := 6) r6) (y_bdp (p_a1 (k := 0) (by omega)) (y_bdp (p_a1 (k := 1) (by omega)) (y_bdp (p_a1 (k := 2) (by omega)) (y_bdp (p_a1 (k := 3) (by omega)) (y_bdp (p_a1 (k := 4) (by omega)) (y_bdp (p_a1 (k := 5) (by omega)) (y_bdp (p_a1 (k := 6) (by omega)) (y_bdp (p_b0 (k := 0) (by omega)) (y_bdp (p_b0 (k := 1) (by omega)) (y_bdp (p_b0 (k := 2) (by omega)) (y_bdp (p_b0 (k := 3) (by omega)) (y_bdp (p_b0 (k := 4) (by omega)) (y_bdp (p_b0 (k := 5) (by omega)) (y_bdp (p_b1 (k := 6) (by omega)) (y_bdp (p_z1 (k := 0) (by omega)) (y_bdp (p_z1 (k := 1) (by omega)) (y_bdp (p_z1 (k := 2) (by omega)) (y_bdp (p_z1 (k := 3) (by omega)) (y_bdp (p_z1 (k := 4) (by omega)) (y_bdp (p_z1 (k := 5) (by omega)) (y_bdp (p_z1 (k := 6) (by omega)) (y_bdp (p_z1 (k := 7) (by omega)) (y_bdp (p_n (k := 0) (lo := 33) (hi := 126) (by omega)) (y_bdp (p_n (k := 1) (lo := 33) (hi := 126) (by omega)) (y_bdp (p_n (k := 2) (lo := 33) (hi := 126) (by omega)) (y_bdp (p_n (k := 3) (lo := 33) (hi := 126) (by omega)) (y_bdp (p_n (k := 4) (lo := 33) (hi := 126) (by omega)) (y_bdp (p_n (k := 5) (lo := 33) (hi := 126) (by omega)) (y_bdp (p_n (k := 6) (lo := 127) (hi := 255) (by omega)) (trivial)))))))))))))))))))))))))))))))))))))
                            · by_cases r7 : p_R xs 7 = 0
                              · have n7 := p_N0 r7
                                exact z_useP q_p84 hk (y_bdp (p_v1 (k := 0) r0) (y_bdp (p_v1 (k := 1) r1) (y_bdp (p_v1 (k := 2) r2) (y_bdp (p_v1 (k := 3) r3) (y_bdp (p_v1 (k := 4) r4) (y_bdp (p_v1 (k := 5) r5) (y_bdp (p_v1 (k := 6) r6) (y_bdp (p_v0 (k := 7) r7) (y_bdp (p_a1 (k := 0) (by omega)) (y_bdp (p_a1 (k := 1) (by omega)) (y_bdp (p_a1 (k := 2) (by omega)) (y_bdp (p_a1 (k := 3) (by omega)) (y_bdp (p_a1 (k := 4) (by omega)) (y_bdp (p_a1 (k := 5) (by omega)) (y_bdp (p_a1 (k := 6) (by omega)) (y_bdp (p_b0 (k := 0) (by omega)) (y_bdp (p_b0 (k := 1) (by omega)) (y_bdp (p_b0 (k := 2) (by omega)) (y_bdp (p_b0 (k := 3) (by omega)) (y_bdp (p_b0 (k := 4) (by omega)) (y_bdp (p_b0 (k := 5) (by omega)) (y_bdp (p_b0 (k := 6) (by omega)) (y_bdp (p_z1 (k := 0) (by omega)) (y_bdp (p_z1 (k := 1) (by omega)) (y_bdp (p_z1 (k := 2) (by omega)) (y_bdp (p_z1 (k := 3) (by omega)) (y_bdp (p_z1 (k := 4) (by omega)) (y_bdp (p_z1 (k := 5) (by omega)) (y_bdp (p_z1 (k := 6) (by omega)) (y_bdp (p_z0 (k := 7) (by omega)) (y_bdp (p_n (k := 0) (lo := 33) (hi := 126) (by omega)) (y_bdp (p_n (k := 1) (lo := 33) (hi := 126) (by omega)) (y_bdp (p_n (k := 2) (lo := 33) (hi := 126) (by omega)) (y_bdp (p_n (k := 3) (lo := 33) (hi := 126) (by omega)) (y_bdp (p_n (k := 4) (lo := 33) (hi := 126) (by omega)) (y_bdp (p_n (k := 5) (lo := 33) (hi := 126) (by omega)) (y_bdp (p_n (k := 6) (lo := 33) (hi := 126) (by omega)) (trivial))))))))))))))))))))))))))))))))))))))
                              · rcases p_split xs 7 with n7 | n7 | n7 | n7
                                · exact z_useP q_p85 hk (y_bdp (p_v1 (k := 0) r0) (y_bdp (p_v1 (k := 1) r1) (y_bdp (p_v1 (k := 2) r2) (y_bdp (p_v1 (k := 3) r3) (y_bdp (p_v1 (k := 4) r4) (y_bdp (p_v1 (k := 5) r5) (y_bdp (p_v1 (k := 6) r6) (y_bdp (p_v1 (k := 7) r7) (y_bdp (p_a1 (k := 0) (by omega)) (y_bdp (p_a1 (k := 1) (by omega)) (y_bdp (p_a1 (k := 2) (by omega)) (y_bdp (p_a1 (k := 3) (by omega)) (y_bdp (p_a1 (k := 4) (by omega)) (y_bdp (p_a1 (k := 5) (by omega)) (y_bdp (p_a1 (k := 6) (by omega)) (y_bdp (p_a0 (k := 7) (by omega)) (y_bdp (p_b0 (k := 0) (by omega)) (y_bdp (p_b0 (k := 1) (by omega)) (y_bdp (p_b0 (k := 2) (by omega)) (y_bdp (p_b0 (k := 3) (by omega)) (y_bdp (p_b0 (k := 4) (by omega)) (y_bdp (p_b0 (k := 5) (by omega)) (y_bdp (p_b0 (k := 6) (by omega)) (y_bdp (p_z1 (k := 0) (by omega)) (y_bdp (p_z1 (k := 1) (by omega)) (y_bdp (p_z1 (k := 2) (by omega)) (y_bdp (p_z1 (k := 3) (by omega)) (y_bdp (p_z1 (k := 4) (by omega)) (y_bdp (p_z1 (k := 5) (by omega)) (y_bdp (p_z1 (k := 6) (by omega)) (y_bdp (p_z0 (k := 7) (by omega)) (y_bdp (p_n (k := 0) (lo := 33) (hi := 126) (by omega)) (y_bdp (p_n (k := 1) (lo := 33) (hi := 126) (by omega)) (y_bdp (p_n (k := 2) (lo := 33) (hi := 126) (by omega)) (y_bdp (p_n (k := 3) (lo := 33) (hi := 126) (by omega)) (y_bdp (p_n (k := 4) (lo := 33) (hi := 126) (by omega)) (y_bdp (p_n (k := 5) (lo := 33) (hi := 126) (by omega)) (y_bdp (p_n (k := 6) (lo := 33) (hi := 126) (by omega)) (trivial)))))))))))))))))))))))))))))))))))))))
                                · exact z_useP q_p86 hk (y_bdp (p_v1 (k := 0) r0) (y_bdp (p_v1 (k := 1) r1) (y_bdp (p_v1 (k := 2) r2) (y_bdp (p_v1 (k := 3) r3) (y_bdp (p_v1 (k := 4) r4) (y_bdp (p_v1 (k := 5) r5) (y_bdp (p_v1 (k := 6) r6) (y_bdp (p_v1 (k := 7) r7) (y_bdp (p_a1 (k := 0) (by omega)) (y_bdp (p_a1 (k := 1) (by omega)) (y_bdp (p_a1 (k := 2) (by omega)) (y_bdp (p_a1 (k := 3) (by omega)) (y_bdp (p_a1 (k := 4) (by omega)) (y_bdp (p_a1 (k := 5) (by omega)) (y_bdp (p_a1 (k := 6) (by omega)) (y_bdp (p_a0 (k := 7) (by omega)) (y_bdp (p_b0 (k := 0) (by omega)) (y_bdp (p_b0 (k := 1) (by omega)) (y_bdp (p_b0 (k := 2) (by omega)) (y_bdp (p_b0 (k := 3) (by omega)) (y_bdp (p_b0 (k := 4) (by omega)) (y_bdp (p_b0 (k := 5) (by omega)) (y_bdp (p_b0 (k := 6) (by omega)) (y_bdp (p_z1 (k := 0) (by omega)) (y_bdp (p_z1 (k := 1) (by omega)) (y_bdp (p_z1 (k := 2) (by omega)) (y_bdp (p_z1 (k := 3) (by omega)) (y_bdp (p_z1 (k := 4) (by omega)) (y_bdp (p_z1 (k := 5) (by omega)) (y_bdp (p_z1 (k := 6) (by omega)) (y_bdp (p_z1 (k := 7) (by omega)) (y_bdp (p_n (k := 0) (lo := 33) (hi := 126) (by omega)) (y_bdp (p_n (k := 1) (lo := 33) (hi := 126) (by omega)) (y_bdp (p_n (k := 2) (lo := 33) (hi := 126) (by omega)) (y_bdp (p_n (k := 3) (lo := 33) (hi := 126) (by omega)) (y_bdp (p_n (k := 4) (lo := 33) (hi := 126) (by omega)) (y_bdp (p_n (k := 5) (lo := 33) (hi := 126) (by omega)) (y_bdp (p_n (k := 6) (lo := 33) (hi := 126) (by omega)) (y_bdp (p_n (k := 7) (lo := 1) (hi := 32) (by omega)) (trivial))))))))))))))))))))))))))))))))))))))))
                                · exact z_useP q_p87 hk (y_bdp (p_v1 (k := 0) r0) (y_bdp (p_v1 (k := 1) r1) (y_bdp (p_v1 (k := 2) r2) (y_bdp (p_v1 (k := 3) r3) (y_bdp (p_v1 (k := 4) r4) (y_bdp (p_v1 (k := 5) r5) (y_bdp (p_v1 (k := 6) r6) (y_bdp (p_v1 (k := 7) r7) (y_bdp (p_a1 (k := 0) (by omega)) (y_bdp (p_a1 (k := 1) (by omega)) (y_bdp (p_a1 (k := 2) (by omega)) (y_bdp (p_a1 (k := 3) (by omega)) (y_bdp (p_a1 (k := 4) (by omega)) (y_bdp (p_a1 (k := 5) (by omega)) (y_bdp (p_a1 (k := 6) (by omega)) (y_bdp (p_a1 (k := 7) (by omega)) (y_bdp (p_b0 (k := 0) (by omega)) (y_bdp (p_b0 (k := 1) (by omega)) (y_bdp (p_b0 (k := 2) (by omega)) (y_bdp (p_b0 (k := 3) (by omega)) (y_bdp (p_b0 (k := 4) (by omega)) (y_bdp (p_b0 (k := 5) (by omega)) (y_bdp (p_b0 (k := 6) (by omega)) (y_bdp (p_b1 (k := 7) (by omega)) (y_bdp (p_z1 (k := 0) (by omega)) (y_bdp (p_z1 (k := 1) (by omega)) (y_bdp (p_z1 (k := 2) (by omega)) (y_bdp (p_z1 (k := 3) (by omega)) (y_bdp (p_z1 (k := 4) (by omega)) (y_bdp (p_z1 (k := 5) (by omega)) (y_bdp (p_z1 (k := 6) (by omega)) (y_bdp (p_z1 (k := 7) (by omega)) (y_bdp (p_n (k := 0) (lo := 33) (hi := 126) (by omega)) (y_bdp (p_n (k := 1) (lo := 33) (hi := 126) (by omega)) (y_bdp (p_n (k := 2) (lo := 33) (hi := 126) (by omega)) (y_bdp (p_n (k := 3) (lo := 33) (hi := 126) (by omega)) (y_bdp (p_n (k := 4) (lo := 33) (hi := 126) (by omega)) (y_bdp (p_n (k := 5) (lo := 33) (hi := 126) (by omega)) (y_bdp (p_n (k := 6) (lo := 33) (hi := 126) (by omega)) (y_bdp (p_n (k := 7) (lo := 127) (hi := 255) (by omega)) (trivial)))))))))))))))))))))))))))))))))))))))))
                                · have r8 := p_R8 xs
                                  exact z_useP q_p88 hk (y_bdp (p_v1 (k := 0) r0) (y_bdp (p_v1 (k := 1) r1) (y_bdp (p_v1 (k := 2) r2) (y_bdp (p_v1 (k := 3) r3) (y_bdp (p_v1 (k := 4) r4) (y_bdp (p_v1 (k := 5) r5) (y_bdp (p_v1 (k := 6) r6) (y_bdp (p_v1 (k := 7) r7) (y_bdp (p_v0 (k := 8) r8) (y_bdp (p_a1 (k := 0) (by omega)) (y_bdp (p_a1 (k := 1) (by omega)) (y_bdp (p_a1 (k := 2) (by omega)) (y_bdp (p_a1 (k := 3) (by omega)) (y_bdp (p_a1 (k := 4) (by omega)) (y_bdp (p_a1 (k := 5) (by omega)) (y_bdp (p_a1 (k := 6) (by omega)) (y_bdp (p_a1 (k := 7) (by omega)) (y_bdp (p_b0 (k := 0) (by omega)) (y_bdp (p_b0 (k := 1) (by omega)) (y_bdp (p_b0 (k := 2) (by omega)) (y_bdp (p_b0 (k := 3) (by omega)) (y_bdp (p_b0 (k := 4) (by omega)) (y_bdp (p_b0 (k := 5) (by omega)) (y_bdp (p_b0 (k := 6) (by omega)) (y_bdp (p_b0 (k := 7) (by omega)) (y_bdp (p_z1 (k := 0) (by omega)) (y_bdp (p_z1 (k := 1) (by omega)) (y_bdp (p_z1 (k := 2) (by omega)) (y_bdp (p_z1 (k := 3) (by omega)) (y_bdp (p_z1 (k := 4) (by omega)) (y_bdp (p_z1 (k := 5) (by omega)) (y_bdp (p_z1 (k := 6) (by omega)) (y_bdp (p_z1 (k := 7) (by omega)) (y_bdp (p_n (k := 0) (lo := 33) (hi := 126) (by omega)) (y_bdp (p_n (k := 1) (lo := 33) (hi := 126) (by omega)) (y_bdp (p_n (k := 2) (lo := 33) (hi := 126) (by omega)) (y_bdp (p_n (k := 3) (lo := 33) (hi := 126) (by omega)) (y_bdp (p_n (k := 4) (lo := 33) (hi := 126) (by omega)) (y_bdp (p_n (k := 5) (lo := 33) (hi := 126) (by omega)) (y_bdp (p_n (k := 6) (lo := 33) (hi := 126) (by omega)) (y_bdp (p_n (k := 7) (lo := 33) (hi := 126) (by omega)) (trivial))))))))))))))))))))))))))))))))))))))))))
end
section
/-! THE CLAIM OUT OF ONE WALK OF THE LAW'S BODY. Your part is whole_start (and what it stands on); all else here is the same for every law, but numbers. -/
def R_law : String := "TokenNetsLaw"
def lw_P (b : Addr) (xs : List Int32) (args : Array Value) (s : State) : Prop := args = #[.ref b] ∧ s.IntsAt b xs ∧ xs.length ≤ 5 ∧ (Jvm.Cond.and given_1 narrow_1).before args s = true
/-- what a walk over the start with the record d0 says of its end, said of the start itself -/
theorem lw_closed {s t : State} {o : Outcome} {d0 : Drawn} {L : List Loc} {k n : Nat} (hd0 : s.drawn.sameBut d0 lw_cs) (hv : ∃ v, o = .returned v) (hW : (s.setDrawn d0).WarmedH t.vm) (hs : (s.setDrawn d0).sameButNew ({ t with vm := s.vm } : State) L k n) : State.butDraws s t lw_cs (fun t1 => Framed s o t1 L k n) := by
  have h2 : t.drawn = d0 := congrArg State.drawn hs.1
  refine ⟨⟨hv, hW, State.sameButNew.setDrawn hs s.drawn⟩, ?_, by decide⟩
  rw [h2]
  exact hd0
def lw_Q (_ : Array Value) (s : State) (o : Outcome) (t : State) : Prop := o = .returned (some (.int 1)) ∧ State.butDraws s t lw_cs (fun t1 => Framed s o t1 [] 600000 7302250)
def lw_Z (below : List Frame) (a : Array Value) (s : State) : State → Prop := fun t => ∃ o, t.status = .running ∧ Ended t below o ∧ lw_Q a s o t
/-- the law's own end, with 1 on the stack, nothing written that was there before, its room as the claim has it; d0: the record of draws at this point (at the entry s.drawn: begin with 'refine W.base ?_' and 'have hd0 := Drawn.sameBut.refl s.drawn lw_cs') -/
theorem lw_ret {p : Program} {l : Launch} {e : Env} {s : State} {m : MethodId} {below : List Frame} {meth : Method} {c : Code} {b : Nat} {d0 : Drawn} (hd0 : s.drawn.sameBut d0 lw_cs) (hx : p.tables.exec = Jvm.exec) (hb : c.code = code) (hr : meth.sig.returnType = ret) (hlocks : meth.locks = false) {pc : Nat} {H : Heap} {ls : Array Slot} (hdg : decode code pc = .ok (.ireturn, 1)) : W p l e room_1 (s.setDrawn d0) m #[Value.ref b] below meth c H [] 600000 7302250 (lw_Z below #[Value.ref b] s) (F0 m pc ls [.int 1]) := by
  intro T hT X
  obtain ⟨fs, hret, hrun, hended, hW, hframe⟩ := X.leave (v := some (.int 1)) (hlocks := hlocks) (fun h => by rw [hr] at h; cases h)
  have hmeth' : T.vm.method? m = some meth := X.method'
  refine ⟨T.setFrames fs, ?_, .returned (some (.int 1)), hrun, hended, rfl, lw_closed hd0 ⟨_, rfl⟩ hW hframe⟩
  jvm_step X.here [X.here.top, hx, hb, hdg, hmeth', hr, ret, narrow_b1]
  (try refine ⟨rfl, ?_⟩); (try refine ⟨rfl, ?_⟩)
  first | (intro acts; rw [hret _ acts rfl rfl rfl]) | rw [hret _ _ rfl rfl rfl]
  exact Steps.refl _
/-- what holds at the law's entry: the machine, the code, the tables' words (any of lw_tbl by 'hts w (by decide +kernel)'), the script of L ints xs at the cell b, what the Statement gives of the start (any of its parts by flat_of_before) -/
def lw_At (p : Program) (s : State) (m : MethodId) (meth : Method) (c : Code) (b L : Nat) (xs : Nat → Int32) : Prop :=
  p.tables.exec = Jvm.exec ∧ c.code = code ∧ meth.sig.returnType = ret ∧ c.maxLocals = 4 ∧ s.vm.findClass R_law = some m.cls ∧ (∀ w ∈ lw_tbl, w.before #[Value.ref b] s = true) ∧ va_X b L xs s s.heap ∧ b < s.heap.size ∧ meth.locks = false ∧ (Jvm.Cond.and given_1 narrow_1).before #[Value.ref b] s = true
theorem z_win {xs : Nat → Int32} {L : Nat} (hL : L ≤ 5) : z_Won xs L := by
  rcases (by omega : L = 0 ∨ L = 1 ∨ L = 2 ∨ L = 3 ∨ L = 4 ∨ L = 5) with rfl | rfl | rfl | rfl | rfl | rfl
  · exact fun b => ⟨xs, fun _ => 0, [], [], fun _ _ => rfl, fun q h => absurd h List.not_mem_nil, fun q h => absurd h List.not_mem_nil, q_L0⟩
  · exact fun b => ⟨xs, fun _ => 0, [], [], fun _ _ => rfl, fun q h => absurd h List.not_mem_nil, fun q h => absurd h List.not_mem_nil, q_L1⟩
  · exact fun b => ⟨xs, fun _ => 0, [], [], fun _ _ => rfl, fun q h => absurd h List.not_mem_nil, fun q h => absurd h List.not_mem_nil, q_L2⟩
  · exact fun b => ⟨xs, fun _ => 0, [], [], fun _ _ => rfl, fun q h => absurd h List.not_mem_nil, fun q h => absurd h List.not_mem_nil, q_L3⟩
  · exact fun b => ⟨xs, fun _ => 0, [], [], fun _ _ => rfl, fun q h => absurd h List.not_mem_nil, fun q h => absurd h List.not_mem_nil, q_L4⟩
  · obtain ⟨j, hj, hk⟩ := pk_andE (xs 0) (m := 31) 5 (by decide)
    rcases (by omega : j = 0 ∨ j = 1 ∨ j = 2 ∨ j = 3 ∨ j = 4 ∨ j = 5 ∨ j = 6 ∨ j = 7 ∨ j = 8 ∨ j = 9 ∨ j = 10 ∨ j = 11 ∨ j = 12 ∨ j = 13 ∨ j = 14 ∨ j = 15 ∨ j = 16 ∨ j = 17 ∨ j = 18 ∨ j = 19 ∨ j = 20 ∨ j = 21 ∨ j = 22 ∨ j = 23 ∨ j = 24 ∨ j = 25 ∨ j = 26 ∨ j = 27 ∨ j = 28 ∨ j = 29 ∨ j = 30 ∨ j = 31) with rfl | rfl | rfl | rfl | rfl | rfl | rfl | rfl | rfl | rfl | rfl | rfl | rfl | rfl | rfl | rfl | rfl | rfl | rfl | rfl | rfl | rfl | rfl | rfl | rfl | rfl | rfl | rfl | rfl | rfl | rfl | rfl
    · exact w_0 hk
    · exact w_1 hk
    · exact w_2 hk
    · exact w_3 hk
    · exact w_4 hk
    · exact w_5 hk
    · exact w_6 hk
    · exact w_7 hk
    · exact w_8 hk
    · exact w_9 hk
    · exact w_10 hk
    · exact w_11 hk
    · exact w_12 hk
    · exact w_13 hk
    · exact w_14 hk
    · exact w_15 hk
    · exact w_16 hk
    · exact w_17 hk
    · exact w_18 hk
    · exact w_19 hk
    · exact w_20 hk
    · exact w_21 hk
    · exact w_22 hk
    · exact w_23 hk
    · exact w_24 hk
    · exact w_25 hk
    · exact w_26 hk
    · exact w_27 hk
    · exact w_28 hk
    · exact w_29 hk
    · exact w_30 hk
    · exact w_31 hk

theorem z_inst : vwCl.all (fun r => yM (.instantiable r.1 r.2.2)) = true := by decide +kernel
theorem z_nest : ∀ q ∈ zN, Cond.methodLinkNest q.1 q.2.1 q.2.2.1 q.2.2.2 ∈ lw_tbl := by decide +kernel
theorem z_848 : decode code 848 = .ok (.ireturn, 1) := by decide +kernel
set_option maxRecDepth 100000 in
set_option maxHeartbeats 4000000 in
theorem whole_start {p : Program} {e : Env} {s : State} {m : MethodId} {below : List Frame} {meth : Method} {c : Code} (l : Launch) (hflags : l.flags = flags0) {b L : Nat} {xs : Nat → Int32} (hL : L ≤ 5) (C0 : lw_At p s m meth c b L xs) : W p l e room_1 s m #[Value.ref b] below meth c s.heap [] 0 0 (lw_Z below #[Value.ref b] s) (entryFrame m ([Value.ref b] : List Value).toArray 4) := by
  obtain ⟨hx, hb, hr, hml, hown, hts0, hX, hbl, hlocks, hgv⟩ := id C0
  have hts1 : ∀ w ∈ yCT, w.before #[Value.ref b] s = true := fun w h => hts0 w (List.mem_filter.mp h).1
  have hts := dr_words hts1 s.drawn
  have hd0 := Drawn.sameBut.refl s.drawn lw_cs
  obtain ⟨rh, la, hy, tb, hrh, hH, hT, hrun⟩ := z_win (xs := xs) hL b
  have hX : va_X b L rh s s.heap := by
    obtain ⟨scr, x1, x2, x3, x4, x5⟩ := hX
    exact ⟨scr, x1, x2, x3, x4, fun j hj => by rw [hrh j hj]; exact x5 j hj⟩
  unfold z_run y_won at hrun
  cases hgo : y_go z_mt L hy tb 12000 true 20 zL_law (z_st L) with
  | none => rw [hgo] at hrun; cases hrun
  | some S' =>
    rw [hgo] at hrun
    simp only [Bool.and_eq_true] at hrun
    obtain ⟨h1, h2, h3, h4⟩ := hrun
    have hk : ∀ k : Nat, ∃ (q : ClassId × (Nat → Nat)), ∀ r, vwCl[k]? = some r → u_Kn s r.1 r.2.1 r.2.2 q.1 q.2 := by
      intro k
      cases hk : vwCl[k]? with
      | none => exact ⟨(0, fun _ => 0), fun q h => by cases h⟩
      | some r =>
        have hi := List.all_eq_true.mp z_inst r (List.mem_of_getElem? hk)
        obtain ⟨cC, iS, h⟩ := u_known hts1 (y_cls_ok hk).1 (hts1 _ (yM_ok hi))
        exact ⟨(cC, iS), fun q' h' => by cases h'; exact h⟩
    obtain ⟨dd, hKc⟩ := Classical.skolem.mp hk
    refine W.base ?_
    have hl := lv_entry ([.ref b]) (n := 4) (Nat.le_of_ble_eq_true rfl)
    rw [lg_entry_eq]
    generalize (lg_sl ([.ref b]) ++ List.replicate (4 - (lg_sl ([.ref b])).length) Slot.unset).toArray = ls at hl ⊢
    have hl : lv_has ls 4 [(0, .ref b)] := hl
    have hAO : y_aux (s.setDrawn s.drawn) := ⟨va_AO.of (dr_words hts0 s.drawn (.arrayOver (.object RX3)) (by decide +kernel)), fun q hq => va_Nw.of rfl (dr_words hts0 s.drawn _ (z_nest q hq))⟩
    have C : y_ctx (rh, la, b, L) true p room_1 (s.setDrawn s.drawn) m #[Value.ref b] meth c zL_law.2.1 zL_law.1.cls zL_law.1.name zL_law.2.2.1 (fun q => s.heap.size ≤ q) :=
      ⟨hx, hb, hml, hown, hts, fun h => absurd h (by decide), hAO, fun _ h => h, by decide, by decide, fun _ => ⟨hX, hbl, Nat.not_le.mpr hbl⟩⟩
    have Z : y_Z (rh, la, b, L) (fun k => (dd k).1, fun k => (dd k).2) (fun q => s.heap.size ≤ q) (s.setDrawn s.drawn) zL_law.2.2.1 [] [] [] s.heap [] ls [(0, .ref b)] [] z_S0.2.1 z_S0.2.2.1 z_S0.2.2.2.1 :=
      ⟨⟨rfl, rfl, fun i c h => by cases h⟩, rfl, rfl, hl, fun k q h => by simp at h, ⟨fun k q h => hKc k q h, fun k q h => by simp at h⟩, ⟨fun i j p q h => by simp at h, fun k q h => by simp at h⟩, va_S.rf⟩
    have hcut : y_okb z_mt zL_cut = true := by
      have h9 := kL_law
      unfold y_okb at h9 ⊢
      exact List.all_eq_true.mpr (fun q hq => List.all_eq_true.mp h9 q (List.mem_filter.mp hq).1)
    have key : ∀ (ls : Array Slot) (α : List Nat) (tys : List (ClassId × FieldType)) (ws : va_W) (H : Heap) (locs : List Loc) (lv : List (Nat × Value)) (sv : List Value), y_Z (rh, la, b, L) (fun k => (dd k).1, fun k => (dd k).2) (fun q => s.heap.size ≤ q) (s.setDrawn s.drawn) zL_law.2.2.1 α tys ws H locs ls lv sv (z_st L).2.1 (z_st L).2.2.1 (z_st L).2.2.2.1 →
        W p l e room_1 (s.setDrawn s.drawn) m #[Value.ref b] below meth c H locs (z_st L).2.2.2.2.1 (z_st L).2.2.2.2.2 (lw_Z below #[Value.ref b] s) (F0 m (z_st L).1 ls sv) := by
      intro ls α tys ws H locs lv sv Z
      refine (y_all (κ := (rh, la, b, L)) hH hT z_mt_ok 12000 true 20 zL_law (z_st L) S' kL_law hgo).2 C (by decide) (by decide) (y_ble.mp h3) (y_ble.mp h4) Z ?_
      intro α' tys' ws' H' locs' ls' lv' sv' hα ⟨hh', hl', hst', hls', hP', hK', hD', hS'⟩
      obtain ⟨pc', lo', st', h', k', n'⟩ := S'
      have e1 : pc' = 848 := y_beq.mp h1
      subst e1
      dsimp only at h2 h3 h4 hst' ⊢
      split at h2
      · obtain ⟨ys, rfl, h5⟩ := y_ds_ci hst'
        rw [y_ds_nil h5]
        refine va_forget (fun q hq => hS'.2.2 q hq) ?_
        refine W.widen (k := 600000) (n := 7302250) (y_ble.mp h3) (y_ble.mp h4) ?_
        exact lw_ret hd0 hx hb hr hlocks z_848
      · cases h2
    cases h5 : Nat.beq L 5 with
    | false =>
      have e5 : z_st L = z_S0 := by unfold z_st; rw [h5]; rfl
      rw [e5] at key
      exact key ls _ _ _ _ _ _ _ Z
    | true =>
      have e5 : z_st L = z_S1 := by unfold z_st; rw [h5]; rfl
      have e6 := y_beq.mp h5
      rw [e5] at key
      subst e6
      refine (y_all (κ := (rh, la, b, 5)) (hy := []) (tb := []) (fun q h => absurd h List.not_mem_nil) (fun q h => absurd h List.not_mem_nil) z_mt_ok 12000 true 20 zL_cut z_S0 z_S1 hcut z_pre).2 C (by decide) (by decide) (by decide) (by decide) Z ?_
      intro α' tys' ws' H' locs' ls' lv' sv' hα Z9
      exact key ls' α' tys' ws' H' locs' lv' sv' Z9
set_option maxHeartbeats 4000000 in
theorem lw_walk (l : Launch) (hflags : l.flags = flags0) (b : Addr) (xs : List Int32) : MetFree l x (headSpec (Jvm.Cond.code x code maxLocals ret :: tables_1) room_1) (lw_P b xs) (fun _ _ _ _ _ => True) lw_Q := by
  refine MetFree.of_bodyS (code := code) (maxLocals := maxLocals) (ret := ret) (by decide) ?_ ?_
  · intro args s m h hn
    obtain ⟨meth, c, h1, h2, h3, h4, h5, h6, -, -⟩ := Cond.code_spec hn (atoms_spec (ws := Jvm.Cond.code x code maxLocals ret :: tables_1) h _ List.mem_cons_self)
    exact ⟨meth, c, h1, h2, h3, h4, h5, h6⟩
  · intro p e s m args below meth c s₁ B hml0 hP _
    obtain ⟨rfl, hx, hbd, hgv⟩ := hP
    obtain ⟨scr, harrAt, hlist, hof, hsmall⟩ := hx
    obtain ⟨hcb, hkn, -, -⟩ := State.arrayAt?_spec harrAt
    have hown : s.vm.findClass R_law = some m.cls := findClass_of_methodNamed B.named
    have hts0 : ∀ c ∈ (Jvm.Cond.code x code maxLocals ret :: tables_1), c.before #[Value.ref b] s = true := atoms_spec (ws := Jvm.Cond.code x code maxLocals ret :: tables_1) B.pre
    have hts : ∀ w ∈ lw_tbl, w.before #[Value.ref b] s = true := k2_hts_sels lw_privs (fun w hw => hts0 w (List.mem_cons_of_mem _ hw)) lw_privs_ok
    have hml : c.maxLocals = 4 := B.maxLocals_eq (hts0 _ List.mem_cons_self)
    have X₀ : Stand p l e room_1 s m #[Value.ref b] below meth c s₁ [] 0 0 := Stand.of_body B
    have hh0 : s₁.heap = s.heap := by rw [B.state]; rfl
    have hsz : scr.slots.size = xs.length := by rw [← Array.length_toList, hlist, List.length_map]
    have hval : ∀ j : Nat, j < xs.length → scr.slots[j]? = some (.int (xs.getD j 0)) := fun j hj => by
      rw [← Array.getElem?_toList, hlist]
      simp [hj]
    have hbl : b < s.heap.size := (Array.getElem?_eq_some_iff.mp hcb).1
    have hX : va_X b xs.length (fun j => xs.getD j 0) s s.heap := ⟨scr, hcb, hof, hkn, hsz, hval⟩
    have K : W p l e room_1 s m #[Value.ref b] below meth c s₁.heap [] 0 0 (lw_Z below #[Value.ref b] s) (entryFrame m ([Value.ref b] : List Value).toArray 4) := by
      rw [hh0]
      exact whole_start l hflags hbd ⟨B.exec, B.bytes, B.returns, hml, hown, hts, hX, hbl, B.notSynchronized, hgv⟩
    obtain ⟨t, a1, o, b1, b2, b3⟩ := K s₁ rfl X₀
    exact ⟨t, o, a1, b1, b2, b3⟩
theorem lw_pre_spec {args : Array Value} {s : State} (h : (Jvm.Cond.and given_1 narrow_1).before args s = true) (hr : rest_1_c.before args s = true) : ∃ (b : Addr) (xs : List Int32), lw_P b xs args s := by
  have hs := flat_of_before _ h
  have hq := flat_of_before _ hr
  have hc : (Cond.count 1).before args s = true := hs _ (by decide +kernel)
  have harr : (Cond.arrayOf (.arg 0) .int).before args s = true := hs _ (by decide +kernel)
  have hle : (Cond.le (.length (.arg 0)) (.int 5)).before args s = true := hs _ (by decide +kernel)
  have hlen : (Cond.isInt (.length (.arg 0))).before args s = true := hq _ (by decide +kernel)
  have hall : (Cond.all (.arg 0) (.isInt (.elem (.arg 0) (.index 0)))).before args s = true := hq _ (by decide +kernel)
  obtain ⟨b, xs, hb, hx⟩ := State.ints_of_pre rfl harr hlen hall
  have hsm : xs.length < 2 ^ 31 := hx.choose_spec.2.2.2
  have hev : (Term.length (.arg 0)).eval args s none [] s = some (.int xs.length.toInt32) := hx.length_eval hb
  have hv := Cond.le_ints hev (show (Term.int 5).eval args s none [] s = some (.int 5) from rfl)
  have hd : xs.length.toInt32 ≤ 5 := by
    simpa [Cond.before, Cond.holds, hv] using hle
  have hN : xs.length ≤ 5 := (Int32.ofNat_le_ofNat hsm (by decide)).mp (show Int32.ofNat xs.length ≤ Int32.ofNat 5 from hd)
  exact ⟨b, xs, Cond.one_arg hc (show args[0]? = some (.ref b) from hb), hx, hN, h⟩
theorem lw_comes (l : Launch) (hflags : l.flags = flags0) : Comes l x (Jvm.Cond.code x code maxLocals ret :: tables_1) room_1 (fun tb e args s => Calls_1 tb e args s ∧ rest_1 tb e args s ∧ Pre_1 tb e args s)
    (fun _ _ args s o t => lw_Q args s o t) := by
  intro p e ha hc hk s m args below hf hfit hheap happ hpre
  obtain ⟨b, xs, hP⟩ := lw_pre_spec hpre.2.2 hpre.2.1
  obtain ⟨k, o, h1, h2, h3, hQ⟩ := lw_walk l hflags b xs p e ha hc hk s m args below hf ((Spec.applies_iff_loose hf).mp happ).1 hP trivial
  exact ⟨k, o, h1, h2, h3, hQ⟩
theorem lw_frame {s t : State} {o : Outcome} {args : Array Value} (h : State.butDraws s t lw_cs (fun t1 => Framed s o t1 [] 600000 7302250)) :
    State.butDraws s t [Jvm.Choice.named "NaN.bits"] (fun t1 => Framed s o t1 (fieldLocs frame_1_writes args s ++ arrayLocs frame_1_arrays args s ++ staticLocs frame_1_statics s) 600000 7302250) := h
theorem lw_limb (L : Cond) (hL : ∀ (args : Array Value) (s t : State), L.after args s (.returned (some (.int 1))) t = true) :
    ArmFor flags0 classFile x code maxLocals ret World_1 tables_1 room_1 Calls_1 rest_1 Pre_1
      (fun tb e a s o t => postC L tb e a s o t ∧ State.butDraws s t [Jvm.Choice.named "NaN.bits"] (fun t1 => Framed s o t1 (fieldLocs frame_1_writes a s ++ arrayLocs frame_1_arrays a s ++ staticLocs frame_1_statics s) 600000 7302250)) := by
  intro l hflags _ _ p e ha hc hk s m args below hf hfit hheap happ hpre
  obtain ⟨k, o, h1, h2, h3, rfl, hF⟩ := lw_comes l hflags p e ha hc hk s m args below hf hfit hheap happ hpre
  exact ⟨k, _, h1, h2, h3, hL args s _, lw_frame hF⟩
theorem i_vc : Claimed_1_1 ∧ Claimed_1_2 := ⟨lw_limb limb_1_1 (fun args s t => by simp [limb_1_1, Cond.after, Cond.holds, Cond.value]), lw_limb limb_1_2 (fun args s t => Cond.after_iff.mpr (by
  first | (rw [show limb_1_2 = Cond.eq .result (.int 1) from rfl, Cond.eq_ints (x := 1) (y := 1) rfl rfl]; simp; done) | (simp [limb_1_2, Cond.value, Term.eval]; done)))⟩
end
