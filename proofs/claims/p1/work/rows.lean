section
-- ===== PART A: goes FIRST, ahead of the names: the tables' words, and 'selects' of the private methods out of them =====
/-- a private method of a class that the tables say can be made, by its rows of tables_1 -/
def lw_okq (q : MethodName × Nat) : Prop := (q.1.cls ≠ "java/lang/invoke/MethodHandle" ∧ q.1.cls ≠ "java/lang/invoke/VarHandle") ∧ Cond.instantiable q.1.cls q.2 ∈ tables_1 ∧ Cond.privateMethod q.1 ∈ tables_1 ∧ Cond.instanceMethod q.1 ∈ tables_1
theorem lw_p0 : lw_okq (⟨"LassoFinder", "hasLasso", "()Z"⟩, 13) := ⟨⟨by decide +kernel, by decide +kernel⟩, List.mem_of_getElem? (i := 25) (by decide +kernel), List.mem_of_getElem? (i := 515) (by decide +kernel), List.mem_of_getElem? (i := 516) (by decide +kernel)⟩
theorem lw_p1 : lw_okq (⟨"LassoFinder", "standsOnWalk", "()Z"⟩, 13) := ⟨⟨by decide +kernel, by decide +kernel⟩, List.mem_of_getElem? (i := 25) (by decide +kernel), List.mem_of_getElem? (i := 535) (by decide +kernel), List.mem_of_getElem? (i := 536) (by decide +kernel)⟩
theorem lw_p2 : lw_okq (⟨"LassoFinder", "dropFormula", "()V"⟩, 13) := ⟨⟨by decide +kernel, by decide +kernel⟩, List.mem_of_getElem? (i := 25) (by decide +kernel), List.mem_of_getElem? (i := 572) (by decide +kernel), List.mem_of_getElem? (i := 573) (by decide +kernel)⟩
theorem lw_p3 : lw_okq (⟨"LassoFinder$ModelReader", "readDeclaration", "()V"⟩, 5) := ⟨⟨by decide +kernel, by decide +kernel⟩, List.mem_of_getElem? (i := 197) (by decide +kernel), List.mem_of_getElem? (i := 607) (by decide +kernel), List.mem_of_getElem? (i := 608) (by decide +kernel)⟩
theorem lw_p4 : lw_okq (⟨"java/lang/Throwable", "fillInStackTrace", "(I)Ljava/lang/Throwable;"⟩, 6) := ⟨⟨by decide +kernel, by decide +kernel⟩, List.mem_of_getElem? (i := 667) (by decide +kernel), List.mem_of_getElem? (i := 665) (by decide +kernel), List.mem_of_getElem? (i := 666) (by decide +kernel)⟩
theorem lw_p5 : lw_okq (⟨"LassoFinder$ModelReader", "readBody", "(II)V"⟩, 5) := ⟨⟨by decide +kernel, by decide +kernel⟩, List.mem_of_getElem? (i := 197) (by decide +kernel), List.mem_of_getElem? (i := 715) (by decide +kernel), List.mem_of_getElem? (i := 716) (by decide +kernel)⟩
theorem lw_p6 : lw_okq (⟨"LassoFinder$ModelReader", "readLabels", "()V"⟩, 5) := ⟨⟨by decide +kernel, by decide +kernel⟩, List.mem_of_getElem? (i := 197) (by decide +kernel), List.mem_of_getElem? (i := 719) (by decide +kernel), List.mem_of_getElem? (i := 720) (by decide +kernel)⟩
theorem lw_p7 : lw_okq (⟨"LassoFinder$ModelReader", "readStatement", "(III)I"⟩, 5) := ⟨⟨by decide +kernel, by decide +kernel⟩, List.mem_of_getElem? (i := 197) (by decide +kernel), List.mem_of_getElem? (i := 723) (by decide +kernel), List.mem_of_getElem? (i := 724) (by decide +kernel)⟩
theorem lw_p8 : lw_okq (⟨"LassoFinder$ModelReader", "readChoice", "(III)I"⟩, 5) := ⟨⟨by decide +kernel, by decide +kernel⟩, List.mem_of_getElem? (i := 197) (by decide +kernel), List.mem_of_getElem? (i := 727) (by decide +kernel), List.mem_of_getElem? (i := 728) (by decide +kernel)⟩
theorem lw_p9 : lw_okq (⟨"LassoFinder$ModelReader", "readAtomic", "(III)I"⟩, 5) := ⟨⟨by decide +kernel, by decide +kernel⟩, List.mem_of_getElem? (i := 197) (by decide +kernel), List.mem_of_getElem? (i := 743) (by decide +kernel), List.mem_of_getElem? (i := 744) (by decide +kernel)⟩
theorem lw_p10 : lw_okq (⟨"LassoFinder$ModelReader", "readBreak", "(II)I"⟩, 5) := ⟨⟨by decide +kernel, by decide +kernel⟩, List.mem_of_getElem? (i := 197) (by decide +kernel), List.mem_of_getElem? (i := 748) (by decide +kernel), List.mem_of_getElem? (i := 749) (by decide +kernel)⟩
theorem lw_p11 : lw_okq (⟨"LassoFinder$ModelReader", "readJump", "(II)I"⟩, 5) := ⟨⟨by decide +kernel, by decide +kernel⟩, List.mem_of_getElem? (i := 197) (by decide +kernel), List.mem_of_getElem? (i := 756) (by decide +kernel), List.mem_of_getElem? (i := 757) (by decide +kernel)⟩
theorem lw_p12 : lw_okq (⟨"LassoFinder$ModelReader", "readElse", "(II)V"⟩, 5) := ⟨⟨by decide +kernel, by decide +kernel⟩, List.mem_of_getElem? (i := 197) (by decide +kernel), List.mem_of_getElem? (i := 768) (by decide +kernel), List.mem_of_getElem? (i := 769) (by decide +kernel)⟩
theorem lw_p13 : lw_okq (⟨"LassoFinder$Terms", "readOpenings", "()V"⟩, 10) := ⟨⟨by decide +kernel, by decide +kernel⟩, List.mem_of_getElem? (i := 160) (by decide +kernel), List.mem_of_getElem? (i := 776) (by decide +kernel), List.mem_of_getElem? (i := 777) (by decide +kernel)⟩
theorem lw_p14 : lw_okq (⟨"LassoFinder$Terms", "putOff", "(I)V"⟩, 10) := ⟨⟨by decide +kernel, by decide +kernel⟩, List.mem_of_getElem? (i := 160) (by decide +kernel), List.mem_of_getElem? (i := 783) (by decide +kernel), List.mem_of_getElem? (i := 784) (by decide +kernel)⟩
theorem lw_p15 : lw_okq (⟨"LassoFinder$Terms", "readPart", "()V"⟩, 10) := ⟨⟨by decide +kernel, by decide +kernel⟩, List.mem_of_getElem? (i := 160) (by decide +kernel), List.mem_of_getElem? (i := 787) (by decide +kernel), List.mem_of_getElem? (i := 788) (by decide +kernel)⟩
def lw_privs_1 : List (MethodName × Nat) := [(⟨"LassoFinder", "hasLasso", "()Z"⟩, 13), (⟨"LassoFinder", "standsOnWalk", "()Z"⟩, 13), (⟨"LassoFinder", "dropFormula", "()V"⟩, 13), (⟨"LassoFinder$ModelReader", "readDeclaration", "()V"⟩, 5), (⟨"java/lang/Throwable", "fillInStackTrace", "(I)Ljava/lang/Throwable;"⟩, 6), (⟨"LassoFinder$ModelReader", "readBody", "(II)V"⟩, 5), (⟨"LassoFinder$ModelReader", "readLabels", "()V"⟩, 5), (⟨"LassoFinder$ModelReader", "readStatement", "(III)I"⟩, 5), (⟨"LassoFinder$ModelReader", "readChoice", "(III)I"⟩, 5), (⟨"LassoFinder$ModelReader", "readAtomic", "(III)I"⟩, 5), (⟨"LassoFinder$ModelReader", "readBreak", "(II)I"⟩, 5), (⟨"LassoFinder$ModelReader", "readJump", "(II)I"⟩, 5), (⟨"LassoFinder$ModelReader", "readElse", "(II)V"⟩, 5), (⟨"LassoFinder$Terms", "readOpenings", "()V"⟩, 10), (⟨"LassoFinder$Terms", "putOff", "(I)V"⟩, 10), (⟨"LassoFinder$Terms", "readPart", "()V"⟩, 10)]
theorem lw_r1 : ∀ q ∈ lw_privs_1, lw_okq q := List.forall_mem_cons.mpr ⟨lw_p0, List.forall_mem_cons.mpr ⟨lw_p1, List.forall_mem_cons.mpr ⟨lw_p2, List.forall_mem_cons.mpr ⟨lw_p3, List.forall_mem_cons.mpr ⟨lw_p4, List.forall_mem_cons.mpr ⟨lw_p5, List.forall_mem_cons.mpr ⟨lw_p6, List.forall_mem_cons.mpr ⟨lw_p7, List.forall_mem_cons.mpr ⟨lw_p8, List.forall_mem_cons.mpr ⟨lw_p9, List.forall_mem_cons.mpr ⟨lw_p10, List.forall_mem_cons.mpr ⟨lw_p11, List.forall_mem_cons.mpr ⟨lw_p12, List.forall_mem_cons.mpr ⟨lw_p13, List.forall_mem_cons.mpr ⟨lw_p14, List.forall_mem_cons.mpr ⟨lw_p15, fun _ h => absurd h List.not_mem_nil⟩⟩⟩⟩⟩⟩⟩⟩⟩⟩⟩⟩⟩⟩⟩⟩
theorem lw_p16 : lw_okq (⟨"LassoFinder$Terms", "add", "(I)V"⟩, 10) := ⟨⟨by decide +kernel, by decide +kernel⟩, List.mem_of_getElem? (i := 160) (by decide +kernel), List.mem_of_getElem? (i := 792) (by decide +kernel), List.mem_of_getElem? (i := 793) (by decide +kernel)⟩
theorem lw_p17 : lw_okq (⟨"LassoFinder$Terms", "readClosings", "(I)V"⟩, 10) := ⟨⟨by decide +kernel, by decide +kernel⟩, List.mem_of_getElem? (i := 160) (by decide +kernel), List.mem_of_getElem? (i := 796) (by decide +kernel), List.mem_of_getElem? (i := 797) (by decide +kernel)⟩
theorem lw_p18 : lw_okq (⟨"LassoFinder$Terms", "release", "(I)V"⟩, 10) := ⟨⟨by decide +kernel, by decide +kernel⟩, List.mem_of_getElem? (i := 160) (by decide +kernel), List.mem_of_getElem? (i := 800) (by decide +kernel), List.mem_of_getElem? (i := 801) (by decide +kernel)⟩
theorem lw_p19 : lw_okq (⟨"LassoFinder$Terms", "readSign", "()Z"⟩, 10) := ⟨⟨by decide +kernel, by decide +kernel⟩, List.mem_of_getElem? (i := 160) (by decide +kernel), List.mem_of_getElem? (i := 806) (by decide +kernel), List.mem_of_getElem? (i := 807) (by decide +kernel)⟩
theorem lw_p20 : lw_okq (⟨"LassoFinder$ModelReader", "readNamed", "()V"⟩, 5) := ⟨⟨by decide +kernel, by decide +kernel⟩, List.mem_of_getElem? (i := 197) (by decide +kernel), List.mem_of_getElem? (i := 813) (by decide +kernel), List.mem_of_getElem? (i := 814) (by decide +kernel)⟩
theorem lw_p21 : lw_okq (⟨"LassoFinder$ModelReader", "endProcess", "()V"⟩, 5) := ⟨⟨by decide +kernel, by decide +kernel⟩, List.mem_of_getElem? (i := 197) (by decide +kernel), List.mem_of_getElem? (i := 817) (by decide +kernel), List.mem_of_getElem? (i := 818) (by decide +kernel)⟩
theorem lw_p22 : lw_okq (⟨"LassoFinder$ModelReader", "checkJumps", "()V"⟩, 5) := ⟨⟨by decide +kernel, by decide +kernel⟩, List.mem_of_getElem? (i := 197) (by decide +kernel), List.mem_of_getElem? (i := 821) (by decide +kernel), List.mem_of_getElem? (i := 822) (by decide +kernel)⟩
theorem lw_p23 : lw_okq (⟨"LassoFinder$Program", "takeWay", "(LLassoFinder$Tree;I)V"⟩, 14) := ⟨⟨by decide +kernel, by decide +kernel⟩, List.mem_of_getElem? (i := 91) (by decide +kernel), List.mem_of_getElem? (i := 841) (by decide +kernel), List.mem_of_getElem? (i := 842) (by decide +kernel)⟩
theorem lw_p24 : lw_okq (⟨"LassoFinder$Program", "takePlaces", "(LLassoFinder$Tree;I)V"⟩, 14) := ⟨⟨by decide +kernel, by decide +kernel⟩, List.mem_of_getElem? (i := 91) (by decide +kernel), List.mem_of_getElem? (i := 851) (by decide +kernel), List.mem_of_getElem? (i := 852) (by decide +kernel)⟩
theorem lw_p25 : lw_okq (⟨"LassoFinder$Graph", "enter", "(J)I"⟩, 11) := ⟨⟨by decide +kernel, by decide +kernel⟩, List.mem_of_getElem? (i := 315) (by decide +kernel), List.mem_of_getElem? (i := 871) (by decide +kernel), List.mem_of_getElem? (i := 872) (by decide +kernel)⟩
theorem lw_p26 : lw_okq (⟨"LassoFinder$Graph", "addStepsOf", "(I)Z"⟩, 11) := ⟨⟨by decide +kernel, by decide +kernel⟩, List.mem_of_getElem? (i := 315) (by decide +kernel), List.mem_of_getElem? (i := 875) (by decide +kernel), List.mem_of_getElem? (i := 876) (by decide +kernel)⟩
theorem lw_p27 : lw_okq (⟨"LassoFinder$Situation", "ableOf", "(J)J"⟩, 8) := ⟨⟨by decide +kernel, by decide +kernel⟩, List.mem_of_getElem? (i := 279) (by decide +kernel), List.mem_of_getElem? (i := 888) (by decide +kernel), List.mem_of_getElem? (i := 889) (by decide +kernel)⟩
theorem lw_p28 : lw_okq (⟨"LassoFinder$Situation", "canBeDone", "(I)Z"⟩, 8) := ⟨⟨by decide +kernel, by decide +kernel⟩, List.mem_of_getElem? (i := 279) (by decide +kernel), List.mem_of_getElem? (i := 892) (by decide +kernel), List.mem_of_getElem? (i := 893) (by decide +kernel)⟩
theorem lw_p29 : lw_okq (⟨"LassoFinder$Situation", "hasFreeSlot", "(I)Z"⟩, 8) := ⟨⟨by decide +kernel, by decide +kernel⟩, List.mem_of_getElem? (i := 279) (by decide +kernel), List.mem_of_getElem? (i := 903) (by decide +kernel), List.mem_of_getElem? (i := 904) (by decide +kernel)⟩
theorem lw_p30 : lw_okq (⟨"LassoFinder$Graph", "addStepsBy", "(II)Z"⟩, 11) := ⟨⟨by decide +kernel, by decide +kernel⟩, List.mem_of_getElem? (i := 315) (by decide +kernel), List.mem_of_getElem? (i := 912) (by decide +kernel), List.mem_of_getElem? (i := 913) (by decide +kernel)⟩
theorem lw_p31 : lw_okq (⟨"LassoFinder$Graph", "addDone", "(III)Z"⟩, 11) := ⟨⟨by decide +kernel, by decide +kernel⟩, List.mem_of_getElem? (i := 315) (by decide +kernel), List.mem_of_getElem? (i := 917) (by decide +kernel), List.mem_of_getElem? (i := 918) (by decide +kernel)⟩
def lw_privs_2 : List (MethodName × Nat) := [(⟨"LassoFinder$Terms", "add", "(I)V"⟩, 10), (⟨"LassoFinder$Terms", "readClosings", "(I)V"⟩, 10), (⟨"LassoFinder$Terms", "release", "(I)V"⟩, 10), (⟨"LassoFinder$Terms", "readSign", "()Z"⟩, 10), (⟨"LassoFinder$ModelReader", "readNamed", "()V"⟩, 5), (⟨"LassoFinder$ModelReader", "endProcess", "()V"⟩, 5), (⟨"LassoFinder$ModelReader", "checkJumps", "()V"⟩, 5), (⟨"LassoFinder$Program", "takeWay", "(LLassoFinder$Tree;I)V"⟩, 14), (⟨"LassoFinder$Program", "takePlaces", "(LLassoFinder$Tree;I)V"⟩, 14), (⟨"LassoFinder$Graph", "enter", "(J)I"⟩, 11), (⟨"LassoFinder$Graph", "addStepsOf", "(I)Z"⟩, 11), (⟨"LassoFinder$Situation", "ableOf", "(J)J"⟩, 8), (⟨"LassoFinder$Situation", "canBeDone", "(I)Z"⟩, 8), (⟨"LassoFinder$Situation", "hasFreeSlot", "(I)Z"⟩, 8), (⟨"LassoFinder$Graph", "addStepsBy", "(II)Z"⟩, 11), (⟨"LassoFinder$Graph", "addDone", "(III)Z"⟩, 11)]
theorem lw_r2 : ∀ q ∈ lw_privs_2, lw_okq q := List.forall_mem_cons.mpr ⟨lw_p16, List.forall_mem_cons.mpr ⟨lw_p17, List.forall_mem_cons.mpr ⟨lw_p18, List.forall_mem_cons.mpr ⟨lw_p19, List.forall_mem_cons.mpr ⟨lw_p20, List.forall_mem_cons.mpr ⟨lw_p21, List.forall_mem_cons.mpr ⟨lw_p22, List.forall_mem_cons.mpr ⟨lw_p23, List.forall_mem_cons.mpr ⟨lw_p24, List.forall_mem_cons.mpr ⟨lw_p25, List.forall_mem_cons.mpr ⟨lw_p26, List.forall_mem_cons.mpr ⟨lw_p27, List.forall_mem_cons.mpr ⟨lw_p28, List.forall_mem_cons.mpr ⟨lw_p29, List.forall_mem_cons.mpr ⟨lw_p30, List.forall_mem_cons.mpr ⟨lw_p31, fun _ h => absurd h List.not_mem_nil⟩⟩⟩⟩⟩⟩⟩⟩⟩⟩⟩⟩⟩⟩⟩⟩
theorem lw_p32 : lw_okq (⟨"LassoFinder$Situation", "put", "(II)V"⟩, 8) := ⟨⟨by decide +kernel, by decide +kernel⟩, List.mem_of_getElem? (i := 279) (by decide +kernel), List.mem_of_getElem? (i := 925) (by decide +kernel), List.mem_of_getElem? (i := 926) (by decide +kernel)⟩
theorem lw_p33 : lw_okq (⟨"LassoFinder$Situation", "taken", "(I)I"⟩, 8) := ⟨⟨by decide +kernel, by decide +kernel⟩, List.mem_of_getElem? (i := 279) (by decide +kernel), List.mem_of_getElem? (i := 929) (by decide +kernel), List.mem_of_getElem? (i := 930) (by decide +kernel)⟩
theorem lw_p34 : lw_okq (⟨"LassoFinder$Situation", "passOn", "(I)V"⟩, 8) := ⟨⟨by decide +kernel, by decide +kernel⟩, List.mem_of_getElem? (i := 279) (by decide +kernel), List.mem_of_getElem? (i := 933) (by decide +kernel), List.mem_of_getElem? (i := 934) (by decide +kernel)⟩
theorem lw_p35 : lw_okq (⟨"LassoFinder$Graph", "add", "(IIII)Z"⟩, 11) := ⟨⟨by decide +kernel, by decide +kernel⟩, List.mem_of_getElem? (i := 315) (by decide +kernel), List.mem_of_getElem? (i := 937) (by decide +kernel), List.mem_of_getElem? (i := 938) (by decide +kernel)⟩
theorem lw_p36 : lw_okq (⟨"LassoFinder$Graph", "turnRound", "()V"⟩, 11) := ⟨⟨by decide +kernel, by decide +kernel⟩, List.mem_of_getElem? (i := 315) (by decide +kernel), List.mem_of_getElem? (i := 941) (by decide +kernel), List.mem_of_getElem? (i := 942) (by decide +kernel)⟩
theorem lw_p37 : lw_okq (⟨"LassoFinder$Formula", "readFrom", "(II)I"⟩, 11) := ⟨⟨by decide +kernel, by decide +kernel⟩, List.mem_of_getElem? (i := 371) (by decide +kernel), List.mem_of_getElem? (i := 989) (by decide +kernel), List.mem_of_getElem? (i := 990) (by decide +kernel)⟩
theorem lw_p38 : lw_okq (⟨"LassoFinder$Formula", "readUnit", "(I)I"⟩, 11) := ⟨⟨by decide +kernel, by decide +kernel⟩, List.mem_of_getElem? (i := 371) (by decide +kernel), List.mem_of_getElem? (i := 993) (by decide +kernel), List.mem_of_getElem? (i := 994) (by decide +kernel)⟩
theorem lw_p39 : lw_okq (⟨"LassoFinder$Formula", "goDeeper", "(I)V"⟩, 11) := ⟨⟨by decide +kernel, by decide +kernel⟩, List.mem_of_getElem? (i := 371) (by decide +kernel), List.mem_of_getElem? (i := 998) (by decide +kernel), List.mem_of_getElem? (i := 999) (by decide +kernel)⟩
theorem lw_p40 : lw_okq (⟨"LassoFinder$Formula", "add", "(III)I"⟩, 11) := ⟨⟨by decide +kernel, by decide +kernel⟩, List.mem_of_getElem? (i := 371) (by decide +kernel), List.mem_of_getElem? (i := 1004) (by decide +kernel), List.mem_of_getElem? (i := 1005) (by decide +kernel)⟩
theorem lw_p41 : lw_okq (⟨"LassoFinder$Formula", "meetTemporal", "(I)V"⟩, 11) := ⟨⟨by decide +kernel, by decide +kernel⟩, List.mem_of_getElem? (i := 371) (by decide +kernel), List.mem_of_getElem? (i := 1008) (by decide +kernel), List.mem_of_getElem? (i := 1009) (by decide +kernel)⟩
theorem lw_p42 : lw_okq (⟨"LassoFinder$Formula", "addTemporal", "(III)I"⟩, 11) := ⟨⟨by decide +kernel, by decide +kernel⟩, List.mem_of_getElem? (i := 371) (by decide +kernel), List.mem_of_getElem? (i := 1012) (by decide +kernel), List.mem_of_getElem? (i := 1013) (by decide +kernel)⟩
theorem lw_p43 : lw_okq (⟨"LassoFinder$Formula", "readBracketed", "(I)I"⟩, 11) := ⟨⟨by decide +kernel, by decide +kernel⟩, List.mem_of_getElem? (i := 371) (by decide +kernel), List.mem_of_getElem? (i := 1016) (by decide +kernel), List.mem_of_getElem? (i := 1017) (by decide +kernel)⟩
theorem lw_p44 : lw_okq (⟨"LassoFinder$Formula", "readAtom", "()I"⟩, 11) := ⟨⟨by decide +kernel, by decide +kernel⟩, List.mem_of_getElem? (i := 371) (by decide +kernel), List.mem_of_getElem? (i := 1021) (by decide +kernel), List.mem_of_getElem? (i := 1022) (by decide +kernel)⟩
theorem lw_p45 : lw_okq (⟨"LassoFinder$Formula", "readSecond", "(III)I"⟩, 11) := ⟨⟨by decide +kernel, by decide +kernel⟩, List.mem_of_getElem? (i := 371) (by decide +kernel), List.mem_of_getElem? (i := 1033) (by decide +kernel), List.mem_of_getElem? (i := 1034) (by decide +kernel)⟩
theorem lw_p46 : lw_okq (⟨"LassoFinder$Truths", "fillBefore", "(I)V"⟩, 9) := ⟨⟨by decide +kernel, by decide +kernel⟩, List.mem_of_getElem? (i := 421) (by decide +kernel), List.mem_of_getElem? (i := 1043) (by decide +kernel), List.mem_of_getElem? (i := 1044) (by decide +kernel)⟩
theorem lw_p47 : lw_okq (⟨"LassoFinder$Truths", "reckonParts", "(Z)V"⟩, 9) := ⟨⟨by decide +kernel, by decide +kernel⟩, List.mem_of_getElem? (i := 421) (by decide +kernel), List.mem_of_getElem? (i := 1047) (by decide +kernel), List.mem_of_getElem? (i := 1048) (by decide +kernel)⟩
def lw_privs_3 : List (MethodName × Nat) := [(⟨"LassoFinder$Situation", "put", "(II)V"⟩, 8), (⟨"LassoFinder$Situation", "taken", "(I)I"⟩, 8), (⟨"LassoFinder$Situation", "passOn", "(I)V"⟩, 8), (⟨"LassoFinder$Graph", "add", "(IIII)Z"⟩, 11), (⟨"LassoFinder$Graph", "turnRound", "()V"⟩, 11), (⟨"LassoFinder$Formula", "readFrom", "(II)I"⟩, 11), (⟨"LassoFinder$Formula", "readUnit", "(I)I"⟩, 11), (⟨"LassoFinder$Formula", "goDeeper", "(I)V"⟩, 11), (⟨"LassoFinder$Formula", "add", "(III)I"⟩, 11), (⟨"LassoFinder$Formula", "meetTemporal", "(I)V"⟩, 11), (⟨"LassoFinder$Formula", "addTemporal", "(III)I"⟩, 11), (⟨"LassoFinder$Formula", "readBracketed", "(I)I"⟩, 11), (⟨"LassoFinder$Formula", "readAtom", "()I"⟩, 11), (⟨"LassoFinder$Formula", "readSecond", "(III)I"⟩, 11), (⟨"LassoFinder$Truths", "fillBefore", "(I)V"⟩, 9), (⟨"LassoFinder$Truths", "reckonParts", "(Z)V"⟩, 9)]
theorem lw_r3 : ∀ q ∈ lw_privs_3, lw_okq q := List.forall_mem_cons.mpr ⟨lw_p32, List.forall_mem_cons.mpr ⟨lw_p33, List.forall_mem_cons.mpr ⟨lw_p34, List.forall_mem_cons.mpr ⟨lw_p35, List.forall_mem_cons.mpr ⟨lw_p36, List.forall_mem_cons.mpr ⟨lw_p37, List.forall_mem_cons.mpr ⟨lw_p38, List.forall_mem_cons.mpr ⟨lw_p39, List.forall_mem_cons.mpr ⟨lw_p40, List.forall_mem_cons.mpr ⟨lw_p41, List.forall_mem_cons.mpr ⟨lw_p42, List.forall_mem_cons.mpr ⟨lw_p43, List.forall_mem_cons.mpr ⟨lw_p44, List.forall_mem_cons.mpr ⟨lw_p45, List.forall_mem_cons.mpr ⟨lw_p46, List.forall_mem_cons.mpr ⟨lw_p47, fun _ h => absurd h List.not_mem_nil⟩⟩⟩⟩⟩⟩⟩⟩⟩⟩⟩⟩⟩⟩⟩⟩
theorem lw_p48 : lw_okq (⟨"LassoFinder$Truths", "atomHolds", "(I)Z"⟩, 9) := ⟨⟨by decide +kernel, by decide +kernel⟩, List.mem_of_getElem? (i := 421) (by decide +kernel), List.mem_of_getElem? (i := 1051) (by decide +kernel), List.mem_of_getElem? (i := 1052) (by decide +kernel)⟩
theorem lw_p49 : lw_okq (⟨"LassoFinder$Truths", "joined", "(I)I"⟩, 9) := ⟨⟨by decide +kernel, by decide +kernel⟩, List.mem_of_getElem? (i := 421) (by decide +kernel), List.mem_of_getElem? (i := 1056) (by decide +kernel), List.mem_of_getElem? (i := 1057) (by decide +kernel)⟩
theorem lw_p50 : lw_okq (⟨"LassoFinder$Truths", "carried", "(II)I"⟩, 9) := ⟨⟨by decide +kernel, by decide +kernel⟩, List.mem_of_getElem? (i := 421) (by decide +kernel), List.mem_of_getElem? (i := 1062) (by decide +kernel), List.mem_of_getElem? (i := 1063) (by decide +kernel)⟩
theorem lw_p51 : lw_okq (⟨"LassoFinder$Truths", "fillSettled", "(I)V"⟩, 9) := ⟨⟨by decide +kernel, by decide +kernel⟩, List.mem_of_getElem? (i := 421) (by decide +kernel), List.mem_of_getElem? (i := 1066) (by decide +kernel), List.mem_of_getElem? (i := 1067) (by decide +kernel)⟩
theorem lw_p52 : lw_okq (⟨"LassoFinder$Truths", "settledFor", "(I)I"⟩, 9) := ⟨⟨by decide +kernel, by decide +kernel⟩, List.mem_of_getElem? (i := 421) (by decide +kernel), List.mem_of_getElem? (i := 1070) (by decide +kernel), List.mem_of_getElem? (i := 1071) (by decide +kernel)⟩
theorem lw_p53 : lw_okq (⟨"LassoFinder$LassoSearch", "markCycles", "()V"⟩, 20) := ⟨⟨by decide +kernel, by decide +kernel⟩, List.mem_of_getElem? (i := 1081) (by decide +kernel), List.mem_of_getElem? (i := 1156) (by decide +kernel), List.mem_of_getElem? (i := 1157) (by decide +kernel)⟩
theorem lw_p54 : lw_okq (⟨"LassoFinder$LassoSearch", "searchFrom", "(I)V"⟩, 20) := ⟨⟨by decide +kernel, by decide +kernel⟩, List.mem_of_getElem? (i := 1081) (by decide +kernel), List.mem_of_getElem? (i := 1160) (by decide +kernel), List.mem_of_getElem? (i := 1161) (by decide +kernel)⟩
theorem lw_p55 : lw_okq (⟨"LassoFinder$LassoSearch", "enterSpot", "(I)V"⟩, 20) := ⟨⟨by decide +kernel, by decide +kernel⟩, List.mem_of_getElem? (i := 1081) (by decide +kernel), List.mem_of_getElem? (i := 1164) (by decide +kernel), List.mem_of_getElem? (i := 1165) (by decide +kernel)⟩
theorem lw_p56 : lw_okq (⟨"LassoFinder$LassoSearch", "leaveSpot", "(I)V"⟩, 20) := ⟨⟨by decide +kernel, by decide +kernel⟩, List.mem_of_getElem? (i := 1081) (by decide +kernel), List.mem_of_getElem? (i := 1168) (by decide +kernel), List.mem_of_getElem? (i := 1169) (by decide +kernel)⟩
theorem lw_p57 : lw_okq (⟨"LassoFinder$LassoSearch", "closePart", "(I)V"⟩, 20) := ⟨⟨by decide +kernel, by decide +kernel⟩, List.mem_of_getElem? (i := 1081) (by decide +kernel), List.mem_of_getElem? (i := 1175) (by decide +kernel), List.mem_of_getElem? (i := 1176) (by decide +kernel)⟩
theorem lw_p58 : lw_okq (⟨"LassoFinder$LassoSearch", "leadsToItself", "(I)Z"⟩, 20) := ⟨⟨by decide +kernel, by decide +kernel⟩, List.mem_of_getElem? (i := 1081) (by decide +kernel), List.mem_of_getElem? (i := 1179) (by decide +kernel), List.mem_of_getElem? (i := 1180) (by decide +kernel)⟩
theorem lw_p59 : lw_okq (⟨"LassoFinder$LassoSearch", "spotBefore", "(II)I"⟩, 20) := ⟨⟨by decide +kernel, by decide +kernel⟩, List.mem_of_getElem? (i := 1081) (by decide +kernel), List.mem_of_getElem? (i := 1183) (by decide +kernel), List.mem_of_getElem? (i := 1184) (by decide +kernel)⟩
theorem lw_p60 : lw_okq (⟨"LassoFinder$LassoSearch", "reach", "(II)V"⟩, 20) := ⟨⟨by decide +kernel, by decide +kernel⟩, List.mem_of_getElem? (i := 1081) (by decide +kernel), List.mem_of_getElem? (i := 1187) (by decide +kernel), List.mem_of_getElem? (i := 1188) (by decide +kernel)⟩
theorem lw_p61 : lw_okq (⟨"LassoFinder$LassoSearch", "measureStems", "()V"⟩, 20) := ⟨⟨by decide +kernel, by decide +kernel⟩, List.mem_of_getElem? (i := 1081) (by decide +kernel), List.mem_of_getElem? (i := 1191) (by decide +kernel), List.mem_of_getElem? (i := 1192) (by decide +kernel)⟩
theorem lw_p62 : lw_okq (⟨"LassoFinder$LassoSearch", "shortestStem", "()I"⟩, 20) := ⟨⟨by decide +kernel, by decide +kernel⟩, List.mem_of_getElem? (i := 1081) (by decide +kernel), List.mem_of_getElem? (i := 1195) (by decide +kernel), List.mem_of_getElem? (i := 1196) (by decide +kernel)⟩
theorem lw_p63 : lw_okq (⟨"LassoFinder$LassoSearch", "followStem", "()I"⟩, 20) := ⟨⟨by decide +kernel, by decide +kernel⟩, List.mem_of_getElem? (i := 1081) (by decide +kernel), List.mem_of_getElem? (i := 1199) (by decide +kernel), List.mem_of_getElem? (i := 1200) (by decide +kernel)⟩
def lw_privs_4 : List (MethodName × Nat) := [(⟨"LassoFinder$Truths", "atomHolds", "(I)Z"⟩, 9), (⟨"LassoFinder$Truths", "joined", "(I)I"⟩, 9), (⟨"LassoFinder$Truths", "carried", "(II)I"⟩, 9), (⟨"LassoFinder$Truths", "fillSettled", "(I)V"⟩, 9), (⟨"LassoFinder$Truths", "settledFor", "(I)I"⟩, 9), (⟨"LassoFinder$LassoSearch", "markCycles", "()V"⟩, 20), (⟨"LassoFinder$LassoSearch", "searchFrom", "(I)V"⟩, 20), (⟨"LassoFinder$LassoSearch", "enterSpot", "(I)V"⟩, 20), (⟨"LassoFinder$LassoSearch", "leaveSpot", "(I)V"⟩, 20), (⟨"LassoFinder$LassoSearch", "closePart", "(I)V"⟩, 20), (⟨"LassoFinder$LassoSearch", "leadsToItself", "(I)Z"⟩, 20), (⟨"LassoFinder$LassoSearch", "spotBefore", "(II)I"⟩, 20), (⟨"LassoFinder$LassoSearch", "reach", "(II)V"⟩, 20), (⟨"LassoFinder$LassoSearch", "measureStems", "()V"⟩, 20), (⟨"LassoFinder$LassoSearch", "shortestStem", "()I"⟩, 20), (⟨"LassoFinder$LassoSearch", "followStem", "()I"⟩, 20)]
theorem lw_r4 : ∀ q ∈ lw_privs_4, lw_okq q := List.forall_mem_cons.mpr ⟨lw_p48, List.forall_mem_cons.mpr ⟨lw_p49, List.forall_mem_cons.mpr ⟨lw_p50, List.forall_mem_cons.mpr ⟨lw_p51, List.forall_mem_cons.mpr ⟨lw_p52, List.forall_mem_cons.mpr ⟨lw_p53, List.forall_mem_cons.mpr ⟨lw_p54, List.forall_mem_cons.mpr ⟨lw_p55, List.forall_mem_cons.mpr ⟨lw_p56, List.forall_mem_cons.mpr ⟨lw_p57, List.forall_mem_cons.mpr ⟨lw_p58, List.forall_mem_cons.mpr ⟨lw_p59, List.forall_mem_cons.mpr ⟨lw_p60, List.forall_mem_cons.mpr ⟨lw_p61, List.forall_mem_cons.mpr ⟨lw_p62, List.forall_mem_cons.mpr ⟨lw_p63, fun _ h => absurd h List.not_mem_nil⟩⟩⟩⟩⟩⟩⟩⟩⟩⟩⟩⟩⟩⟩⟩⟩
theorem lw_p64 : lw_okq (⟨"LassoFinder$LassoSearch", "allowedBehind", "(III)I"⟩, 20) := ⟨⟨by decide +kernel, by decide +kernel⟩, List.mem_of_getElem? (i := 1081) (by decide +kernel), List.mem_of_getElem? (i := 1203) (by decide +kernel), List.mem_of_getElem? (i := 1204) (by decide +kernel)⟩
theorem lw_p65 : lw_okq (⟨"LassoFinder$LassoSearch", "findCycle", "(I)V"⟩, 20) := ⟨⟨by decide +kernel, by decide +kernel⟩, List.mem_of_getElem? (i := 1081) (by decide +kernel), List.mem_of_getElem? (i := 1207) (by decide +kernel), List.mem_of_getElem? (i := 1208) (by decide +kernel)⟩
theorem lw_p66 : lw_okq (⟨"LassoFinder$LassoSearch", "measureCycle", "(I)I"⟩, 20) := ⟨⟨by decide +kernel, by decide +kernel⟩, List.mem_of_getElem? (i := 1081) (by decide +kernel), List.mem_of_getElem? (i := 1211) (by decide +kernel), List.mem_of_getElem? (i := 1212) (by decide +kernel)⟩
theorem lw_p67 : lw_okq (⟨"LassoFinder$LassoSearch", "followCycle", "(II)V"⟩, 20) := ⟨⟨by decide +kernel, by decide +kernel⟩, List.mem_of_getElem? (i := 1081) (by decide +kernel), List.mem_of_getElem? (i := 1215) (by decide +kernel), List.mem_of_getElem? (i := 1216) (by decide +kernel)⟩
theorem lw_p68 : lw_okq (⟨"LassoFinder$LassoSearch", "allowedRound", "(JII)J"⟩, 20) := ⟨⟨by decide +kernel, by decide +kernel⟩, List.mem_of_getElem? (i := 1081) (by decide +kernel), List.mem_of_getElem? (i := 1219) (by decide +kernel), List.mem_of_getElem? (i := 1220) (by decide +kernel)⟩
theorem lw_p69 : lw_okq (⟨"LassoFinder$LassoSearch", "canEnd", "(III)Z"⟩, 20) := ⟨⟨by decide +kernel, by decide +kernel⟩, List.mem_of_getElem? (i := 1081) (by decide +kernel), List.mem_of_getElem? (i := 1223) (by decide +kernel), List.mem_of_getElem? (i := 1224) (by decide +kernel)⟩
theorem lw_p70 : lw_okq (⟨"LassoFinder$LassoSearch", "keepBetter", "(I)V"⟩, 20) := ⟨⟨by decide +kernel, by decide +kernel⟩, List.mem_of_getElem? (i := 1081) (by decide +kernel), List.mem_of_getElem? (i := 1227) (by decide +kernel), List.mem_of_getElem? (i := 1228) (by decide +kernel)⟩
theorem lw_p71 : lw_okq (⟨"LassoFinder$Truths", "backTo", "([IIII)I"⟩, 9) := ⟨⟨by decide +kernel, by decide +kernel⟩, List.mem_of_getElem? (i := 421) (by decide +kernel), List.mem_of_getElem? (i := 1285) (by decide +kernel), List.mem_of_getElem? (i := 1286) (by decide +kernel)⟩
theorem lw_p72 : lw_okq (⟨"LassoFinderModel", "wholeModel", "()Z"⟩, 84) := ⟨⟨by decide +kernel, by decide +kernel⟩, List.mem_of_getElem? (i := 1289) (by decide +kernel), List.mem_of_getElem? (i := 1563) (by decide +kernel), List.mem_of_getElem? (i := 1564) (by decide +kernel)⟩
theorem lw_p73 : lw_okq (⟨"LassoFinderModel", "here", "()I"⟩, 84) := ⟨⟨by decide +kernel, by decide +kernel⟩, List.mem_of_getElem? (i := 1289) (by decide +kernel), List.mem_of_getElem? (i := 1567) (by decide +kernel), List.mem_of_getElem? (i := 1568) (by decide +kernel)⟩
theorem lw_p74 : lw_okq (⟨"LassoFinderModel", "declaration", "()Z"⟩, 84) := ⟨⟨by decide +kernel, by decide +kernel⟩, List.mem_of_getElem? (i := 1289) (by decide +kernel), List.mem_of_getElem? (i := 1571) (by decide +kernel), List.mem_of_getElem? (i := 1572) (by decide +kernel)⟩
theorem lw_p75 : lw_okq (⟨"LassoFinderModel", "from", "(II)I"⟩, 84) := ⟨⟨by decide +kernel, by decide +kernel⟩, List.mem_of_getElem? (i := 1289) (by decide +kernel), List.mem_of_getElem? (i := 1575) (by decide +kernel), List.mem_of_getElem? (i := 1576) (by decide +kernel)⟩
theorem lw_p76 : lw_okq (⟨"LassoFinderModel", "fail", "()Z"⟩, 84) := ⟨⟨by decide +kernel, by decide +kernel⟩, List.mem_of_getElem? (i := 1289) (by decide +kernel), List.mem_of_getElem? (i := 1579) (by decide +kernel), List.mem_of_getElem? (i := 1580) (by decide +kernel)⟩
theorem lw_p77 : lw_okq (⟨"LassoFinderModel", "takes", "(I)Z"⟩, 84) := ⟨⟨by decide +kernel, by decide +kernel⟩, List.mem_of_getElem? (i := 1289) (by decide +kernel), List.mem_of_getElem? (i := 1583) (by decide +kernel), List.mem_of_getElem? (i := 1584) (by decide +kernel)⟩
theorem lw_p78 : lw_okq (⟨"LassoFinderModel", "body", "()Z"⟩, 84) := ⟨⟨by decide +kernel, by decide +kernel⟩, List.mem_of_getElem? (i := 1289) (by decide +kernel), List.mem_of_getElem? (i := 1587) (by decide +kernel), List.mem_of_getElem? (i := 1588) (by decide +kernel)⟩
theorem lw_p79 : lw_okq (⟨"LassoFinderModel", "label", "()Z"⟩, 84) := ⟨⟨by decide +kernel, by decide +kernel⟩, List.mem_of_getElem? (i := 1289) (by decide +kernel), List.mem_of_getElem? (i := 1591) (by decide +kernel), List.mem_of_getElem? (i := 1592) (by decide +kernel)⟩
def lw_privs_5 : List (MethodName × Nat) := [(⟨"LassoFinder$LassoSearch", "allowedBehind", "(III)I"⟩, 20), (⟨"LassoFinder$LassoSearch", "findCycle", "(I)V"⟩, 20), (⟨"LassoFinder$LassoSearch", "measureCycle", "(I)I"⟩, 20), (⟨"LassoFinder$LassoSearch", "followCycle", "(II)V"⟩, 20), (⟨"LassoFinder$LassoSearch", "allowedRound", "(JII)J"⟩, 20), (⟨"LassoFinder$LassoSearch", "canEnd", "(III)Z"⟩, 20), (⟨"LassoFinder$LassoSearch", "keepBetter", "(I)V"⟩, 20), (⟨"LassoFinder$Truths", "backTo", "([IIII)I"⟩, 9), (⟨"LassoFinderModel", "wholeModel", "()Z"⟩, 84), (⟨"LassoFinderModel", "here", "()I"⟩, 84), (⟨"LassoFinderModel", "declaration", "()Z"⟩, 84), (⟨"LassoFinderModel", "from", "(II)I"⟩, 84), (⟨"LassoFinderModel", "fail", "()Z"⟩, 84), (⟨"LassoFinderModel", "takes", "(I)Z"⟩, 84), (⟨"LassoFinderModel", "body", "()Z"⟩, 84), (⟨"LassoFinderModel", "label", "()Z"⟩, 84)]
theorem lw_r5 : ∀ q ∈ lw_privs_5, lw_okq q := List.forall_mem_cons.mpr ⟨lw_p64, List.forall_mem_cons.mpr ⟨lw_p65, List.forall_mem_cons.mpr ⟨lw_p66, List.forall_mem_cons.mpr ⟨lw_p67, List.forall_mem_cons.mpr ⟨lw_p68, List.forall_mem_cons.mpr ⟨lw_p69, List.forall_mem_cons.mpr ⟨lw_p70, List.forall_mem_cons.mpr ⟨lw_p71, List.forall_mem_cons.mpr ⟨lw_p72, List.forall_mem_cons.mpr ⟨lw_p73, List.forall_mem_cons.mpr ⟨lw_p74, List.forall_mem_cons.mpr ⟨lw_p75, List.forall_mem_cons.mpr ⟨lw_p76, List.forall_mem_cons.mpr ⟨lw_p77, List.forall_mem_cons.mpr ⟨lw_p78, List.forall_mem_cons.mpr ⟨lw_p79, fun _ h => absurd h List.not_mem_nil⟩⟩⟩⟩⟩⟩⟩⟩⟩⟩⟩⟩⟩⟩⟩⟩
theorem lw_p80 : lw_okq (⟨"LassoFinderModel", "statement", "()Z"⟩, 84) := ⟨⟨by decide +kernel, by decide +kernel⟩, List.mem_of_getElem? (i := 1289) (by decide +kernel), List.mem_of_getElem? (i := 1595) (by decide +kernel), List.mem_of_getElem? (i := 1596) (by decide +kernel)⟩
theorem lw_p81 : lw_okq (⟨"LassoFinderModel", "node", "(I)I"⟩, 84) := ⟨⟨by decide +kernel, by decide +kernel⟩, List.mem_of_getElem? (i := 1289) (by decide +kernel), List.mem_of_getElem? (i := 1599) (by decide +kernel), List.mem_of_getElem? (i := 1600) (by decide +kernel)⟩
theorem lw_p82 : lw_okq (⟨"LassoFinderModel", "enter", "(II)V"⟩, 84) := ⟨⟨by decide +kernel, by decide +kernel⟩, List.mem_of_getElem? (i := 1289) (by decide +kernel), List.mem_of_getElem? (i := 1603) (by decide +kernel), List.mem_of_getElem? (i := 1604) (by decide +kernel)⟩
theorem lw_p83 : lw_okq (⟨"LassoFinderModel", "around", "(I)Z"⟩, 84) := ⟨⟨by decide +kernel, by decide +kernel⟩, List.mem_of_getElem? (i := 1289) (by decide +kernel), List.mem_of_getElem? (i := 1607) (by decide +kernel), List.mem_of_getElem? (i := 1608) (by decide +kernel)⟩
theorem lw_p84 : lw_okq (⟨"LassoFinderModel", "basic", "(IZ)Z"⟩, 84) := ⟨⟨by decide +kernel, by decide +kernel⟩, List.mem_of_getElem? (i := 1289) (by decide +kernel), List.mem_of_getElem? (i := 1611) (by decide +kernel), List.mem_of_getElem? (i := 1612) (by decide +kernel)⟩
theorem lw_p85 : lw_okq (⟨"LassoFinderModel", "expression", "(I)Z"⟩, 84) := ⟨⟨by decide +kernel, by decide +kernel⟩, List.mem_of_getElem? (i := 1289) (by decide +kernel), List.mem_of_getElem? (i := 1615) (by decide +kernel), List.mem_of_getElem? (i := 1616) (by decide +kernel)⟩
theorem lw_p86 : lw_okq (⟨"LassoFinderModel", "emit", "(I)V"⟩, 84) := ⟨⟨by decide +kernel, by decide +kernel⟩, List.mem_of_getElem? (i := 1289) (by decide +kernel), List.mem_of_getElem? (i := 1619) (by decide +kernel), List.mem_of_getElem? (i := 1620) (by decide +kernel)⟩
theorem lw_p87 : lw_okq (⟨"LassoFinderModel", "settle", "(I)V"⟩, 84) := ⟨⟨by decide +kernel, by decide +kernel⟩, List.mem_of_getElem? (i := 1289) (by decide +kernel), List.mem_of_getElem? (i := 1623) (by decide +kernel), List.mem_of_getElem? (i := 1624) (by decide +kernel)⟩
theorem lw_p88 : lw_okq (⟨"LassoFinderModel", "jumps", "(I)Z"⟩, 84) := ⟨⟨by decide +kernel, by decide +kernel⟩, List.mem_of_getElem? (i := 1289) (by decide +kernel), List.mem_of_getElem? (i := 1630) (by decide +kernel), List.mem_of_getElem? (i := 1631) (by decide +kernel)⟩
theorem lw_p89 : lw_okq (⟨"LassoFinderModel", "instead", "(I)I"⟩, 84) := ⟨⟨by decide +kernel, by decide +kernel⟩, List.mem_of_getElem? (i := 1289) (by decide +kernel), List.mem_of_getElem? (i := 1634) (by decide +kernel), List.mem_of_getElem? (i := 1635) (by decide +kernel)⟩
theorem lw_p90 : lw_okq (⟨"LassoFinderModel", "next", "(I)I"⟩, 84) := ⟨⟨by decide +kernel, by decide +kernel⟩, List.mem_of_getElem? (i := 1289) (by decide +kernel), List.mem_of_getElem? (i := 1638) (by decide +kernel), List.mem_of_getElem? (i := 1639) (by decide +kernel)⟩
theorem lw_p91 : lw_okq (⟨"LassoFinderModel", "link", "()V"⟩, 84) := ⟨⟨by decide +kernel, by decide +kernel⟩, List.mem_of_getElem? (i := 1289) (by decide +kernel), List.mem_of_getElem? (i := 1642) (by decide +kernel), List.mem_of_getElem? (i := 1643) (by decide +kernel)⟩
theorem lw_p92 : lw_okq (⟨"LassoFinderModel", "pointOf", "(II)I"⟩, 84) := ⟨⟨by decide +kernel, by decide +kernel⟩, List.mem_of_getElem? (i := 1289) (by decide +kernel), List.mem_of_getElem? (i := 1646) (by decide +kernel), List.mem_of_getElem? (i := 1647) (by decide +kernel)⟩
theorem lw_p93 : lw_okq (⟨"LassoFinderModel", "reach", "()Z"⟩, 84) := ⟨⟨by decide +kernel, by decide +kernel⟩, List.mem_of_getElem? (i := 1289) (by decide +kernel), List.mem_of_getElem? (i := 1650) (by decide +kernel), List.mem_of_getElem? (i := 1651) (by decide +kernel)⟩
theorem lw_p94 : lw_okq (⟨"LassoFinderModel", "packed", "()J"⟩, 84) := ⟨⟨by decide +kernel, by decide +kernel⟩, List.mem_of_getElem? (i := 1289) (by decide +kernel), List.mem_of_getElem? (i := 1654) (by decide +kernel), List.mem_of_getElem? (i := 1655) (by decide +kernel)⟩
theorem lw_p95 : lw_okq (⟨"LassoFinderModel", "expand", "(I)V"⟩, 84) := ⟨⟨by decide +kernel, by decide +kernel⟩, List.mem_of_getElem? (i := 1289) (by decide +kernel), List.mem_of_getElem? (i := 1658) (by decide +kernel), List.mem_of_getElem? (i := 1659) (by decide +kernel)⟩
def lw_privs_6 : List (MethodName × Nat) := [(⟨"LassoFinderModel", "statement", "()Z"⟩, 84), (⟨"LassoFinderModel", "node", "(I)I"⟩, 84), (⟨"LassoFinderModel", "enter", "(II)V"⟩, 84), (⟨"LassoFinderModel", "around", "(I)Z"⟩, 84), (⟨"LassoFinderModel", "basic", "(IZ)Z"⟩, 84), (⟨"LassoFinderModel", "expression", "(I)Z"⟩, 84), (⟨"LassoFinderModel", "emit", "(I)V"⟩, 84), (⟨"LassoFinderModel", "settle", "(I)V"⟩, 84), (⟨"LassoFinderModel", "jumps", "(I)Z"⟩, 84), (⟨"LassoFinderModel", "instead", "(I)I"⟩, 84), (⟨"LassoFinderModel", "next", "(I)I"⟩, 84), (⟨"LassoFinderModel", "link", "()V"⟩, 84), (⟨"LassoFinderModel", "pointOf", "(II)I"⟩, 84), (⟨"LassoFinderModel", "reach", "()Z"⟩, 84), (⟨"LassoFinderModel", "packed", "()J"⟩, 84), (⟨"LassoFinderModel", "expand", "(I)V"⟩, 84)]
theorem lw_r6 : ∀ q ∈ lw_privs_6, lw_okq q := List.forall_mem_cons.mpr ⟨lw_p80, List.forall_mem_cons.mpr ⟨lw_p81, List.forall_mem_cons.mpr ⟨lw_p82, List.forall_mem_cons.mpr ⟨lw_p83, List.forall_mem_cons.mpr ⟨lw_p84, List.forall_mem_cons.mpr ⟨lw_p85, List.forall_mem_cons.mpr ⟨lw_p86, List.forall_mem_cons.mpr ⟨lw_p87, List.forall_mem_cons.mpr ⟨lw_p88, List.forall_mem_cons.mpr ⟨lw_p89, List.forall_mem_cons.mpr ⟨lw_p90, List.forall_mem_cons.mpr ⟨lw_p91, List.forall_mem_cons.mpr ⟨lw_p92, List.forall_mem_cons.mpr ⟨lw_p93, List.forall_mem_cons.mpr ⟨lw_p94, List.forall_mem_cons.mpr ⟨lw_p95, fun _ h => absurd h List.not_mem_nil⟩⟩⟩⟩⟩⟩⟩⟩⟩⟩⟩⟩⟩⟩⟩⟩
theorem lw_p96 : lw_okq (⟨"LassoFinderModel", "unpack", "(J)V"⟩, 84) := ⟨⟨by decide +kernel, by decide +kernel⟩, List.mem_of_getElem? (i := 1289) (by decide +kernel), List.mem_of_getElem? (i := 1662) (by decide +kernel), List.mem_of_getElem? (i := 1663) (by decide +kernel)⟩
theorem lw_p97 : lw_okq (⟨"LassoFinderModel", "doable", "()J"⟩, 84) := ⟨⟨by decide +kernel, by decide +kernel⟩, List.mem_of_getElem? (i := 1289) (by decide +kernel), List.mem_of_getElem? (i := 1669) (by decide +kernel), List.mem_of_getElem? (i := 1670) (by decide +kernel)⟩
theorem lw_p98 : lw_okq (⟨"LassoFinderModel", "maskOf", "(I)J"⟩, 84) := ⟨⟨by decide +kernel, by decide +kernel⟩, List.mem_of_getElem? (i := 1289) (by decide +kernel), List.mem_of_getElem? (i := 1673) (by decide +kernel), List.mem_of_getElem? (i := 1674) (by decide +kernel)⟩
theorem lw_p99 : lw_okq (⟨"LassoFinderModel", "can", "(I)Z"⟩, 84) := ⟨⟨by decide +kernel, by decide +kernel⟩, List.mem_of_getElem? (i := 1289) (by decide +kernel), List.mem_of_getElem? (i := 1677) (by decide +kernel), List.mem_of_getElem? (i := 1678) (by decide +kernel)⟩
theorem lw_p100 : lw_okq (⟨"LassoFinderModel", "worth", "(II)I"⟩, 84) := ⟨⟨by decide +kernel, by decide +kernel⟩, List.mem_of_getElem? (i := 1289) (by decide +kernel), List.mem_of_getElem? (i := 1681) (by decide +kernel), List.mem_of_getElem? (i := 1682) (by decide +kernel)⟩
theorem lw_p101 : lw_okq (⟨"LassoFinderModel", "meets", "(II)Z"⟩, 84) := ⟨⟨by decide +kernel, by decide +kernel⟩, List.mem_of_getElem? (i := 1289) (by decide +kernel), List.mem_of_getElem? (i := 1685) (by decide +kernel), List.mem_of_getElem? (i := 1686) (by decide +kernel)⟩
theorem lw_p102 : lw_okq (⟨"LassoFinderModel", "step", "(III)V"⟩, 84) := ⟨⟨by decide +kernel, by decide +kernel⟩, List.mem_of_getElem? (i := 1289) (by decide +kernel), List.mem_of_getElem? (i := 1689) (by decide +kernel), List.mem_of_getElem? (i := 1690) (by decide +kernel)⟩
theorem lw_p103 : lw_okq (⟨"LassoFinderModel", "act", "(II)V"⟩, 84) := ⟨⟨by decide +kernel, by decide +kernel⟩, List.mem_of_getElem? (i := 1289) (by decide +kernel), List.mem_of_getElem? (i := 1693) (by decide +kernel), List.mem_of_getElem? (i := 1694) (by decide +kernel)⟩
theorem lw_p104 : lw_okq (⟨"LassoFinderModel", "goesOn", "(II)Z"⟩, 84) := ⟨⟨by decide +kernel, by decide +kernel⟩, List.mem_of_getElem? (i := 1289) (by decide +kernel), List.mem_of_getElem? (i := 1697) (by decide +kernel), List.mem_of_getElem? (i := 1698) (by decide +kernel)⟩
theorem lw_p105 : lw_okq (⟨"LassoFinderModel", "wholeFormula", "()Z"⟩, 84) := ⟨⟨by decide +kernel, by decide +kernel⟩, List.mem_of_getElem? (i := 1289) (by decide +kernel), List.mem_of_getElem? (i := 1709) (by decide +kernel), List.mem_of_getElem? (i := 1710) (by decide +kernel)⟩
theorem lw_p106 : lw_okq (⟨"LassoFinderModel", "push", "(I)Z"⟩, 84) := ⟨⟨by decide +kernel, by decide +kernel⟩, List.mem_of_getElem? (i := 1289) (by decide +kernel), List.mem_of_getElem? (i := 1713) (by decide +kernel), List.mem_of_getElem? (i := 1714) (by decide +kernel)⟩
theorem lw_p107 : lw_okq (⟨"LassoFinderModel", "depth", "()I"⟩, 84) := ⟨⟨by decide +kernel, by decide +kernel⟩, List.mem_of_getElem? (i := 1289) (by decide +kernel), List.mem_of_getElem? (i := 1720) (by decide +kernel), List.mem_of_getElem? (i := 1721) (by decide +kernel)⟩
theorem lw_p108 : lw_okq (⟨"LassoFinderModel", "atom", "()Z"⟩, 84) := ⟨⟨by decide +kernel, by decide +kernel⟩, List.mem_of_getElem? (i := 1289) (by decide +kernel), List.mem_of_getElem? (i := 1724) (by decide +kernel), List.mem_of_getElem? (i := 1725) (by decide +kernel)⟩
theorem lw_p109 : lw_okq (⟨"LassoFinderModel", "put", "(I)V"⟩, 84) := ⟨⟨by decide +kernel, by decide +kernel⟩, List.mem_of_getElem? (i := 1289) (by decide +kernel), List.mem_of_getElem? (i := 1728) (by decide +kernel), List.mem_of_getElem? (i := 1729) (by decide +kernel)⟩
theorem lw_p110 : lw_okq (⟨"LassoFinderModel", "putAll", "(I)V"⟩, 84) := ⟨⟨by decide +kernel, by decide +kernel⟩, List.mem_of_getElem? (i := 1289) (by decide +kernel), List.mem_of_getElem? (i := 1732) (by decide +kernel), List.mem_of_getElem? (i := 1733) (by decide +kernel)⟩
theorem lw_p111 : lw_okq (⟨"LassoFinderModel", "holdsAt", "(I)Z"⟩, 84) := ⟨⟨by decide +kernel, by decide +kernel⟩, List.mem_of_getElem? (i := 1289) (by decide +kernel), List.mem_of_getElem? (i := 1736) (by decide +kernel), List.mem_of_getElem? (i := 1737) (by decide +kernel)⟩
def lw_privs_7 : List (MethodName × Nat) := [(⟨"LassoFinderModel", "unpack", "(J)V"⟩, 84), (⟨"LassoFinderModel", "doable", "()J"⟩, 84), (⟨"LassoFinderModel", "maskOf", "(I)J"⟩, 84), (⟨"LassoFinderModel", "can", "(I)Z"⟩, 84), (⟨"LassoFinderModel", "worth", "(II)I"⟩, 84), (⟨"LassoFinderModel", "meets", "(II)Z"⟩, 84), (⟨"LassoFinderModel", "step", "(III)V"⟩, 84), (⟨"LassoFinderModel", "act", "(II)V"⟩, 84), (⟨"LassoFinderModel", "goesOn", "(II)Z"⟩, 84), (⟨"LassoFinderModel", "wholeFormula", "()Z"⟩, 84), (⟨"LassoFinderModel", "push", "(I)Z"⟩, 84), (⟨"LassoFinderModel", "depth", "()I"⟩, 84), (⟨"LassoFinderModel", "atom", "()Z"⟩, 84), (⟨"LassoFinderModel", "put", "(I)V"⟩, 84), (⟨"LassoFinderModel", "putAll", "(I)V"⟩, 84), (⟨"LassoFinderModel", "holdsAt", "(I)Z"⟩, 84)]
theorem lw_r7 : ∀ q ∈ lw_privs_7, lw_okq q := List.forall_mem_cons.mpr ⟨lw_p96, List.forall_mem_cons.mpr ⟨lw_p97, List.forall_mem_cons.mpr ⟨lw_p98, List.forall_mem_cons.mpr ⟨lw_p99, List.forall_mem_cons.mpr ⟨lw_p100, List.forall_mem_cons.mpr ⟨lw_p101, List.forall_mem_cons.mpr ⟨lw_p102, List.forall_mem_cons.mpr ⟨lw_p103, List.forall_mem_cons.mpr ⟨lw_p104, List.forall_mem_cons.mpr ⟨lw_p105, List.forall_mem_cons.mpr ⟨lw_p106, List.forall_mem_cons.mpr ⟨lw_p107, List.forall_mem_cons.mpr ⟨lw_p108, List.forall_mem_cons.mpr ⟨lw_p109, List.forall_mem_cons.mpr ⟨lw_p110, List.forall_mem_cons.mpr ⟨lw_p111, fun _ h => absurd h List.not_mem_nil⟩⟩⟩⟩⟩⟩⟩⟩⟩⟩⟩⟩⟩⟩⟩⟩
theorem lw_p112 : lw_okq (⟨"LassoFinderModel", "looked", "(II)I"⟩, 84) := ⟨⟨by decide +kernel, by decide +kernel⟩, List.mem_of_getElem? (i := 1289) (by decide +kernel), List.mem_of_getElem? (i := 1740) (by decide +kernel), List.mem_of_getElem? (i := 1741) (by decide +kernel)⟩
theorem lw_p113 : lw_okq (⟨"LassoFinderModel", "shortest", "()I"⟩, 84) := ⟨⟨by decide +kernel, by decide +kernel⟩, List.mem_of_getElem? (i := 1289) (by decide +kernel), List.mem_of_getElem? (i := 1748) (by decide +kernel), List.mem_of_getElem? (i := 1749) (by decide +kernel)⟩
theorem lw_p114 : lw_okq (⟨"LassoFinderModel", "isTrue", "(II)Z"⟩, 84) := ⟨⟨by decide +kernel, by decide +kernel⟩, List.mem_of_getElem? (i := 1289) (by decide +kernel), List.mem_of_getElem? (i := 1752) (by decide +kernel), List.mem_of_getElem? (i := 1753) (by decide +kernel)⟩
theorem lw_p115 : lw_okq (⟨"LassoFinderModel", "nearest", "(II)I"⟩, 84) := ⟨⟨by decide +kernel, by decide +kernel⟩, List.mem_of_getElem? (i := 1289) (by decide +kernel), List.mem_of_getElem? (i := 1756) (by decide +kernel), List.mem_of_getElem? (i := 1757) (by decide +kernel)⟩
theorem lw_p116 : lw_okq (⟨"LassoFinderModel", "measure", "(II)V"⟩, 84) := ⟨⟨by decide +kernel, by decide +kernel⟩, List.mem_of_getElem? (i := 1289) (by decide +kernel), List.mem_of_getElem? (i := 1760) (by decide +kernel), List.mem_of_getElem? (i := 1761) (by decide +kernel)⟩
theorem lw_p117 : lw_okq (⟨"LassoFinderModel", "settled", "(II)I"⟩, 84) := ⟨⟨by decide +kernel, by decide +kernel⟩, List.mem_of_getElem? (i := 1289) (by decide +kernel), List.mem_of_getElem? (i := 1764) (by decide +kernel), List.mem_of_getElem? (i := 1765) (by decide +kernel)⟩
theorem lw_p118 : lw_okq (⟨"LassoFinderModel", "truthAt", "(II)I"⟩, 84) := ⟨⟨by decide +kernel, by decide +kernel⟩, List.mem_of_getElem? (i := 1289) (by decide +kernel), List.mem_of_getElem? (i := 1768) (by decide +kernel), List.mem_of_getElem? (i := 1769) (by decide +kernel)⟩
theorem lw_p119 : lw_okq (⟨"LassoFinderModel", "before", "(IIII)I"⟩, 84) := ⟨⟨by decide +kernel, by decide +kernel⟩, List.mem_of_getElem? (i := 1289) (by decide +kernel), List.mem_of_getElem? (i := 1772) (by decide +kernel), List.mem_of_getElem? (i := 1773) (by decide +kernel)⟩
theorem lw_p120 : lw_okq (⟨"LassoFinderModel", "away", "(I)I"⟩, 84) := ⟨⟨by decide +kernel, by decide +kernel⟩, List.mem_of_getElem? (i := 1289) (by decide +kernel), List.mem_of_getElem? (i := 1776) (by decide +kernel), List.mem_of_getElem? (i := 1777) (by decide +kernel)⟩
theorem lw_p121 : lw_okq (⟨"LassoFinderModel", "spread", "(I)Z"⟩, 84) := ⟨⟨by decide +kernel, by decide +kernel⟩, List.mem_of_getElem? (i := 1289) (by decide +kernel), List.mem_of_getElem? (i := 1780) (by decide +kernel), List.mem_of_getElem? (i := 1781) (by decide +kernel)⟩
theorem lw_p122 : lw_okq (⟨"LassoFinderModel", "stemOf", "()I"⟩, 84) := ⟨⟨by decide +kernel, by decide +kernel⟩, List.mem_of_getElem? (i := 1289) (by decide +kernel), List.mem_of_getElem? (i := 1784) (by decide +kernel), List.mem_of_getElem? (i := 1785) (by decide +kernel)⟩
theorem lw_p123 : lw_okq (⟨"LassoFinderModel", "round", "(II)I"⟩, 84) := ⟨⟨by decide +kernel, by decide +kernel⟩, List.mem_of_getElem? (i := 1289) (by decide +kernel), List.mem_of_getElem? (i := 1794) (by decide +kernel), List.mem_of_getElem? (i := 1795) (by decide +kernel)⟩
theorem lw_p124 : lw_okq (⟨"LassoFinderModel", "ahead", "(IJI)J"⟩, 84) := ⟨⟨by decide +kernel, by decide +kernel⟩, List.mem_of_getElem? (i := 1289) (by decide +kernel), List.mem_of_getElem? (i := 1798) (by decide +kernel), List.mem_of_getElem? (i := 1799) (by decide +kernel)⟩
theorem lw_p125 : lw_okq (⟨"LassoFinderModel", "sooner", "(I)Z"⟩, 84) := ⟨⟨by decide +kernel, by decide +kernel⟩, List.mem_of_getElem? (i := 1289) (by decide +kernel), List.mem_of_getElem? (i := 1802) (by decide +kernel), List.mem_of_getElem? (i := 1803) (by decide +kernel)⟩
theorem lw_p126 : lw_okq (⟨"LassoFinderModel", "stood", "()Z"⟩, 84) := ⟨⟨by decide +kernel, by decide +kernel⟩, List.mem_of_getElem? (i := 1289) (by decide +kernel), List.mem_of_getElem? (i := 1834) (by decide +kernel), List.mem_of_getElem? (i := 1835) (by decide +kernel)⟩
def lw_privs_8 : List (MethodName × Nat) := [(⟨"LassoFinderModel", "looked", "(II)I"⟩, 84), (⟨"LassoFinderModel", "shortest", "()I"⟩, 84), (⟨"LassoFinderModel", "isTrue", "(II)Z"⟩, 84), (⟨"LassoFinderModel", "nearest", "(II)I"⟩, 84), (⟨"LassoFinderModel", "measure", "(II)V"⟩, 84), (⟨"LassoFinderModel", "settled", "(II)I"⟩, 84), (⟨"LassoFinderModel", "truthAt", "(II)I"⟩, 84), (⟨"LassoFinderModel", "before", "(IIII)I"⟩, 84), (⟨"LassoFinderModel", "away", "(I)I"⟩, 84), (⟨"LassoFinderModel", "spread", "(I)Z"⟩, 84), (⟨"LassoFinderModel", "stemOf", "()I"⟩, 84), (⟨"LassoFinderModel", "round", "(II)I"⟩, 84), (⟨"LassoFinderModel", "ahead", "(IJI)J"⟩, 84), (⟨"LassoFinderModel", "sooner", "(I)Z"⟩, 84), (⟨"LassoFinderModel", "stood", "()Z"⟩, 84)]
theorem lw_r8 : ∀ q ∈ lw_privs_8, lw_okq q := List.forall_mem_cons.mpr ⟨lw_p112, List.forall_mem_cons.mpr ⟨lw_p113, List.forall_mem_cons.mpr ⟨lw_p114, List.forall_mem_cons.mpr ⟨lw_p115, List.forall_mem_cons.mpr ⟨lw_p116, List.forall_mem_cons.mpr ⟨lw_p117, List.forall_mem_cons.mpr ⟨lw_p118, List.forall_mem_cons.mpr ⟨lw_p119, List.forall_mem_cons.mpr ⟨lw_p120, List.forall_mem_cons.mpr ⟨lw_p121, List.forall_mem_cons.mpr ⟨lw_p122, List.forall_mem_cons.mpr ⟨lw_p123, List.forall_mem_cons.mpr ⟨lw_p124, List.forall_mem_cons.mpr ⟨lw_p125, List.forall_mem_cons.mpr ⟨lw_p126, fun _ h => absurd h List.not_mem_nil⟩⟩⟩⟩⟩⟩⟩⟩⟩⟩⟩⟩⟩⟩⟩
def lw_privs : List (MethodName × Nat) := lw_privs_1 ++ (lw_privs_2 ++ (lw_privs_3 ++ (lw_privs_4 ++ (lw_privs_5 ++ (lw_privs_6 ++ (lw_privs_7 ++ (lw_privs_8)))))))
def lw_tbl : List Cond := k2_sels lw_privs ++ tables_1
theorem lw_privs_ok : ∀ q ∈ lw_privs, lw_okq q := by
  show ∀ q ∈ lw_privs_1 ++ (lw_privs_2 ++ (lw_privs_3 ++ (lw_privs_4 ++ (lw_privs_5 ++ (lw_privs_6 ++ (lw_privs_7 ++ (lw_privs_8))))))), lw_okq q
  exact List.forall_mem_append.mpr ⟨lw_r1, List.forall_mem_append.mpr ⟨lw_r2, List.forall_mem_append.mpr ⟨lw_r3, List.forall_mem_append.mpr ⟨lw_r4, List.forall_mem_append.mpr ⟨lw_r5, List.forall_mem_append.mpr ⟨lw_r6, List.forall_mem_append.mpr ⟨lw_r7, lw_r8⟩⟩⟩⟩⟩⟩⟩
end
section
theorem zt_1 : ∀ w ∈ tables_1_1, w ∈ lw_tbl := fun w h => List.mem_append_right _ (List.mem_append_left _ h)
theorem zt_2 : ∀ w ∈ tables_1_2, w ∈ lw_tbl := fun w h => List.mem_append_right _ (List.mem_append_right _ (List.mem_append_left _ h))
theorem zt_3 : ∀ w ∈ tables_1_3, w ∈ lw_tbl := fun w h => List.mem_append_right _ (List.mem_append_right _ (List.mem_append_right _ (List.mem_append_left _ h)))
theorem zt_4 : ∀ w ∈ tables_1_4, w ∈ lw_tbl := fun w h => List.mem_append_right _ (List.mem_append_right _ (List.mem_append_right _ (List.mem_append_right _ (List.mem_append_left _ h))))
theorem zt_5 : ∀ w ∈ tables_1_5, w ∈ lw_tbl := fun w h => List.mem_append_right _ (List.mem_append_right _ (List.mem_append_right _ (List.mem_append_right _ (List.mem_append_right _ (List.mem_append_left _ h)))))
theorem zt_6 : ∀ w ∈ tables_1_6, w ∈ lw_tbl := fun w h => List.mem_append_right _ (List.mem_append_right _ (List.mem_append_right _ (List.mem_append_right _ (List.mem_append_right _ (List.mem_append_right _ (List.mem_append_left _ h))))))
theorem zt_7 : ∀ w ∈ tables_1_7, w ∈ lw_tbl := fun w h => List.mem_append_right _ (List.mem_append_right _ (List.mem_append_right _ (List.mem_append_right _ (List.mem_append_right _ (List.mem_append_right _ (List.mem_append_right _ (List.mem_append_left _ h)))))))
theorem zt_8 : ∀ w ∈ tables_1_8, w ∈ lw_tbl := fun w h => List.mem_append_right _ (List.mem_append_right _ (List.mem_append_right _ (List.mem_append_right _ (List.mem_append_right _ (List.mem_append_right _ (List.mem_append_right _ (List.mem_append_right _ (h))))))))
theorem zp_1 : ∀ q ∈ lw_privs_1, Cond.selects q.1.cls q.1 q.1 ∈ lw_tbl := fun q h => List.mem_append_left _ (List.mem_map.mpr ⟨q, List.mem_append_left _ h, rfl⟩)
theorem zp_2 : ∀ q ∈ lw_privs_2, Cond.selects q.1.cls q.1 q.1 ∈ lw_tbl := fun q h => List.mem_append_left _ (List.mem_map.mpr ⟨q, List.mem_append_right _ (List.mem_append_left _ h), rfl⟩)
theorem zp_3 : ∀ q ∈ lw_privs_3, Cond.selects q.1.cls q.1 q.1 ∈ lw_tbl := fun q h => List.mem_append_left _ (List.mem_map.mpr ⟨q, List.mem_append_right _ (List.mem_append_right _ (List.mem_append_left _ h)), rfl⟩)
theorem zp_4 : ∀ q ∈ lw_privs_4, Cond.selects q.1.cls q.1 q.1 ∈ lw_tbl := fun q h => List.mem_append_left _ (List.mem_map.mpr ⟨q, List.mem_append_right _ (List.mem_append_right _ (List.mem_append_right _ (List.mem_append_left _ h))), rfl⟩)
theorem zp_5 : ∀ q ∈ lw_privs_5, Cond.selects q.1.cls q.1 q.1 ∈ lw_tbl := fun q h => List.mem_append_left _ (List.mem_map.mpr ⟨q, List.mem_append_right _ (List.mem_append_right _ (List.mem_append_right _ (List.mem_append_right _ (List.mem_append_left _ h)))), rfl⟩)
theorem zp_6 : ∀ q ∈ lw_privs_6, Cond.selects q.1.cls q.1 q.1 ∈ lw_tbl := fun q h => List.mem_append_left _ (List.mem_map.mpr ⟨q, List.mem_append_right _ (List.mem_append_right _ (List.mem_append_right _ (List.mem_append_right _ (List.mem_append_right _ (List.mem_append_left _ h))))), rfl⟩)
theorem zp_7 : ∀ q ∈ lw_privs_7, Cond.selects q.1.cls q.1 q.1 ∈ lw_tbl := fun q h => List.mem_append_left _ (List.mem_map.mpr ⟨q, List.mem_append_right _ (List.mem_append_right _ (List.mem_append_right _ (List.mem_append_right _ (List.mem_append_right _ (List.mem_append_right _ (List.mem_append_left _ h)))))), rfl⟩)
theorem zp_8 : ∀ q ∈ lw_privs_8, Cond.selects q.1.cls q.1 q.1 ∈ lw_tbl := fun q h => List.mem_append_left _ (List.mem_map.mpr ⟨q, List.mem_append_right _ (List.mem_append_right _ (List.mem_append_right _ (List.mem_append_right _ (List.mem_append_right _ (List.mem_append_right _ (List.mem_append_right _ (h))))))), rfl⟩)
/-- the words that a call may hand on -/
def zTB : List Cond := lw_tbl.filter goodWord
theorem zTB_good : ∀ w ∈ zTB, (w.onTables && w.keeps) = true ∨ ∃ ty, w = Cond.arrayClass ty := fun w h => good_of_word (List.mem_filter.mp h).2
theorem z_in {w : Cond} (h : w ∈ lw_tbl) (g : goodWord w = true) : w ∈ zTB := List.mem_filter.mpr ⟨h, g⟩
def zT0 : u_T := fun k => match k with
  | 0 => ("LassoFinder", "text", "LLassoFinder$Text;", true)
  | 1 => ("LassoFinder", "names", "LLassoFinder$Names;", true)
  | 2 => ("LassoFinder", "program", "LLassoFinder$Program;", true)
  | 3 => ("LassoFinder", "reader", "LLassoFinder$ModelReader;", true)
  | 4 => ("LassoFinder", "situation", "LLassoFinder$Situation;", true)
  | 5 => ("LassoFinder", "graph", "LLassoFinder$Graph;", true)
  | 6 => ("LassoFinder", "asked", "LLassoFinder$Formula;", true)
  | 7 => ("LassoFinder", "truths", "LLassoFinder$Truths;", true)
  | 8 => ("LassoFinder", "search", "LLassoFinder$LassoSearch;", false)
  | 9 => ("LassoFinder", "walked", "[I", true)
  | 10 => ("LassoFinder", "walkLength", "I", false)
  | 11 => ("LassoFinder", "hasModel", "Z", false)
  | _ => ("LassoFinder", "hasFormula", "Z", false)
def zty0 : Nat → FieldType := fun k => match k with
  | 0 => .object "LassoFinder$Text"
  | 1 => .object "LassoFinder$Names"
  | 2 => .object "LassoFinder$Program"
  | 3 => .object "LassoFinder$ModelReader"
  | 4 => .object "LassoFinder$Situation"
  | 5 => .object "LassoFinder$Graph"
  | 6 => .object "LassoFinder$Formula"
  | 7 => .object "LassoFinder$Truths"
  | 8 => .object "LassoFinder$LassoSearch"
  | 9 => .array .int
  | 10 => .int
  | 11 => .boolean
  | _ => .boolean
def zT1 : u_T := fun k => match k with
  | 0 => ("LassoFinder$Formula", "text", "LLassoFinder$Text;", true)
  | 1 => ("LassoFinder$Formula", "program", "LLassoFinder$Program;", true)
  | 2 => ("LassoFinder$Formula", "terms", "LLassoFinder$Terms;", true)
  | 3 => ("LassoFinder$Formula", "kinds", "[I", true)
  | 4 => ("LassoFinder$Formula", "left", "[I", true)
  | 5 => ("LassoFinder$Formula", "right", "[I", true)
  | 6 => ("LassoFinder$Formula", "temporalParts", "[I", true)
  | 7 => ("LassoFinder$Formula", "temporals", "I", false)
  | 8 => ("LassoFinder$Formula", "size", "I", false)
  | 9 => ("LassoFinder$Formula", "temporalSigns", "I", false)
  | _ => ("LassoFinder$Formula", "atoms", "I", false)
def zty1 : Nat → FieldType := fun k => match k with
  | 0 => .object "LassoFinder$Text"
  | 1 => .object "LassoFinder$Program"
  | 2 => .object "LassoFinder$Terms"
  | 3 => .array .int
  | 4 => .array .int
  | 5 => .array .int
  | 6 => .array .int
  | 7 => .int
  | 8 => .int
  | 9 => .int
  | _ => .int
def zT2 : u_T := fun k => match k with
  | 0 => ("LassoFinder$Graph", "situation", "LLassoFinder$Situation;", true)
  | 1 => ("LassoFinder$Graph", "packedStates", "[J", true)
  | 2 => ("LassoFinder$Graph", "firstStep", "[I", true)
  | 3 => ("LassoFinder$Graph", "stepFrom", "[I", true)
  | 4 => ("LassoFinder$Graph", "stepTo", "[I", true)
  | 5 => ("LassoFinder$Graph", "stepBasic", "[I", true)
  | 6 => ("LassoFinder$Graph", "stepPartner", "[I", true)
  | 7 => ("LassoFinder$Graph", "firstSource", "[I", true)
  | 8 => ("LassoFinder$Graph", "sources", "[I", true)
  | 9 => ("LassoFinder$Graph", "states", "I", false)
  | _ => ("LassoFinder$Graph", "steps", "I", false)
def zty2 : Nat → FieldType := fun k => match k with
  | 0 => .object "LassoFinder$Situation"
  | 1 => .array .long
  | 2 => .array .int
  | 3 => .array .int
  | 4 => .array .int
  | 5 => .array .int
  | 6 => .array .int
  | 7 => .array .int
  | 8 => .array .int
  | 9 => .int
  | _ => .int
def zT3 : u_T := fun k => match k with
  | 0 => ("LassoFinder$LassoSearch", "graph", "LLassoFinder$Graph;", true)
  | 1 => ("LassoFinder$LassoSearch", "truths", "LLassoFinder$Truths;", true)
  | 2 => ("LassoFinder$LassoSearch", "order", "[I", true)
  | 3 => ("LassoFinder$LassoSearch", "low", "[I", true)
  | 4 => ("LassoFinder$LassoSearch", "nextSource", "[I", true)
  | 5 => ("LassoFinder$LassoSearch", "isOpen", "[Z", true)
  | 6 => ("LassoFinder$LassoSearch", "path", "[I", true)
  | 7 => ("LassoFinder$LassoSearch", "opened", "[I", true)
  | 8 => ("LassoFinder$LassoSearch", "pathLength", "I", false)
  | 9 => ("LassoFinder$LassoSearch", "openSpots", "I", false)
  | 10 => ("LassoFinder$LassoSearch", "entered", "I", false)
  | 11 => ("LassoFinder$LassoSearch", "distance", "[I", true)
  | 12 => ("LassoFinder$LassoSearch", "queue", "[I", true)
  | 13 => ("LassoFinder$LassoSearch", "queued", "I", false)
  | 14 => ("LassoFinder$LassoSearch", "stemSteps", "[I", true)
  | 15 => ("LassoFinder$LassoSearch", "cycleSteps", "[I", false)
  | 16 => ("LassoFinder$LassoSearch", "triedSteps", "[I", false)
  | 17 => ("LassoFinder$LassoSearch", "stemLength", "I", false)
  | 18 => ("LassoFinder$LassoSearch", "cycleLength", "I", false)
  | _ => ("LassoFinder$LassoSearch", "found", "Z", false)
def zty3 : Nat → FieldType := fun k => match k with
  | 0 => .object "LassoFinder$Graph"
  | 1 => .object "LassoFinder$Truths"
  | 2 => .array .int
  | 3 => .array .int
  | 4 => .array .int
  | 5 => .array .boolean
  | 6 => .array .int
  | 7 => .array .int
  | 8 => .int
  | 9 => .int
  | 10 => .int
  | 11 => .array .int
  | 12 => .array .int
  | 13 => .int
  | 14 => .array .int
  | 15 => .array .int
  | 16 => .array .int
  | 17 => .int
  | 18 => .int
  | _ => .boolean
def zT4 : u_T := fun k => match k with
  | 0 => ("LassoFinder$ModelReader", "text", "LLassoFinder$Text;", true)
  | 1 => ("LassoFinder$ModelReader", "names", "LLassoFinder$Names;", true)
  | 2 => ("LassoFinder$ModelReader", "terms", "LLassoFinder$Terms;", true)
  | 3 => ("LassoFinder$ModelReader", "program", "LLassoFinder$Program;", true)
  | _ => ("LassoFinder$ModelReader", "tree", "LLassoFinder$Tree;", true)
def zty4 : Nat → FieldType := fun k => match k with
  | 0 => .object "LassoFinder$Text"
  | 1 => .object "LassoFinder$Names"
  | 2 => .object "LassoFinder$Terms"
  | 3 => .object "LassoFinder$Program"
  | _ => .object "LassoFinder$Tree"
def zT5 : u_T := fun k => match k with
  | 0 => ("LassoFinder$Names", "kinds", "[I", true)
  | 1 => ("LassoFinder$Names", "digits", "[I", true)
  | 2 => ("LassoFinder$Names", "variableNames", "[I", true)
  | 3 => ("LassoFinder$Names", "channelNames", "[I", true)
  | 4 => ("LassoFinder$Names", "variables", "I", false)
  | _ => ("LassoFinder$Names", "channels", "I", false)
def zty5 : Nat → FieldType := fun k => match k with
  | 0 => .array .int
  | 1 => .array .int
  | 2 => .array .int
  | 3 => .array .int
  | 4 => .int
  | _ => .int
def zT6 : u_T := fun k => match k with
  | 0 => ("LassoFinder$Program", "kinds", "[I", true)
  | 1 => ("LassoFinder$Program", "channel", "[I", true)
  | 2 => ("LassoFinder$Program", "variable", "[I", true)
  | 3 => ("LassoFinder$Program", "expression", "[I", true)
  | 4 => ("LassoFinder$Program", "actor", "[I", true)
  | 5 => ("LassoFinder$Program", "after", "[I", true)
  | 6 => ("LassoFinder$Program", "keeps", "[Z", true)
  | 7 => ("LassoFinder$Program", "receives", "[J", true)
  | 8 => ("LassoFinder$Program", "startPoint", "[I", true)
  | 9 => ("LassoFinder$Program", "labelPoint", "[I", true)
  | 10 => ("LassoFinder$Program", "basicsAt", "[J", true)
  | 11 => ("LassoFinder$Program", "elses", "J", false)
  | 12 => ("LassoFinder$Program", "basics", "I", false)
  | _ => ("LassoFinder$Program", "processes", "I", false)
def zty6 : Nat → FieldType := fun k => match k with
  | 0 => .array .int
  | 1 => .array .int
  | 2 => .array .int
  | 3 => .array .int
  | 4 => .array .int
  | 5 => .array .int
  | 6 => .array .boolean
  | 7 => .array .long
  | 8 => .array .int
  | 9 => .array .int
  | 10 => .array .long
  | 11 => .long
  | 12 => .int
  | _ => .int
def zT7 : u_T := fun k => match k with
  | 0 => ("LassoFinder$Situation", "names", "LLassoFinder$Names;", true)
  | 1 => ("LassoFinder$Situation", "terms", "LLassoFinder$Terms;", true)
  | 2 => ("LassoFinder$Situation", "program", "LLassoFinder$Program;", true)
  | 3 => ("LassoFinder$Situation", "amounts", "[I", true)
  | 4 => ("LassoFinder$Situation", "messages", "[I", true)
  | 5 => ("LassoFinder$Situation", "points", "[I", true)
  | 6 => ("LassoFinder$Situation", "holding", "I", false)
  | _ => ("LassoFinder$Situation", "present", "J", false)
def zty7 : Nat → FieldType := fun k => match k with
  | 0 => .object "LassoFinder$Names"
  | 1 => .object "LassoFinder$Terms"
  | 2 => .object "LassoFinder$Program"
  | 3 => .array .int
  | 4 => .array .int
  | 5 => .array .int
  | 6 => .int
  | _ => .long
def zT8 : u_T := fun k => match k with
  | 0 => ("LassoFinder$Terms", "text", "LLassoFinder$Text;", true)
  | 1 => ("LassoFinder$Terms", "names", "LLassoFinder$Names;", true)
  | 2 => ("LassoFinder$Terms", "codes", "[I", true)
  | 3 => ("LassoFinder$Terms", "length", "I", false)
  | 4 => ("LassoFinder$Terms", "waiting", "[I", true)
  | 5 => ("LassoFinder$Terms", "waitingSigns", "I", false)
  | 6 => ("LassoFinder$Terms", "sides", "[I", true)
  | 7 => ("LassoFinder$Terms", "parts", "I", false)
  | 8 => ("LassoFinder$Terms", "open", "I", false)
  | _ => ("LassoFinder$Terms", "compared", "I", false)
def zty8 : Nat → FieldType := fun k => match k with
  | 0 => .object "LassoFinder$Text"
  | 1 => .object "LassoFinder$Names"
  | 2 => .array .int
  | 3 => .int
  | 4 => .array .int
  | 5 => .int
  | 6 => .array .int
  | 7 => .int
  | 8 => .int
  | _ => .int
def zT9 : u_T := fun k => match k with
  | 0 => ("LassoFinder$Text", "signs", "[C", true)
  | 1 => ("LassoFinder$Text", "written", "I", false)
  | 2 => ("LassoFinder$Text", "end", "I", false)
  | 3 => ("LassoFinder$Text", "at", "I", false)
  | _ => ("LassoFinder$Text", "wrongAt", "I", false)
def zty9 : Nat → FieldType := fun k => match k with
  | 0 => .array .char
  | 1 => .int
  | 2 => .int
  | 3 => .int
  | _ => .int
def zT10 : u_T := fun k => match k with
  | 0 => ("LassoFinder$Tree", "kinds", "[I", true)
  | 1 => ("LassoFinder$Tree", "around", "[I", true)
  | 2 => ("LassoFinder$Tree", "loops", "[I", true)
  | 3 => ("LassoFinder$Tree", "atomics", "[I", true)
  | 4 => ("LassoFinder$Tree", "leads", "[Z", true)
  | 5 => ("LassoFinder$Tree", "next", "[I", true)
  | 6 => ("LassoFinder$Tree", "firstInside", "[I", true)
  | 7 => ("LassoFinder$Tree", "pointOf", "[I", true)
  | 8 => ("LassoFinder$Tree", "number", "[I", true)
  | 9 => ("LassoFinder$Tree", "labelAt", "[I", true)
  | 10 => ("LassoFinder$Tree", "labelled", "[I", true)
  | 11 => ("LassoFinder$Tree", "size", "I", false)
  | _ => ("LassoFinder$Tree", "points", "I", false)
def zty10 : Nat → FieldType := fun k => match k with
  | 0 => .array .int
  | 1 => .array .int
  | 2 => .array .int
  | 3 => .array .int
  | 4 => .array .boolean
  | 5 => .array .int
  | 6 => .array .int
  | 7 => .array .int
  | 8 => .array .int
  | 9 => .array .int
  | 10 => .array .int
  | 11 => .int
  | _ => .int
def zT11 : u_T := fun k => match k with
  | 0 => ("LassoFinder$Truths", "graph", "LLassoFinder$Graph;", true)
  | 1 => ("LassoFinder$Truths", "situation", "LLassoFinder$Situation;", true)
  | 2 => ("LassoFinder$Truths", "formula", "LLassoFinder$Formula;", true)
  | 3 => ("LassoFinder$Truths", "parts", "[I", true)
  | 4 => ("LassoFinder$Truths", "before", "[I", true)
  | 5 => ("LassoFinder$Truths", "settled", "[I", true)
  | 6 => ("LassoFinder$Truths", "satisfied", "[Z", true)
  | 7 => ("LassoFinder$Truths", "guesses", "I", false)
  | _ => ("LassoFinder$Truths", "unending", "I", false)
def zty11 : Nat → FieldType := fun k => match k with
  | 0 => .object "LassoFinder$Graph"
  | 1 => .object "LassoFinder$Situation"
  | 2 => .object "LassoFinder$Formula"
  | 3 => .array .int
  | 4 => .array .int
  | 5 => .array .int
  | 6 => .array .boolean
  | 7 => .int
  | _ => .int
def zT12 : u_T := fun k => match k with
  | 0 => ("LassoFinderModel", "thrown", "I", false)
  | 1 => ("LassoFinderModel", "length", "I", false)
  | 2 => ("LassoFinderModel", "text", "[I", true)
  | 3 => ("LassoFinderModel", "at", "I", false)
  | 4 => ("LassoFinderModel", "bad", "I", false)
  | 5 => ("LassoFinderModel", "place", "I", false)
  | 6 => ("LassoFinderModel", "there", "Z", false)
  | 7 => ("LassoFinderModel", "vars", "I", false)
  | 8 => ("LassoFinderModel", "chans", "I", false)
  | 9 => ("LassoFinderModel", "var", "[I", true)
  | 10 => ("LassoFinderModel", "chan", "[I", true)
  | 11 => ("LassoFinderModel", "initial", "[I", true)
  | 12 => ("LassoFinderModel", "slots", "[I", true)
  | 13 => ("LassoFinderModel", "nodes", "I", false)
  | 14 => ("LassoFinderModel", "kind", "[I", true)
  | 15 => ("LassoFinderModel", "process", "[I", true)
  | 16 => ("LassoFinderModel", "parent", "[I", true)
  | 17 => ("LassoFinderModel", "sibling", "[I", true)
  | 18 => ("LassoFinderModel", "firstOf", "[Z", true)
  | 19 => ("LassoFinderModel", "atomic", "[I", true)
  | 20 => ("LassoFinderModel", "point", "[I", true)
  | 21 => ("LassoFinderModel", "arg", "[I", true)
  | 22 => ("LassoFinderModel", "into", "[I", true)
  | 23 => ("LassoFinderModel", "begin", "[I", true)
  | 24 => ("LassoFinderModel", "end", "[I", true)
  | 25 => ("LassoFinderModel", "where", "[I", true)
  | 26 => ("LassoFinderModel", "behind", "[I", true)
  | 27 => ("LassoFinderModel", "basics", "I", false)
  | 28 => ("LassoFinderModel", "basicNode", "[I", true)
  | 29 => ("LassoFinderModel", "basicOf", "[I", true)
  | 30 => ("LassoFinderModel", "processes", "I", false)
  | 31 => ("LassoFinderModel", "points", "[I", true)
  | 32 => ("LassoFinderModel", "firstNode", "[I", true)
  | 33 => ("LassoFinderModel", "labels", "[I", true)
  | 34 => ("LassoFinderModel", "nodeAt", "[I", true)
  | 35 => ("LassoFinderModel", "mask", "[J", true)
  | 36 => ("LassoFinderModel", "codes", "I", false)
  | 37 => ("LassoFinderModel", "code", "[I", true)
  | 38 => ("LassoFinderModel", "open", "I", false)
  | 39 => ("LassoFinderModel", "block", "[I", true)
  | 40 => ("LassoFinderModel", "blockNode", "[I", true)
  | 41 => ("LassoFinderModel", "latest", "[I", true)
  | 42 => ("LassoFinderModel", "waiting", "I", false)
  | 43 => ("LassoFinderModel", "signs", "[I", true)
  | 44 => ("LassoFinderModel", "states", "I", false)
  | 45 => ("LassoFinderModel", "steps", "I", false)
  | 46 => ("LassoFinderModel", "over", "Z", false)
  | 47 => ("LassoFinderModel", "key", "[J", true)
  | 48 => ("LassoFinderModel", "first", "[I", true)
  | 49 => ("LassoFinderModel", "target", "[I", true)
  | 50 => ("LassoFinderModel", "source", "[I", true)
  | 51 => ("LassoFinderModel", "doer", "[I", true)
  | 52 => ("LassoFinderModel", "receiver", "[I", true)
  | 53 => ("LassoFinderModel", "firstInto", "[I", true)
  | 54 => ("LassoFinderModel", "stepInto", "[I", true)
  | 55 => ("LassoFinderModel", "value", "[I", true)
  | 56 => ("LassoFinderModel", "many", "[I", true)
  | 57 => ("LassoFinderModel", "message", "[I", true)
  | 58 => ("LassoFinderModel", "stands", "[I", true)
  | 59 => ("LassoFinderModel", "holds", "I", false)
  | 60 => ("LassoFinderModel", "stack", "[I", true)
  | 61 => ("LassoFinderModel", "asked", "Z", false)
  | 62 => ("LassoFinderModel", "size", "I", false)
  | 63 => ("LassoFinderModel", "sign", "[I", true)
  | 64 => ("LassoFinderModel", "turns", "I", false)
  | 65 => ("LassoFinderModel", "met", "I", false)
  | 66 => ("LassoFinderModel", "kept", "[I", true)
  | 67 => ("LassoFinderModel", "modelCodes", "I", false)
  | 68 => ("LassoFinderModel", "turn", "[I", true)
  | 69 => ("LassoFinderModel", "atoms", "I", false)
  | 70 => ("LassoFinderModel", "atomProcess", "[I", true)
  | 71 => ("LassoFinderModel", "atomPoint", "[I", true)
  | 72 => ("LassoFinderModel", "atomBegin", "[I", true)
  | 73 => ("LassoFinderModel", "atomEnd", "[I", true)
  | 74 => ("LassoFinderModel", "look", "[I", true)
  | 75 => ("LassoFinderModel", "deep", "[I", true)
  | 76 => ("LassoFinderModel", "good", "[Z", true)
  | 77 => ("LassoFinderModel", "far", "[I", true)
  | 78 => ("LassoFinderModel", "stem", "I", false)
  | 79 => ("LassoFinderModel", "cycle", "I", false)
  | 80 => ("LassoFinderModel", "row", "[I", true)
  | 81 => ("LassoFinderModel", "tried", "[I", true)
  | 82 => ("LassoFinderModel", "walked", "I", false)
  | _ => ("LassoFinderModel", "path", "[I", true)
def zty12 : Nat → FieldType := fun k => match k with
  | 0 => .int
  | 1 => .int
  | 2 => .array .int
  | 3 => .int
  | 4 => .int
  | 5 => .int
  | 6 => .boolean
  | 7 => .int
  | 8 => .int
  | 9 => .array .int
  | 10 => .array .int
  | 11 => .array .int
  | 12 => .array .int
  | 13 => .int
  | 14 => .array .int
  | 15 => .array .int
  | 16 => .array .int
  | 17 => .array .int
  | 18 => .array .boolean
  | 19 => .array .int
  | 20 => .array .int
  | 21 => .array .int
  | 22 => .array .int
  | 23 => .array .int
  | 24 => .array .int
  | 25 => .array .int
  | 26 => .array .int
  | 27 => .int
  | 28 => .array .int
  | 29 => .array .int
  | 30 => .int
  | 31 => .array .int
  | 32 => .array .int
  | 33 => .array .int
  | 34 => .array .int
  | 35 => .array .long
  | 36 => .int
  | 37 => .array .int
  | 38 => .int
  | 39 => .array .int
  | 40 => .array .int
  | 41 => .array .int
  | 42 => .int
  | 43 => .array .int
  | 44 => .int
  | 45 => .int
  | 46 => .boolean
  | 47 => .array .long
  | 48 => .array .int
  | 49 => .array .int
  | 50 => .array .int
  | 51 => .array .int
  | 52 => .array .int
  | 53 => .array .int
  | 54 => .array .int
  | 55 => .array .int
  | 56 => .array .int
  | 57 => .array .int
  | 58 => .array .int
  | 59 => .int
  | 60 => .array .int
  | 61 => .boolean
  | 62 => .int
  | 63 => .array .int
  | 64 => .int
  | 65 => .int
  | 66 => .array .int
  | 67 => .int
  | 68 => .array .int
  | 69 => .int
  | 70 => .array .int
  | 71 => .array .int
  | 72 => .array .int
  | 73 => .array .int
  | 74 => .array .int
  | 75 => .array .int
  | 76 => .array .boolean
  | 77 => .array .int
  | 78 => .int
  | 79 => .int
  | 80 => .array .int
  | 81 => .array .int
  | 82 => .int
  | _ => .array .int
abbrev vwCl : List vw_C := [("LassoFinder", zT0, 13), ("LassoFinder$Formula", zT1, 11), ("LassoFinder$Graph", zT2, 11), ("LassoFinder$LassoSearch", zT3, 20), ("LassoFinder$ModelReader", zT4, 5), ("LassoFinder$Names", zT5, 6), ("LassoFinder$Program", zT6, 14), ("LassoFinder$Situation", zT7, 8), ("LassoFinder$Terms", zT8, 10), ("LassoFinder$Text", zT9, 5), ("LassoFinder$Tree", zT10, 13), ("LassoFinder$Truths", zT11, 9), ("LassoFinderModel", zT12, 84)]
end
section
/-! Own rows over the kit: worlds with fixed array classes, contracts in one form, calls with the frame rule in one row. -/
section ZB
variable {p : Program} {l : Launch} {e : Env} {R : Room} {s : State} {m : MethodId} {args : Array Value} {below : List Frame} {meth : Method} {c : Code} {H : Heap} {locs : List Loc} {cells slots : Nat} {Q : State → Prop}
variable {cc : ByteArray} {pc : Nat} {ls : Array Slot} {rest : List Value} {G : va_G} {K : Nat → ClassId} {A : Nat → Prop} {ws : va_W} {H0 : Heap}
/-- the four array classes, fixed: int, long, boolean, char -/
abbrev zK (K : Nat → ClassId) : List (ClassId × FieldType) := [(K 0, .int), (K 1, .long), (K 2, .boolean), (K 3, .char)]
abbrev zI (K : Nat → ClassId) (n : Nat) (f : Nat → Int32) : va_E := .inl (K 0, n, .inl f)
abbrev zJ (K : Nat → ClassId) (n : Nat) (f : Nat → Int64) : va_E := .inl (K 1, n, .inr (.inl f))
abbrev zZ (K : Nat → ClassId) (n : Nat) (f : Nat → Int32) : va_E := .inl (K 2, n, .inl f)
abbrev zC (K : Nat → ClassId) (n : Nat) (f : Nat → Int32) : va_E := .inl (K 3, n, .inl f)
abbrev zO (ci : Nat) (fs : List Value) : va_E := .inr (ci, fs)
/-- the world ahead of a method -/
def zPre (G : va_G) (K : Nat → ClassId) (ws : va_W) (sz : Nat) (U : State) : Prop := U.heap.size = sz ∧ va_P G vwCl ws U.heap ∧ va_K G vwCl (zK K) U ∧ va_D (fun _ => True) ws
/-- .. and behind it -/
def zPost (G : va_G) (K : Nat → ClassId) (A : Nat → Prop) (ws : va_W) (t : State) : Prop := va_P G vwCl ws t.heap ∧ va_D A ws
/-- the world in a walk: its cells, apart, and what has changed since H0 -/
def zW (G : va_G) (A : Nat → Prop) (H0 : Heap) (ws : va_W) (H : Heap) (locs : List Loc) : Prop := va_P G vwCl ws H ∧ va_D A ws ∧ va_S A H0 H locs
theorem zPre_blind {av : List Value} {wc : va_W} {sz : Nat} : FrameBlind (va_Pc av (zPre G K wc sz)) := fun a U g mk q => by
  obtain ⟨q0, q1, qP, qK, qD⟩ := q
  exact ⟨q0, q1, qP, va_K.moved (u := U) (U := U.calling g mk a) (Vm.Alike.refl U.vm) qK, qD⟩
theorem z_map_fm {α : Type} {is : List Nat} {w : List α} {w' : List α} (h : is.map (fun i => w[i]?) = w'.map some) : is.filterMap (fun i => w[i]?) = w' := by
  induction is generalizing w' with
  | nil => cases w' with
    | nil => rfl
    | cons a t => simp at h
  | cons i t ih => cases w' with
    | nil => simp at h
    | cons a r =>
      simp only [List.map_cons, List.cons.injEq] at h
      rw [List.filterMap_cons, h.1]
      simp only [ih h.2]
/-- a contract's body: what holds at its entry -/
theorem zMet {y : MethodName} {wt : List Cond} {rm : Room} {av : List Value} {W0 : va_W} {sz : Nat} {Qf : (Nat → Prop) → Array Value → State → Outcome → State → Prop} {mc ms : Nat} {maxL : Nat} {ret : Option FieldType}
    (hy : plainName y.cls = true) (hav : (lg_sl av).length ≤ maxL)
    (body : ∀ (p : Program) (e : Env) (s : State) (m : MethodId) (below : List Frame) (meth : Method) (c : Code) (ls : Array Slot) (A : Nat → Prop), p.tables.exec = Jvm.exec → c.code = cc → meth.sig.returnType = ret → c.maxLocals = maxL → (∀ w ∈ wt, w.before av.toArray s = true) → s.vm.findClass y.cls = some m.cls → meth.locks = false → meth.name = y.name → (∀ q, s.heap.size ≤ q → A q) → va_K G vwCl (zK K) s → ∀ (H : Heap) (locs : List Loc), zW G A s.heap W0 H locs → H.size = sz → lv_has ls maxL (lv_args 0 av) →
      W p l e rm s m av.toArray below meth c H locs 0 0 (MQ below (Qf A) av.toArray s mc ms A) (F0 m 0 ls [])) :
    Met l y (Cond.code y cc maxL ret :: wt) rm (va_Pc av (zPre G K W0 sz)) (Qf (va_A W0 sz)) mc ms (va_A W0 sz) := by
  refine Met.ofW (cc := cc) (maxL := maxL) (ret := ret) hy rfl ?_
  intro p e s m args below meth c s₁ B hml hv
  obtain ⟨rfl, hsz, hP, hK, hD0⟩ := hv
  have hts := atoms_spec (ws := Cond.code y cc maxL ret :: wt) B.pre
  have hl := lv_entry av (n := maxL) hav
  rw [lg_entry_eq]
  generalize (lg_sl av ++ List.replicate (maxL - (lg_sl av).length) Slot.unset).toArray = ls at hl ⊢
  refine body p e s m below meth c ls _ B.exec B.bytes B.returns hml (fun w h => hts w (List.mem_cons_of_mem _ h)) (findClass_of_methodNamed B.named) B.notSynchronized (name_of_methodNamed B.named B.method).1 ?_ hK s.heap [] ⟨hP, hD0.self, va_S.rf⟩ hsz hl
  intro q h
  exact Or.inr (by rw [← hsz]; exact h)
/-- newarray: the class is the fixed one -/
theorem z_newI {n : Int32} {N' : Nat} (hexec : p.tables.exec = Jvm.exec) (hb : c.code = cc) (harr : (Cond.arrayClass .int).before args s = true) (hK : va_K G vwCl (zK K) s) (hw : zW G A H0 ws H locs) (hA : ∀ q, H0.size ≤ q → A q) (hn : ¬ n < 0) (hN : n.toNatClampNeg = N') (hbytes : N' * componentBytes .int ≤ 536870912) (hcells : cells + 1 ≤ R.cells) (hslots : slots + N' ≤ R.slots) (hdg : decode cc pc = .ok (.newarray .int, 2))
    (kk : ∀ (q : Nat) (H1 : Heap), zW G A H0 (ws ++ [(q, zI K N' (fun _ => 0))]) H1 locs → W p l e R s m args below meth c H1 locs (cells + 1) (slots + N') Q (F0 m (pc + 2) ls (.ref q :: rest))) : W p l e R s m args below meth c H locs cells slots Q (F0 m pc ls (.int n :: rest)) := by
  refine va_newa (atype := .int) (ty := .int) hexec hb harr rfl hK hw.1 hw.2.1 hw.2.2 hA (a0 := (N', .inl (fun _ => 0))) (fun cA => rfl) hn hN hbytes hcells hslots hdg (fun q cA H1 hK1 hP1 hD1 hS1 => ?_)
  have e1 : s.vm.findClass _ = some cA := (hK1.2 4 (cA, .int) rfl).2
  have e2 : s.vm.findClass _ = some (K 0) := (hK1.2 0 (K 0, .int) rfl).2
  have e3 : cA = K 0 := Option.some.inj (e1.symm.trans e2)
  subst e3
  exact kk q H1 ⟨hP1, hD1, hS1⟩
theorem z_newJ {n : Int32} {N' : Nat} (hexec : p.tables.exec = Jvm.exec) (hb : c.code = cc) (harr : (Cond.arrayClass .long).before args s = true) (hK : va_K G vwCl (zK K) s) (hw : zW G A H0 ws H locs) (hA : ∀ q, H0.size ≤ q → A q) (hn : ¬ n < 0) (hN : n.toNatClampNeg = N') (hbytes : N' * componentBytes .long ≤ 536870912) (hcells : cells + 1 ≤ R.cells) (hslots : slots + N' ≤ R.slots) (hdg : decode cc pc = .ok (.newarray .long, 2))
    (kk : ∀ (q : Nat) (H1 : Heap), zW G A H0 (ws ++ [(q, zJ K N' (fun _ => 0))]) H1 locs → W p l e R s m args below meth c H1 locs (cells + 1) (slots + N') Q (F0 m (pc + 2) ls (.ref q :: rest))) : W p l e R s m args below meth c H locs cells slots Q (F0 m pc ls (.int n :: rest)) := by
  refine va_newa (atype := .long) (ty := .long) hexec hb harr rfl hK hw.1 hw.2.1 hw.2.2 hA (a0 := (N', .inr (.inl (fun _ => 0)))) (fun cA => rfl) hn hN hbytes hcells hslots hdg (fun q cA H1 hK1 hP1 hD1 hS1 => ?_)
  have e1 : s.vm.findClass _ = some cA := (hK1.2 4 (cA, .long) rfl).2
  have e2 : s.vm.findClass _ = some (K 1) := (hK1.2 1 (K 1, .long) rfl).2
  have e3 : cA = K 1 := Option.some.inj (e1.symm.trans e2)
  subst e3
  exact kk q H1 ⟨hP1, hD1, hS1⟩
theorem z_newZ {n : Int32} {N' : Nat} (hexec : p.tables.exec = Jvm.exec) (hb : c.code = cc) (harr : (Cond.arrayClass .boolean).before args s = true) (hK : va_K G vwCl (zK K) s) (hw : zW G A H0 ws H locs) (hA : ∀ q, H0.size ≤ q → A q) (hn : ¬ n < 0) (hN : n.toNatClampNeg = N') (hbytes : N' * componentBytes .boolean ≤ 536870912) (hcells : cells + 1 ≤ R.cells) (hslots : slots + N' ≤ R.slots) (hdg : decode cc pc = .ok (.newarray .boolean, 2))
    (kk : ∀ (q : Nat) (H1 : Heap), zW G A H0 (ws ++ [(q, zZ K N' (fun _ => 0))]) H1 locs → W p l e R s m args below meth c H1 locs (cells + 1) (slots + N') Q (F0 m (pc + 2) ls (.ref q :: rest))) : W p l e R s m args below meth c H locs cells slots Q (F0 m pc ls (.int n :: rest)) := by
  refine va_newa (atype := .boolean) (ty := .boolean) hexec hb harr rfl hK hw.1 hw.2.1 hw.2.2 hA (a0 := (N', .inl (fun _ => 0))) (fun cA => rfl) hn hN hbytes hcells hslots hdg (fun q cA H1 hK1 hP1 hD1 hS1 => ?_)
  have e1 : s.vm.findClass _ = some cA := (hK1.2 4 (cA, .boolean) rfl).2
  have e2 : s.vm.findClass _ = some (K 2) := (hK1.2 2 (K 2, .boolean) rfl).2
  have e3 : cA = K 2 := Option.some.inj (e1.symm.trans e2)
  subst e3
  exact kk q H1 ⟨hP1, hD1, hS1⟩
theorem z_newC {n : Int32} {N' : Nat} (hexec : p.tables.exec = Jvm.exec) (hb : c.code = cc) (harr : (Cond.arrayClass .char).before args s = true) (hK : va_K G vwCl (zK K) s) (hw : zW G A H0 ws H locs) (hA : ∀ q, H0.size ≤ q → A q) (hn : ¬ n < 0) (hN : n.toNatClampNeg = N') (hbytes : N' * componentBytes .char ≤ 536870912) (hcells : cells + 1 ≤ R.cells) (hslots : slots + N' ≤ R.slots) (hdg : decode cc pc = .ok (.newarray .char, 2))
    (kk : ∀ (q : Nat) (H1 : Heap), zW G A H0 (ws ++ [(q, zC K N' (fun _ => 0))]) H1 locs → W p l e R s m args below meth c H1 locs (cells + 1) (slots + N') Q (F0 m (pc + 2) ls (.ref q :: rest))) : W p l e R s m args below meth c H locs cells slots Q (F0 m pc ls (.int n :: rest)) := by
  refine va_newa (atype := .char) (ty := .char) hexec hb harr rfl hK hw.1 hw.2.1 hw.2.2 hA (a0 := (N', .inl (fun _ => 0))) (fun cA => rfl) hn hN hbytes hcells hslots hdg (fun q cA H1 hK1 hP1 hD1 hS1 => ?_)
  have e1 : s.vm.findClass _ = some cA := (hK1.2 4 (cA, .char) rfl).2
  have e2 : s.vm.findClass _ = some (K 3) := (hK1.2 3 (K 3, .char) rfl).2
  have e3 : cA = K 3 := Option.some.inj (e1.symm.trans e2)
  subst e3
  exact kk q H1 ⟨hP1, hD1, hS1⟩
/-- the end of a method: void, int (and its narrower kinds), long -/
theorem z_vret {S : Type} {post : S → Prop} {w1 : S → va_W} {mc ms : Nat} (u : S) (hexec : p.tables.exec = Jvm.exec) (hb : c.code = cc) (hr : meth.sig.returnType = none) (hlocks : meth.locks = false) (hw : zW G A s.heap ws H locs) (is : List Nat) (hi : is.map (fun i => ws[i]?) = (w1 u).map some) (hn : va_nd is = true) (hu : post u) (hc : cells ≤ mc) (hs : slots ≤ ms) (hdg : decode cc pc = .ok (.return_, 1)) :
    W p l e R s m args below meth c H locs cells slots (MQ below (va_Qv post (fun u t => zPost G K A (w1 u) t) A) args s mc ms A) (F0 m pc ls []) := by
  obtain ⟨hP, hD, hS⟩ := hw
  refine W.widen (k := mc) (n := ms) hc hs ?_
  exact W.vret hexec hb hr (fun t ht hW => ⟨⟨u, rfl, hu, by rw [ht]; exact hP.sub is (z_map_fm hi), hD.sub is hn hi⟩, hS.F ht⟩) hS.2.2 hdg hlocks
theorem z_iret {S : Type} {post : Int32 → S → Prop} {w1 : S → va_W} {mc ms : Nat} {ty : FieldType} {v : Int32} (u : S) (hexec : p.tables.exec = Jvm.exec) (hb : c.code = cc) (hr : meth.sig.returnType = some ty) (hlocks : meth.locks = false) (hv : narrow ty (.int v) = .int v) (hw : zW G A s.heap ws H locs) (is : List Nat) (hi : is.map (fun i => ws[i]?) = (w1 u).map some) (hn : va_nd is = true) (hu : post v u) (hc : cells ≤ mc) (hs : slots ≤ ms) (hdg : decode cc pc = .ok (.ireturn, 1)) :
    W p l e R s m args below meth c H locs cells slots (MQ below (va_Qi post (fun u t => zPost G K A (w1 u) t) A) args s mc ms A) (F0 m pc ls [.int v]) := by
  obtain ⟨hP, hD, hS⟩ := hw
  refine W.widen (k := mc) (n := ms) hc hs ?_
  exact W.zret hexec hb hr hv (fun t ht hW => ⟨⟨v, u, rfl, hu, by rw [ht]; exact hP.sub is (z_map_fm hi), hD.sub is hn hi⟩, hS.F ht⟩) hS.2.2 hdg hlocks
theorem z_lret {S : Type} {post : Int64 → S → Prop} {w1 : S → va_W} {mc ms : Nat} {v : Int64} (u : S) (hexec : p.tables.exec = Jvm.exec) (hb : c.code = cc) (hr : meth.sig.returnType = some .long) (hlocks : meth.locks = false) (hw : zW G A s.heap ws H locs) (is : List Nat) (hi : is.map (fun i => ws[i]?) = (w1 u).map some) (hn : va_nd is = true) (hu : post v u) (hc : cells ≤ mc) (hs : slots ≤ ms) (hdg : decode cc pc = .ok (.lreturn, 1)) :
    W p l e R s m args below meth c H locs cells slots (MQ below (va_Ql post (fun u t => zPost G K A (w1 u) t) A) args s mc ms A) (F0 m pc ls [.long v]) := by
  obtain ⟨hP, hD, hS⟩ := hw
  refine W.widen (k := mc) (n := ms) hc hs ?_
  exact W.lret hexec hb hr (fun t ht hW => ⟨⟨v, u, rfl, hu, by rw [ht]; exact hP.sub is (z_map_fm hi), hD.sub is hn hi⟩, hS.F ht⟩) hS.2.2 hdg hlocks
end ZB
section ZF
variable {p : Program} {l : Launch} {e : Env} {R : Room} {s : State} {m : MethodId} {args : Array Value} {below : List Frame} {meth : Method} {c : Code} {H : Heap} {locs : List Loc} {cells slots : Nat} {Q : State → Prop}
variable {cc : ByteArray} {pc : Nat} {ls : Array Slot} {rest : List Value} {G : va_G} {K : Nat → ClassId} {A : Nat → Prop} {ws : va_W} {H0 : Heap}
/-- a class of the worlds: its place, its fields, their types -/
def zCls (ci : Nat) (C : String) (T : u_T) (N : Nat) (ty : Nat → FieldType) : Prop := vwCl[ci]? = some (C, T, N) ∧ (∀ w ∈ u_ws C T N, w ∈ zTB) ∧ (∀ k, k < N → parseFieldDescriptor (T k).2.2.1 = some (ty k)) ∧ ∀ a, a < N → ∀ b, b < N → a ≠ b → (T a).2.1 ≠ (T b).2.1
theorem z_get {own C : String} {T : u_T} {N ci index a : Nat} {ty : Nat → FieldType} {fs : List Value} {v : Value} (hexec : p.tables.exec = Jvm.exec) (hb : c.code = cc) (hts : ∀ w ∈ zTB, w.before args s = true) (hown : s.vm.findClass own = some m.cls) (hK : va_K G vwCl (zK K) s) (hw : zW G A H0 ws H locs) (Z : zCls ci C T N ty) (q0 : Nat) (he : ws[q0]? = some (a, .inr (ci, fs))) (k : Nat) (hk : k < N) (hlink : Cond.fieldLink own index (T k).1 (T k).2.1 (T k).2.2.1 ∈ zTB) (hv : fs[k]? = some v) (hdg : decode cc pc = .ok (.getfield index, 3))
    (kk : W p l e R s m args below meth c H locs cells slots Q (F0 m (pc + 3) ls (v :: rest))) : W p l e R s m args below meth c H locs cells slots Q (F0 m pc ls (.ref a :: rest)) :=
  va_get hexec hb hts Z.2.1 hown hK hw.1 q0 he Z.1 k hk (hts _ hlink) (fun _ h => h) hv hdg kk
theorem z_put {own C : String} {T : u_T} {N ci index a : Nat} {ty : Nat → FieldType} {fs : List Value} {v : Value} (hexec : p.tables.exec = Jvm.exec) (hb : c.code = cc) (hts : ∀ w ∈ zTB, w.before args s = true) (hown : s.vm.findClass own = some m.cls) (hK : va_K G vwCl (zK K) s) (hw : zW G A H0 ws H locs) (Z : zCls ci C T N ty) (q0 : Nat) (he : ws[q0]? = some (a, .inr (ci, fs))) (k : Nat) (hk : k < N) (hlink : Cond.fieldLink own index (T k).1 (T k).2.1 (T k).2.2.1 ∈ zTB) (hfin : (T k).2.2.2 = false) (hn : narrow (ty k) v = v) (hfit : fits (ty k) v = true) (hl : k < fs.length) (hdg : decode cc pc = .ok (.putfield index, 3))
    (kk : ∀ (H1 : Heap) (locs1 : List Loc), zW G A H0 (ws.set q0 (a, .inr (ci, fs.set k v))) H1 locs1 → W p l e R s m args below meth c H1 locs1 cells slots Q (F0 m (pc + 3) ls rest)) : W p l e R s m args below meth c H locs cells slots Q (F0 m pc ls (v :: .ref a :: rest)) :=
  va_put hexec hb hts Z.2.1 ty Z.2.2.1 Z.2.2.2 hown hK hw.1 hw.2.1 hw.2.2 q0 he Z.1 k hk (hts _ hlink) (fun _ h => h) hfin (Z.2.2.1 k hk) hn hfit hl hdg (fun H1 locs1 a1 a2 a3 => kk H1 locs1 ⟨a1, a2, a3⟩)
theorem z_putF {own C : String} {T : u_T} {N ci index a : Nat} {ty : Nat → FieldType} {fs : List Value} {v : Value} (hexec : p.tables.exec = Jvm.exec) (hb : c.code = cc) (hts : ∀ w ∈ zTB, w.before args s = true) (hown : s.vm.findClass own = some m.cls) (hin : meth.name = "<init>") (hK : va_K G vwCl (zK K) s) (hw : zW G A H0 ws H locs) (Z : zCls ci C T N ty) (q0 : Nat) (he : ws[q0]? = some (a, .inr (ci, fs))) (k : Nat) (hk : k < N) (hlink : Cond.fieldLink own index (T k).1 (T k).2.1 (T k).2.2.1 ∈ zTB) (hfin : (T k).2.2.2 = true) (hdecl : (T k).1 = own) (hn : narrow (ty k) v = v) (hfit : fits (ty k) v = true) (hl : k < fs.length) (hdg : decode cc pc = .ok (.putfield index, 3))
    (kk : ∀ (H1 : Heap) (locs1 : List Loc), zW G A H0 (ws.set q0 (a, .inr (ci, fs.set k v))) H1 locs1 → W p l e R s m args below meth c H1 locs1 cells slots Q (F0 m (pc + 3) ls rest)) : W p l e R s m args below meth c H locs cells slots Q (F0 m pc ls (v :: .ref a :: rest)) :=
  va_putF hexec hb hts Z.2.1 ty Z.2.2.1 Z.2.2.2 hown hK hw.1 hw.2.1 hw.2.2 q0 he Z.1 k hk (hts _ hlink) (fun _ h => h) hfin hin hdecl (Z.2.2.1 k hk) hn hfit hl hdg (fun H1 locs1 a1 a2 a3 => kk H1 locs1 ⟨a1, a2, a3⟩)
theorem z_new {own C : String} {T : u_T} {N ci index : Nat} {ty : Nat → FieldType} {fs : List Value} (hexec : p.tables.exec = Jvm.exec) (hb : c.code = cc) (hts : ∀ w ∈ zTB, w.before args s = true) (hown : s.vm.findClass own = some m.cls) (hK : va_K G vwCl (zK K) s) (hw : zW G A H0 ws H locs) (hA : ∀ q, H0.size ≤ q → A q) (Z : zCls ci C T N ty) (hcl : Cond.classLink own index C ∈ zTB) (hinst : Cond.instantiable C N ∈ zTB) (hini : Cond.initialized C ∈ zTB) (hfs : ∀ j, j < N → defaultValue (ty j) = vp_V fs j) (hcells : cells + 1 ≤ R.cells) (hslots : slots + N ≤ R.slots) (hdg : decode cc pc = .ok (.new index, 3))
    (kk : ∀ (q : Nat) (H1 : Heap), zW G A H0 (ws ++ [(q, .inr (ci, fs))]) H1 locs → W p l e R s m args below meth c H1 locs (cells + 1) (slots + N) Q (F0 m (pc + 3) ls (.ref q :: rest))) : W p l e R s m args below meth c H locs cells slots Q (F0 m pc ls rest) :=
  va_new hexec hb hts Z.2.1 ty Z.2.2.1 hown (hts _ hcl) (hts _ hinst) (hts _ hini) hK hw.1 hw.2.1 hw.2.2 hA Z.1 hfs hcells hslots hdg (fun q H1 a1 a2 a3 => kk q H1 ⟨a1, a2, a3⟩)
theorem z_objInit {own : String} {idx a nL : Nat} (hexec : p.tables.exec = Jvm.exec) (hb : c.code = cc) (hts : ∀ w ∈ zTB, w.before args s = true) (hown : s.vm.findClass own = some m.cls) (hml : c.maxLocals = nL) (hls : ls.size = nL) (hlink : Cond.methodLink own idx Lib.objectInit ∈ zTB) (hinst : Cond.instanceMethod Lib.objectInit ∈ zTB) (hcode : Cond.code Lib.objectInit ⟨#[0xb1]⟩ 1 none ∈ zTB) (hd : decode cc pc = .ok (.invokespecial idx, 3)) (hframes : 1 ≤ R.frames) (hlocals : (rest.map fun v => v.category).sum + 12 ≤ R.locals)
    (kk : W p l e R s m args below meth c H locs cells slots Q (F0 m (pc + 3) ls rest)) : W p l e R s m args below meth c H locs cells slots Q (F0 m pc ls (.ref a :: rest)) := by
  refine W.objInit (g := F0 m pc ls (.ref a :: rest)) hexec hb hown (hts _ hlink) (hts _ hinst) (hts _ hcode) rfl (by rw [hml]; exact hls) rfl hd hframes ?_ kk
  have h0 : (F0 m pc ls (.ref a :: rest)).monitorRoom = 0 := rfl
  rw [h0]
  omega
end ZF
section ZC
variable {p : Program} {l : Launch} {e : Env} {R : Room} {s : State} {m : MethodId} {args : Array Value} {below : List Frame} {meth : Method} {c : Code} {H : Heap} {locs : List Loc} {cells slots : Nat} {Q : State → Prop}
variable {cc : ByteArray} {pc : Nat} {ls : Array Slot} {rest st0 : List Value} {G : va_G} {K : Nat → ClassId} {A : Nat → Prop} {ws wc wr : va_W} {H0 : Heap} {mc ms : Nat} {a : Array Value}
theorem z_good {w0 : Cond} (h : w0 ∈ zTB) : GoodIn zTB (w0 :: zTB) := fun w hw => by
  rcases List.mem_cons.mp hw with e1 | h1
  · rw [e1]
    exact ⟨h, zTB_good _ h⟩
  · exact ⟨h1, zTB_good _ h1⟩
/-- what the tables say of a method that is called on an object of its own class, by any caller -/
def zFaceV (y : MethodName) (bytes : ByteArray) (maxL : Nat) (ret : Option FieldType) (n : Nat) : Prop := Cond.instanceMethod y ∈ zTB ∧ Cond.selects y.cls y y ∈ zTB ∧ Cond.initialized y.cls ∈ zTB ∧ Cond.code y bytes maxL ret ∈ zTB ∧ y.cls ≠ "java/lang/invoke/MethodHandle" ∧ y.cls ≠ "java/lang/invoke/VarHandle" ∧ (parseMethodDescriptor y.desc).map (fun d => d.parameters.length) = some n
def zFaceI (y : MethodName) (bytes : ByteArray) (maxL : Nat) (n : Nat) : Prop := Cond.instanceMethod y ∈ zTB ∧ y.name = "<init>" ∧ Cond.initialized y.cls ∈ zTB ∧ Cond.code y bytes maxL none ∈ zTB ∧ y.cls ≠ "java/lang/invoke/MethodHandle" ∧ y.cls ≠ "java/lang/invoke/VarHandle" ∧ (parseMethodDescriptor y.desc).map (fun d => d.parameters.length) = some n
def zFaceS (y : MethodName) (bytes : ByteArray) (maxL : Nat) (ret : Option FieldType) (n : Nat) : Prop := Cond.static y ∈ zTB ∧ Cond.initialized y.cls ∈ zTB ∧ Cond.code y bytes maxL ret ∈ zTB ∧ y.cls ≠ "java/lang/invoke/MethodHandle" ∧ y.cls ≠ "java/lang/invoke/VarHandle" ∧ (parseMethodDescriptor y.desc).map (fun d => d.parameters.length) = some n
theorem z_cwV {y : MethodName} {bytes : ByteArray} {maxL n index : Nat} {ret : Option FieldType} {own : String} {rm : Room} (hts : ∀ w ∈ zTB, w.before args s = true) (hf : zFaceV y bytes maxL ret n) (h1 : Cond.methodLink own index y ∈ zTB) (hR : rm.frames + 1 ≤ R.frames ∧ 8 + (maxL + 11) + rm.locals ≤ R.locals) : CallW R s args own y.cls index y bytes maxL ret (Cond.code y bytes maxL ret :: zTB) rm rm.cells rm.slots n := by
  obtain ⟨h2, h3, h4, h5, hd⟩ := hf
  exact ⟨callB_of n hts (z_good h5) rfl rfl rfl (hts _ h4) (hts _ h1) hd hR, hts _ h2, hts _ h3⟩
theorem z_cwI {y : MethodName} {bytes : ByteArray} {maxL n index : Nat} {own : String} {rm : Room} (hts : ∀ w ∈ zTB, w.before args s = true) (hf : zFaceI y bytes maxL n) (h1 : Cond.methodLink own index y ∈ zTB) (hR : rm.frames + 1 ≤ R.frames ∧ 8 + (maxL + 11) + rm.locals ≤ R.locals) : CallB R s args own index y bytes maxL none (Cond.code y bytes maxL none :: zTB) rm rm.cells rm.slots n ∧ y.name = "<init>" ∧ (Cond.instanceMethod y).before args s = true := by
  obtain ⟨h2, h3, h4, h5, hd⟩ := hf
  exact ⟨callB_of n hts (z_good h5) rfl rfl rfl (hts _ h4) (hts _ h1) hd hR, h3, hts _ h2⟩
theorem z_cwS {y : MethodName} {bytes : ByteArray} {maxL n index : Nat} {ret : Option FieldType} {own : String} {rm : Room} (hts : ∀ w ∈ zTB, w.before args s = true) (hf : zFaceS y bytes maxL ret n) (h1 : Cond.methodLink own index y ∈ zTB) (hR : rm.frames + 1 ≤ R.frames ∧ 8 + (maxL + 11) + rm.locals ≤ R.locals) : CallB R s args own index y bytes maxL ret (Cond.code y bytes maxL ret :: zTB) rm rm.cells rm.slots n ∧ (Cond.static y).before args s = true := by
  obtain ⟨h2, h4, h5, hd⟩ := hf
  exact ⟨callB_of n hts (z_good h5) rfl rfl rfl (hts _ h4) (hts _ h1) hd hR, hts _ h2⟩
/-- a call on an object, over the cells wc of the world -/
theorem z_runV {y : MethodName} {bytes : ByteArray} {maxL n index nL q0 ci N : Nat} {ret : Option FieldType} {own : String} {rm : Room} {Qc : Array Value → State → Outcome → State → Prop} {free : Addr → Prop} {b : Nat} {As : List Value} {fs : List Value} {T : u_T}
    (S : CallFix p m c cc nL s args zTB own) (hM : Met l y (Cond.code y bytes maxL ret :: zTB) rm (va_Pc (.ref b :: As) (zPre G K wc H.size)) Qc rm.cells rm.slots free) (hf : zFaceV y bytes maxL ret n) (h1 : Cond.methodLink own index y ∈ zTB) (hR : rm.frames + 1 ≤ R.frames ∧ 8 + (maxL + 11) + rm.locals ≤ R.locals)
    (hK : va_K G vwCl (zK K) s) (hw : zW G A H0 ws H locs) (is : List Nat) (hi : is.map (fun i => ws[i]?) = wc.map some) (hnd : va_nd is = true) (he : ws[q0]? = some (b, .inr (ci, fs))) (hc : vwCl[ci]? = some (y.cls, T, N)) (hn : As.length = n) (hsize : ls.size = nL) (hst : st0 = As.reverse ++ .ref b :: rest) (hW : (rest.map fun v => v.category).sum ≤ 8) (hdg : decode cc pc = .ok (.invokevirtual index, 3)) (hroom : cells + rm.cells ≤ R.cells ∧ slots + rm.slots ≤ R.slots) :
    va_Run p l e R s m args below meth c H locs cells slots rm.cells rm.slots (F0 m pc ls st0) rest (Qc (Value.ref b :: As).toArray) free := by
  obtain ⟨hP, hD, hS⟩ := hw
  have hPc := hP.sub is (z_map_fm hi)
  have hDc := hD.sub is hnd hi
  exact va_runV (g := F0 m pc ls st0) S hM (z_cwV S.2.2.2.2 hf h1 hR) ⟨zPre_blind, va_recv hK hP hc he, fun U hU hW => ⟨rfl, by rw [hU], by rw [hU]; exact hPc, va_K.moved hW.alike hK, hDc.weaken (fun _ _ _ _ => trivial)⟩⟩ rfl hn hsize hst (lv_room hW) hdg hroom
theorem z_runI {y : MethodName} {bytes : ByteArray} {maxL n index nL : Nat} {own : String} {rm : Room} {Qc : Array Value → State → Outcome → State → Prop} {free : Addr → Prop} {b : Nat} {As : List Value}
    (S : CallFix p m c cc nL s args zTB own) (hM : Met l y (Cond.code y bytes maxL none :: zTB) rm (va_Pc (.ref b :: As) (zPre G K wc H.size)) Qc rm.cells rm.slots free) (hf : zFaceI y bytes maxL n) (h1 : Cond.methodLink own index y ∈ zTB) (hR : rm.frames + 1 ≤ R.frames ∧ 8 + (maxL + 11) + rm.locals ≤ R.locals)
    (hK : va_K G vwCl (zK K) s) (hw : zW G A H0 ws H locs) (is : List Nat) (hi : is.map (fun i => ws[i]?) = wc.map some) (hnd : va_nd is = true) (hn : As.length = n) (hsize : ls.size = nL) (hst : st0 = As.reverse ++ .ref b :: rest) (hW : (rest.map fun v => v.category).sum ≤ 8) (hdg : decode cc pc = .ok (.invokespecial index, 3)) (hroom : cells + rm.cells ≤ R.cells ∧ slots + rm.slots ≤ R.slots) :
    va_Run p l e R s m args below meth c H locs cells slots rm.cells rm.slots (F0 m pc ls st0) rest (Qc (Value.ref b :: As).toArray) free := by
  obtain ⟨hP, hD, hS⟩ := hw
  have hPc := hP.sub is (z_map_fm hi)
  have hDc := hD.sub is hnd hi
  exact va_runI (g := F0 m pc ls st0) S hM (z_cwI S.2.2.2.2 hf h1 hR) ⟨zPre_blind, fun U hU hW => ⟨rfl, by rw [hU], by rw [hU]; exact hPc, va_K.moved hW.alike hK, hDc.weaken (fun _ _ _ _ => trivial)⟩⟩ rfl hn hsize hst (lv_room hW) hdg hroom
theorem z_runS {y : MethodName} {bytes : ByteArray} {maxL n index nL : Nat} {ret : Option FieldType} {own : String} {rm : Room} {Qc : Array Value → State → Outcome → State → Prop} {free : Addr → Prop} {As : List Value}
    (S : CallFix p m c cc nL s args zTB own) (hM : Met l y (Cond.code y bytes maxL ret :: zTB) rm (va_Pc As (zPre G K wc H.size)) Qc rm.cells rm.slots free) (hf : zFaceS y bytes maxL ret n) (h1 : Cond.methodLink own index y ∈ zTB) (hR : rm.frames + 1 ≤ R.frames ∧ 8 + (maxL + 11) + rm.locals ≤ R.locals)
    (hK : va_K G vwCl (zK K) s) (hw : zW G A H0 ws H locs) (is : List Nat) (hi : is.map (fun i => ws[i]?) = wc.map some) (hnd : va_nd is = true) (hn : As.length = n) (hsize : ls.size = nL) (hst : st0 = As.reverse ++ rest) (hW : (rest.map fun v => v.category).sum ≤ 8) (hdg : decode cc pc = .ok (.invokestatic index, 3)) (hroom : cells + rm.cells ≤ R.cells ∧ slots + rm.slots ≤ R.slots) :
    va_Run p l e R s m args below meth c H locs cells slots rm.cells rm.slots (F0 m pc ls st0) rest (Qc As.toArray) free := by
  obtain ⟨hP, hD, hS⟩ := hw
  have hPc := hP.sub is (z_map_fm hi)
  have hDc := hD.sub is hnd hi
  exact va_runS (g := F0 m pc ls st0) S hM (z_cwS S.2.2.2.2 hf h1 hR) ⟨zPre_blind, fun U hU hW => ⟨rfl, by rw [hU], by rw [hU]; exact hPc, va_K.moved hW.alike hK, hDc.weaken (fun _ _ _ _ => trivial)⟩⟩ rfl hn hsize hst (lv_room hW) hdg hroom
/-- behind a call: the rest of the world, and what came back -/
theorem z_callv {S : Type} {post : S → Prop} {w1 : S → va_W} (hr : va_Run p l e R s m args below meth c H locs cells slots mc ms (F0 m pc ls st0) rest (va_Qv post (fun u t => zPost G K (va_A wc H.size) (w1 u) t) (va_A wc H.size) a) (va_A wc H.size)) (hw : zW G A H0 ws H locs) (hA : ∀ q, H0.size ≤ q → A q) (isC isR : List Nat) (hC : isC.map (fun i => ws[i]?) = wc.map some) (hR : isR.map (fun i => ws[i]?) = wr.map some) (hn : va_nd isR = true) (hdis : ∀ i ∈ isR, i ∉ isC)
    (kk : ∀ (u : S) (H1 : Heap) (locs1 : List Loc), post u → zW G A H0 (wr ++ w1 u) H1 locs1 → W p l e R s m args below meth c H1 locs1 (cells + mc) (slots + ms) Q (F0 m (pc + 3) ls rest)) : W p l e R s m args below meth c H locs cells slots Q (F0 m pc ls st0) := by
  obtain ⟨hP, hD, hS⟩ := hw
  have hFc := va_free (wc := wc) hD hS hA isC hC
  refine va_callv hr hS (fun q _ h => hFc q h) hFc (fun u t H1 locs1 ht hvm hp hB hz hk hS1 => ?_)
  obtain ⟨hP1, hD1⟩ := hB
  rw [ht] at hP1
  obtain ⟨hP2, hD2⟩ := va_join hP hD isC isR hC hR hn hdis hk hFc hP1 hD1
  exact kk u H1 locs1 hp ⟨hP2, hD2, hS1⟩
theorem z_calli {S : Type} {post : Int32 → S → Prop} {w1 : S → va_W} (hr : va_Run p l e R s m args below meth c H locs cells slots mc ms (F0 m pc ls st0) rest (va_Qi post (fun u t => zPost G K (va_A wc H.size) (w1 u) t) (va_A wc H.size) a) (va_A wc H.size)) (hw : zW G A H0 ws H locs) (hA : ∀ q, H0.size ≤ q → A q) (isC isR : List Nat) (hC : isC.map (fun i => ws[i]?) = wc.map some) (hR : isR.map (fun i => ws[i]?) = wr.map some) (hn : va_nd isR = true) (hdis : ∀ i ∈ isR, i ∉ isC)
    (kk : ∀ (r : Int32) (u : S) (H1 : Heap) (locs1 : List Loc), post r u → zW G A H0 (wr ++ w1 u) H1 locs1 → W p l e R s m args below meth c H1 locs1 (cells + mc) (slots + ms) Q (F0 m (pc + 3) ls (.int r :: rest))) : W p l e R s m args below meth c H locs cells slots Q (F0 m pc ls st0) := by
  obtain ⟨hP, hD, hS⟩ := hw
  have hFc := va_free (wc := wc) hD hS hA isC hC
  refine va_calli hr hS (fun q _ h => hFc q h) hFc (fun r u t H1 locs1 ht hvm hp hB hz hk hS1 => ?_)
  obtain ⟨hP1, hD1⟩ := hB
  rw [ht] at hP1
  obtain ⟨hP2, hD2⟩ := va_join hP hD isC isR hC hR hn hdis hk hFc hP1 hD1
  exact kk r u H1 locs1 hp ⟨hP2, hD2, hS1⟩
theorem z_calll {S : Type} {post : Int64 → S → Prop} {w1 : S → va_W} (hr : va_Run p l e R s m args below meth c H locs cells slots mc ms (F0 m pc ls st0) rest (va_Ql post (fun u t => zPost G K (va_A wc H.size) (w1 u) t) (va_A wc H.size) a) (va_A wc H.size)) (hw : zW G A H0 ws H locs) (hA : ∀ q, H0.size ≤ q → A q) (isC isR : List Nat) (hC : isC.map (fun i => ws[i]?) = wc.map some) (hR : isR.map (fun i => ws[i]?) = wr.map some) (hn : va_nd isR = true) (hdis : ∀ i ∈ isR, i ∉ isC)
    (kk : ∀ (r : Int64) (u : S) (H1 : Heap) (locs1 : List Loc), post r u → zW G A H0 (wr ++ w1 u) H1 locs1 → W p l e R s m args below meth c H1 locs1 (cells + mc) (slots + ms) Q (F0 m (pc + 3) ls (.long r :: rest))) : W p l e R s m args below meth c H locs cells slots Q (F0 m pc ls st0) := by
  obtain ⟨hP, hD, hS⟩ := hw
  have hFc := va_free (wc := wc) hD hS hA isC hC
  refine va_calll hr hS (fun q _ h => hFc q h) hFc (fun r u t H1 locs1 ht hvm hp hB hz hk hS1 => ?_)
  obtain ⟨hP1, hD1⟩ := hB
  rw [ht] at hP1
  obtain ⟨hP2, hD2⟩ := va_join hP hD isC isR hC hR hn hdis hk hFc hP1 hD1
  exact kk r u H1 locs1 hp ⟨hP2, hD2, hS1⟩
end ZC
end
section
/-! Exceptions that leave a method, by contracts of our own: over the library's Steps.callFree, Stand.leaveThrown, Stand.ctorThrow0, Stand.thenCaughtThrough. Launches without stack traces. -/
section ZS
/-- a static field that holds a reference or null, in a cell that no world holds -/
def zSt (C n d : String) (A : Nat → Prop) (U : State) (H : Heap) : Prop := ∃ (c : ClassId) (k : Class) (i : Nat) (f : Field) (a : Nat) (cell : Cell) (v : Value), U.vm.findClass C = some c ∧ U.fieldFound? C n d = some (c, k, i, f) ∧ f.isStatic = true ∧ k.statics = some a ∧ H[a]? = some cell ∧ cell.vm.isStatics = true ∧ cell.cls = c ∧ f.slot < cell.slots.size ∧ k.staticTypes[f.slot]? = some f.type ∧ cell.slots[f.slot]? = some v ∧ v.isRef = true ∧ ¬ A a
theorem zSt.moved {C n d : String} {A : Nat → Prop} {u U : State} {H : Heap} (hvm : u.vm.Alike U.vm) (h : zSt C n d A u H) : zSt C n d A U H := by
  obtain ⟨c, k, i, f, a, cell, v, h1, h2, h3, h4, h5, h6, h7, h8, h9, hr⟩ := h
  obtain ⟨k', hi', he⟩ := State.fieldFound?_setVm hvm h2
  exact ⟨c, k', i, f, a, cell, v, by rw [hvm.findClass]; exact h1, hi', h3, by rw [he]; exact h4, h5, h6, h7, h8, by rw [he]; exact h9, hr⟩
theorem zSt.kept {C n d : String} {A : Nat → Prop} {U : State} {H H1 : Heap} (h : zSt C n d A U H) (hq : ∀ a : Nat, a < H.size → ¬ A a → H1[a]? = H[a]?) : zSt C n d A U H1 := by
  obtain ⟨c, k, i, f, a, cell, v, h1, h2, h3, h4, h5, h6, h7, h8, h9, h10, h11, h12⟩ := h
  exact ⟨c, k, i, f, a, cell, v, h1, h2, h3, h4, by rw [hq a (Array.getElem?_eq_some_iff.mp h5).1 h12]; exact h5, h6, h7, h8, h9, h10, h11, h12⟩
theorem zSt.narrow {C n d : String} {A B : Nat → Prop} {U : State} {H : Heap} (h : zSt C n d A U H) (hAB : ∀ q, B q → A q) : zSt C n d B U H := by
  obtain ⟨c, k, i, f, a, cell, v, h1, h2, h3, h4, h5, h6, h7, h8, h9, h10, h11, h12⟩ := h
  exact ⟨c, k, i, f, a, cell, v, h1, h2, h3, h4, h5, h6, h7, h8, h9, h10, h11, fun z => h12 (hAB _ z)⟩
theorem zSt.lays {C n d : String} {A : Nat → Prop} {s : State} {args : Array Value} (h : zSt C n d A s s.heap) : (Cond.laysStatic C n d).before args s = true := by
  obtain ⟨c, k, i, f, a, cell, v, h1, h2, h3, h4, h5, h6, h7, h8, h9, -⟩ := h
  exact Cond.laysStatic_of h1 h2 h3 h4 h5 h6 h7 h8 h9
theorem zSt.isRef {C n d : String} {A : Nat → Prop} {s : State} {args : Array Value} (h : zSt C n d A s s.heap) : (Cond.isRef (.static C n d)).before args s = true := by
  obtain ⟨c, k, i, f, a, cell, v, h1, h2, h3, h4, h5, h6, h7, h8, h9, h10, h11, -⟩ := h
  have he : (Term.static C n d).eval args s none [] s = some v := by
    simp [Term.eval, State.fieldNamed?, h2, h3, h4, h5, h6, h10]
  simp only [Cond.before, Cond.holds, Cond.value, he]
  cases v <;> simp_all [Value.isRef]
theorem zSt_of {C n d : String} {A : Nat → Prop} {s : State} {args : Array Value} (hl : (Cond.laysStatic C n d).before args s = true) (h : (Cond.isRef (.static C n d)).before args s = true) (hA : ∀ a : Nat, a < s.heap.size → ¬ A a) : zSt C n d A s s.heap := by
  obtain ⟨c, k, i, f, a, cell, h1, h2, h3, h4, h5, h6, h7, h8, h9⟩ := Cond.laysStatic_spec hl
  cases hv : (Term.static C n d).eval args s none [] s with
  | none => simp [Cond.before, Cond.holds, Cond.value, hv] at h
  | some w =>
    obtain ⟨-, a', cell', ha', hcell', -, hslot⟩ := Term.static_spec h2 hv
    cases h4.symm.trans ha'
    cases h5.symm.trans hcell'
    refine ⟨c, k, i, f, a, cell, w, h1, h2, h3, h4, h5, h6, h7, h8, h9, hslot, ?_, hA a (Array.getElem?_eq_some_iff.mp h5).1⟩
    simp only [Cond.before, Cond.holds, Cond.value, hv] at h
    cases w <;> simp_all [Value.isRef]
/-- the words on the tables that a call doesn't hand on by itself -/
def zDC : List Cond := lw_tbl.filter (fun w => w.faceAtom && w.onTables)
theorem zDC_moved {u U : State} {a a' : Array Value} (hvm : u.vm.Alike U.vm) (h : ∀ w ∈ zDC, w.before a u = true) : ∀ w ∈ zDC, w.before a' U = true := fun w hw => by
  have h1 := (List.mem_filter.mp hw).2
  simp only [Bool.and_eq_true] at h1
  have h2 := Cond.faceAtom_setVm hvm w h1.1 (h w hw)
  rw [Cond.onTables_vm (A' := a') (U' := U) U.vm w h1.2, State.setVm_self] at h2
  exact h2
/-- Throwable's two statics, and those words -/
def zTh (A : Nat → Prop) (U : State) (H : Heap) : Prop := zSt Bundle.tN "UNASSIGNED_STACK" Bundle.steD A U H ∧ zSt Bundle.tN "SUPPRESSED_SENTINEL" Bundle.listD A U H ∧ ∀ w ∈ zDC, w.before #[] U = true
theorem zTh.moved {A : Nat → Prop} {u U : State} {H : Heap} (hvm : u.vm.Alike U.vm) (h : zTh A u H) : zTh A U H := ⟨h.1.moved hvm, h.2.1.moved hvm, zDC_moved hvm h.2.2⟩
theorem zTh.kept {A : Nat → Prop} {U : State} {H H1 : Heap} (h : zTh A U H) (hq : ∀ a : Nat, a < H.size → ¬ A a → H1[a]? = H[a]?) : zTh A U H1 := ⟨h.1.kept hq, h.2.1.kept hq, h.2.2⟩
theorem zTh.narrow {A B : Nat → Prop} {U : State} {H : Heap} (h : zTh A U H) (hAB : ∀ q, B q → A q) : zTh B U H := ⟨h.1.narrow hAB, h.2.1.narrow hAB, h.2.2⟩
end ZS
section ZX
variable {p : Program} {l : Launch} {e : Env} {R : Room} {s : State} {m : MethodId} {args : Array Value} {below : List Frame} {meth : Method} {c : Code} {H : Heap} {locs : List Loc} {cells slots : Nat} {Q : State → Prop}
variable {cc : ByteArray} {pc : Nat} {ls : Array Slot} {rest st0 : List Value} {G : va_G} {K : Nat → ClassId} {A : Nat → Prop} {ws wc wr : va_W} {H0 : Heap} {mc ms : Nat} {a : Array Value}
theorem zPost_nil {t : State} : zPost G K A [] t := ⟨fun k q hk => by simp at hk, ⟨fun i j p q hi => by simp at hi, fun k q hk => by simp at hk⟩⟩
/-- the world ahead of a method that may throw -/
def zPreX (G : va_G) (K : Nat → ClassId) (ws : va_W) (sz : Nat) (U : State) : Prop := zPre G K ws sz U ∧ zTh (va_A ws sz) U U.heap
theorem zPreX_blind {av : List Value} {wc : va_W} {sz : Nat} : FrameBlind (va_Pc av (zPreX G K wc sz)) := fun a U g mk q => by
  obtain ⟨q0, ⟨q1, qP, qK, qD⟩, qT⟩ := q
  exact ⟨q0, ⟨q1, qP, va_K.moved (u := U) (U := U.calling g mk a) (Vm.Alike.refl U.vm) qK, qD⟩, zTh.moved (u := U) (U := U.calling g mk a) (Vm.Alike.refl U.vm) qT⟩
/-- how a method that throws E ends -/
def zxQ (E : String) (XC : State → State → Prop) (mc ms : Nat) (free : Addr → Prop) : Array Value → State → Outcome → State → Prop := fun _ st o t =>
  ∃ (q : Addr) (ce : Cell) (L : List Loc), o = .threw q ∧ XC st t ∧ t.heap[q]? = some ce ∧ ce.vm = .none ∧ st.vm.findClass E = some ce.cls ∧ st.WarmedH t.vm ∧ st.sameButNew ({ t with vm := st.vm } : State) L mc ms ∧ ∀ z ∈ L, free z.base
/-- a method that throws E -/
def zxMet (l : Launch) (y : MethodName) (ws : List Cond) (rm : Room) (Pc : Array Value → State → Prop) (E : String) (XC : State → State → Prop) (mc ms : Nat) (free : Addr → Prop) : Prop :=
  MetFree l y (headSpec ws rm) Pc (fun _ _ _ _ _ => True) (zxQ E XC mc ms free)
/-- the world where it has thrown -/
def zXC {S : Type} (px : S → Prop) (w1 : S → va_W) (G : va_G) (K : Nat → ClassId) (A : Nat → Prop) : State → State → Prop := fun st t => ∃ u : S, px u ∧ zPost G K A (w1 u) t ∧ va_F A st t
/-- the frame g with q thrown over it -/
def zxW (p : Program) (l : Launch) (e : Env) (R : Room) (s : State) (m : MethodId) (args : Array Value) (below : List Frame) (meth : Method) (c : Code) (H : Heap) (locs : List Loc) (cells slots : Nat) (Q : State → Prop) (g : JFrame) (q : Addr) : Prop :=
  ∀ T : State, T.heap = H → Stand p l e R s m args below meth c T locs cells slots → ∃ t, Steps p.tables e below ((T.setTop g).pushFrame (.throwing q)) t ∧ Q t
def zxMQ (below : List Frame) (E : String) (XC : State → State → Prop) (a : Array Value) (s : State) (mc ms : Nat) (free : Addr → Prop) : State → Prop := fun t => ∃ o, t.status = .running ∧ Ended t below o ∧ zxQ E XC mc ms free a s o t
/-- from a point of a walk into a callee that throws -/
theorem zx_call {U : State} {Ls : List Loc} {c0 s0 : Nat} (X : Stand p l e R s m args below meth c U Ls c0 s0) {y : MethodName} {wt : List Cond} {rm : Room} {Pc : Array Value → State → Prop} {E : String} {XC : State → State → Prop} {free : Addr → Prop} (hM : zxMet l y wt rm Pc E XC mc ms free)
    {g : JFrame} (hg : g.method = m) (hsize : g.locals.size = c.maxLocals) {ig : Instr} {len : Nat} (hdg : decode c.code g.pc = .ok (ig, len)) (hW : 2 * g.monitorRoom + (g.stack.map fun v => v.category).sum ≤ 8) {mk : MethodId} (hn : U.methodNamed? y = some mk) {bytes : ByteArray} {maxL : Nat} {ret : Option FieldType}
    (h1 : (headSpec wt rm).pre.before a U = true) (h2 : (Cond.code y bytes maxL ret).before a U = true) (h3 : (Cond.initialized y.cls).before a U = true) (hframes : rm.frames + 1 ≤ R.frames) (hlocals : 8 + (maxL + 11) + rm.locals ≤ R.locals) (h4 : c0 + rm.cells ≤ R.cells) (h5 : s0 + rm.slots ≤ R.slots) (hP : Pc a (U.calling g mk a)) :
    ∃ (q : Addr) (ce : Cell) (t T' : State) (L : List Loc), Stand p l e R s m args below meth c T' (Ls ++ L) (c0 + mc) (s0 + ms) ∧ (∀ z ∈ L, free z.base) ∧ T'.heap = t.heap ∧ XC (U.calling g mk a) t ∧ t.heap[q]? = some ce ∧ ce.vm = .none ∧ U.vm.findClass E = some ce.cls ∧
      Steps p.tables e below (doInvoke e (U.setTop g) [] mk a).1 ((T'.setTop g).pushFrame (.throwing q)) := by
  obtain ⟨methY, cY, hmY, hcY, -, hlY, -, -, -, -⟩ := Cond.code_spec hn h2
  obtain ⟨kY, hkY, -⟩ := className_of_methodNamed hn
  have hinitY : kY.init = .initialized := Cond.initialized_spec (findClass_of_methodNamed hn) hkY h3
  have h : At U g.method c below := by rw [hg]; exact X.here
  have happ : (headSpec wt rm).appliesLoose y e.platform (U.calling g mk a) = true :=
    Spec.appliesLoose_calling (g := g) h hdg hn hkY hinitY (X.room_calling (g := g) (R' := rm) hsize hmY hcY hframes (by rw [hlY]; omega) h4 h5) h1
  obtain ⟨mid, hmid⟩ := h.above
  have hfr : (U.setTop g).frames = (.java g :: mid) ++ below := by rw [State.frames_setTop' g h.top, hmid]; rfl
  obtain ⟨o, s₂, hsteps, -, hend, hq⟩ := Steps.callFree hM p X.admits X.cas X.clock (acts := []) hfr happ hP trivial
  have hq : zxQ E XC mc ms free a (U.calling g mk a) o s₂ := hq
  obtain ⟨q, ce, L, ho, hXC, hce, hcv, hcl, hW₂, ⟨e2, q2, q3, q4, q5, q6⟩, hL⟩ := hq
  subst ho
  rw [State.frames_setTop' g h.top] at hend
  have hf₂ : s₂.frames = .throwing q :: .java g :: U.frames.tail := hend
  have e3 : s₂ = ({ (U.calling g mk a).setFrames s₂.frames with heap := s₂.heap, slotsUsed := s₂.slotsUsed } : State).setVm s₂.vm := by
    have h9 : s₂ = ({ s₂ with vm := (U.calling g mk a).vm } : State).setVm s₂.vm := rfl
    rw [e2] at h9
    exact h9
  have hW' : U.WarmedH s₂.vm := hW₂
  obtain ⟨g₀, hg0⟩ := Option.isSome_iff_exists.mp h.top
  obtain ⟨r, hr⟩ := State.topJava?_eq_some.mp hg0
  have hs₂ : s₂ = ((({ U with heap := s₂.heap, slotsUsed := s₂.slotsUsed } : State).setVm s₂.vm).setTop g).pushFrame (.throwing q) := by
    have hr' : (({ U with heap := s₂.heap, slotsUsed := s₂.slotsUsed } : State).setVm s₂.vm).frames = .java g₀ :: r := hr
    refine e3.trans ?_
    rw [hf₂, State.calling_eq h.top, State.setFrames_setFrames, State.pushFrame, State.frames_setTop _ hr', State.setTop_of_frames _ hr', State.setFrames_setFrames, hr]
    rfl
  have hsame : U.sameButNew ({ U with heap := s₂.heap, slotsUsed := s₂.slotsUsed } : State) L mc ms := by
    refine ⟨?_, q2, q3, q4, q5, q6⟩
    obtain ⟨t, ht, -⟩ := State.frames_cons hr
    show ({ U with heap := s₂.heap, slotsUsed := s₂.slotsUsed } : State) = { U.setFrames U.frames with heap := s₂.heap, slotsUsed := s₂.slotsUsed }
    rw [State.setFrames_self ht]
  subst hg
  refine ⟨q, ce, s₂, (({ U with heap := s₂.heap, slotsUsed := s₂.slotsUsed } : State).setVm s₂.vm), L,
    ⟨X.admits, X.cas, X.clock, X.frames, X.room, X.hears, X.method, X.code, (X.here.setHeapUsed s₂.heap s₂.slotsUsed).setVm hW'.alike, X.tail, State.WarmedH.trans X.warmed hW', X.limits, X.bytes, X.same.trans (hsame.setVm s.vm)⟩,
    hL, rfl, hXC, hce, hcv, hcl, ?_⟩
  rw [← hs₂]
  exact hsteps
/-- a call, on an object, of a method that throws; the frame rule -/
theorem z_xV {S : Type} {px : S → Prop} {w1 : S → va_W} {E : String} {y : MethodName} {bytes : ByteArray} {maxL n index nL q0 ci N : Nat} {ret : Option FieldType} {own : String} {rm : Room} {b : Nat} {As : List Value} {fs : List Value} {Tt : u_T}
    (SF : CallFix p m c cc nL s args zTB own) (hM : zxMet l y (Cond.code y bytes maxL ret :: zTB) rm (va_Pc (.ref b :: As) (zPreX G K wc H.size)) E (zXC px w1 G K (va_A wc H.size)) rm.cells rm.slots (va_A wc H.size)) (hf : zFaceV y bytes maxL ret n) (h1 : Cond.methodLink own index y ∈ zTB) (hR : rm.frames + 1 ≤ R.frames ∧ 8 + (maxL + 11) + rm.locals ≤ R.locals)
    (hK : va_K G vwCl (zK K) s) (hT : zTh A s s.heap) (hw : zW G A s.heap ws H locs) (hA : ∀ q, s.heap.size ≤ q → A q) (isC isR : List Nat) (hC : isC.map (fun i => ws[i]?) = wc.map some) (hRr : isR.map (fun i => ws[i]?) = wr.map some) (hnC : va_nd isC = true) (hnR : va_nd isR = true) (hdis : ∀ i ∈ isR, i ∉ isC) (he : ws[q0]? = some (b, .inr (ci, fs))) (hc : vwCl[ci]? = some (y.cls, Tt, N)) (hn : As.length = n) (hsize : ls.size = nL) (hst : st0 = As.reverse ++ .ref b :: rest) (hW : (rest.map fun v => v.category).sum ≤ 8) (hdg : decode cc pc = .ok (.invokevirtual index, 3)) (hroom : cells + rm.cells ≤ R.cells ∧ slots + rm.slots ≤ R.slots)
    (kk : ∀ (ce : Cell) (q9 : Addr) (u : S) (H1 : Heap) (locs1 : List Loc), px u → zW G A s.heap (wr ++ w1 u) H1 locs1 → H1[q9]? = some ce → ce.vm = .none → s.vm.findClass E = some ce.cls → zxW p l e R s m args below meth c H1 locs1 (cells + rm.cells) (slots + rm.slots) Q (F0 m pc ls rest) q9) : W p l e R s m args below meth c H locs cells slots Q (F0 m pc ls st0) := by
  obtain ⟨hx, hb, hml, hown, hts⟩ := SF
  obtain ⟨f2, f3, f4, f5, fy1, fy2, flen⟩ := hf
  obtain ⟨hP, hD, hS⟩ := hw
  have hPc := hP.sub isC (z_map_fm hC)
  have hDc := hD.sub isC hnC hC
  have hFc := va_free (wc := wc) hD hS hA isC hC
  have hT1 : zTh (va_A wc H.size) s H := (hT.kept hS.2.1).narrow hFc
  obtain ⟨mk, methM, hnamed, hmethM, hstM, habM⟩ := Cond.instanceMethod_spec (hts _ f2)
  obtain ⟨methM', cM, hmethM', -, -, -, -, -, -, hsigM⟩ := Cond.code_spec hnamed (hts _ f5)
  cases hmethM.symm.trans hmethM'
  obtain ⟨c2, r2, m2, q1, q2, q3, q4, kP, hkP, hkPi⟩ := Cond.selects_spec (hts _ f3)
  obtain ⟨cellB, hcB, hoB, hclB⟩ := va_recv hK hP hc he
  cases hclB.symm.trans q1
  cases (State.methodFound?_of_named hnamed ⟨fy1, fy2⟩).symm.trans q2
  cases hnamed.symm.trans q3
  intro T hT0 X
  have hselP : selectMethod e.platform s.vm cellB.cls mk = .method mk := by rw [Launch.admits_selectMethod X.admits]; exact q4
  have hlen : ∀ sig, parseMethodDescriptor y.desc = some sig → As.length = sig.parameters.length := fun sig h => by
    rw [h] at flen
    rw [hn]
    exact (Option.some.inj flen).symm
  obtain ⟨vm₁, X₁, hstep₁⟩ := X.invokevirtual hx hown (hts _ h1) hnamed hmethM hstM hkP hkPi ⟨fy1, fy2⟩ (a := b) (cell := cellB) (by rw [hT0]; exact hcB)
    (fun z h => by rw [h] at hoB; cases hoB) hselP hmethM habM hkP hkPi (g := F0 m pc ls st0) rfl (argsL := As) (rest := rest) (hlen _ hsigM) hst (by rw [hb]; exact hdg)
  have hWm : s.WarmedH vm₁ := X₁.warmed
  have hws := pay_in hts (z_good f5)
  have hpre : va_Pc (.ref b :: As) (zPreX G K wc H.size) (Value.ref b :: As).toArray (T.setVm vm₁) := by
    refine ⟨rfl, ⟨?_, ?_, ?_, ?_⟩, ?_⟩
    · show T.heap.size = H.size
      rw [hT0]
    · show va_P G vwCl wc T.heap
      rw [hT0]; exact hPc
    · exact va_K.moved hWm.alike hK
    · exact hDc.weaken (fun _ _ _ _ => trivial)
    · show zTh (va_A wc H.size) (T.setVm vm₁) T.heap
      rw [hT0]; exact zTh.moved hWm.alike hT1
  obtain ⟨q, ce, t, T', L, X', hL, e1, ⟨u, hu, ⟨hP1, hD1⟩, hF⟩, hce, hcv, hcl, st⟩ := zx_call X₁ hM (g := F0 m pc ls rest) rfl (hsize.trans hml.symm) (ig := .invokevirtual index) (len := 3) (by rw [hb]; exact hdg) (lv_room hW) (X₁.named hnamed) (bytes := bytes) (maxL := maxL) (ret := ret)
    (atoms_intro fun w hw => hws w hw _ _ hWm) (hws _ List.mem_cons_self _ _ hWm) (hws _ (List.mem_cons_of_mem _ f4) _ _ hWm) hR.1 hR.2 hroom.1 hroom.2 (zPreX_blind _ _ _ _ hpre)
  have hz : H.size ≤ t.heap.size := by
    have h9 : T.heap.size ≤ t.heap.size := hF.1
    rw [hT0] at h9; exact h9
  have hk : ∀ q : Nat, q < H.size → ¬ va_A wc H.size q → t.heap[q]? = H[q]? := fun q hq hA9 => by
    have h9 : t.heap[q]? = T.heap[q]? := hF.2 q (by show q < T.heap.size; rw [hT0]; exact hq) hA9
    rw [h9, hT0]
  obtain ⟨hP2, hD2⟩ := va_join hP hD isC isR hC hRr hnR hdis hk hFc hP1 hD1
  have hS2 : va_S A s.heap t.heap (locs ++ L) := ⟨Nat.le_trans hS.1 hz, fun q h1 h2 => by
      rw [hk q (Nat.lt_of_lt_of_le h1 hS.1) (fun z => h2 (hFc q z))]; exact hS.2.1 q h1 h2, fun q hq => by
      rcases List.mem_append.mp hq with h | h
      · exact hS.2.2 q h
      · exact hFc _ (hL q h)⟩
  have hcl' : s.vm.findClass E = some ce.cls := by
    have h9 : vm₁.findClass E = some ce.cls := hcl
    rw [hWm.alike.findClass] at h9
    exact h9
  obtain ⟨t2, a1, b1⟩ := kk ce q u t.heap (locs ++ L) hu ⟨hP2, hD2, hS2⟩ hce hcv hcl' T' e1 X'
  exact ⟨t2, hstep₁ _ fun acts => by rw [doInvoke_state]; exact st.trans a1, b1⟩
/-- it goes on to the caller -/
theorem z_xout {S : Type} {E : String} {px : S → Prop} {w1 : S → va_W} {ce : Cell} {q : Addr} (u : S) (hnt : ∀ x ∈ c.exceptionTable.toList, False) (hlocks : meth.locks = false) (hcell : H[q]? = some ce) (hv : ce.vm = .none) (hcl : s.vm.findClass E = some ce.cls) (hw : zW G A s.heap ws H locs) (is : List Nat) (hi : is.map (fun i => ws[i]?) = (w1 u).map some) (hn : va_nd is = true) (hu : px u) (hc : cells ≤ mc) (hs : slots ≤ ms) :
    zxW p l e R s m args below meth c H locs cells slots (zxMQ below E (zXC px w1 G K A) args s mc ms A) (F0 m pc ls rest) q := by
  obtain ⟨hP, hD, hS⟩ := hw
  intro T hT X
  obtain ⟨st1, hrun, hend, hW, hsm⟩ := X.leaveThrown q (g := F0 m pc ls rest) rfl rfl rfl (fun x hx => (hnt x hx).elim) hlocks
  have hheap : (T.setFrames (.throwing q :: below)).heap = H := hT
  refine ⟨_, st1, .threw q, hrun, hend, q, ce, locs, rfl, ⟨u, hu, ⟨?_, hD.sub is hn hi⟩, ?_⟩, ?_, hv, hcl, hW, hsm.mono hc hs, hS.2.2⟩
  · rw [hheap]; exact hP.sub is (z_map_fm hi)
  · exact hS.F hheap
  · rw [hheap]; exact hcell
/-- a body that throws, of a method without a table -/
theorem zMetX {y : MethodName} {wt : List Cond} {rm : Room} {av : List Value} {W0 : va_W} {sz : Nat} {E : String} {Xf : (Nat → Prop) → State → State → Prop} {maxL : Nat} {ret : Option FieldType}
    (hy : plainName y.cls = true) (hav : (lg_sl av).length ≤ maxL)
    (body : ∀ (p : Program) (e : Env) (s : State) (m : MethodId) (below : List Frame) (meth : Method) (c : Code) (ls : Array Slot) (A : Nat → Prop), p.tables.exec = Jvm.exec → c.code = cc → meth.sig.returnType = ret → c.maxLocals = maxL → (∀ w ∈ wt, w.before av.toArray s = true) → s.vm.findClass y.cls = some m.cls → meth.locks = false → meth.name = y.name → (∀ q, s.heap.size ≤ q → A q) → va_K G vwCl (zK K) s → ∀ (H : Heap) (locs : List Loc), zW G A s.heap W0 H locs → H.size = sz → lv_has ls maxL (lv_args 0 av) → zTh A s s.heap → (∀ x ∈ c.exceptionTable.toList, False) → (∀ q, A q → ∀ cell, s.heap[q]? = some cell → cell.vm.isStatics = false) →
      W p l e rm s m av.toArray below meth c H locs 0 0 (zxMQ below E (Xf A) av.toArray s mc ms A) (F0 m 0 ls [])) :
    zxMet l y (Cond.code y cc maxL ret :: wt) rm (va_Pc av (zPreX G K W0 sz)) E (Xf (va_A W0 sz)) mc ms (va_A W0 sz) := by
  refine MetFree.of_bodyS (code := cc) (maxLocals := maxL) (ret := ret) hy ?_ ?_
  · intro args s m h hn
    obtain ⟨meth, c, h1, h2, h3, h4, h5, h6, -, -⟩ := Cond.code_spec hn (atoms_spec (ws := Cond.code y cc maxL ret :: wt) h _ List.mem_cons_self)
    exact ⟨meth, c, h1, h2, h3, h4, h5, h6⟩
  · intro p e s m args below meth c s₁ B hml hv _
    obtain ⟨rfl, ⟨hsz, hP, hK, hD0⟩, hT⟩ := hv
    have hh0 : s₁.heap = s.heap := by rw [B.state]; rfl
    have hts := atoms_spec (ws := Cond.code y cc maxL ret :: wt) B.pre
    have hnt : ∀ x ∈ c.exceptionTable.toList, False := by
      obtain ⟨meth9, c9, h1, h2, -, -, -, -, h7, -⟩ := Cond.code_spec B.named (hts _ List.mem_cons_self)
      cases Option.some.inj (h1.symm.trans B.method)
      cases Option.some.inj (h2.symm.trans (Stand.of_body B).code)
      intro x hx
      rw [Array.isEmpty_iff.mp h7] at hx
      cases hx
    have hNS : ∀ q, va_A W0 sz q → ∀ cell, s.heap[q]? = some cell → cell.vm.isStatics = false := by
      intro q hq cell hcell
      rcases hq with ⟨k, e9, h9⟩ | h9
      · have h8 := hP k (q, e9) h9
        cases e9 with
        | inl x =>
          have h7 : s.heap[q]? = some (vp_cell x.1 x.2) := h8
          cases hcell.symm.trans h7
          obtain ⟨x1, n1, x3⟩ := x
          rcases x3 with f | f | f | f | f <;> rfl
        | inr o =>
          obtain ⟨r, h1, cell2, h2, h3, h4, h5⟩ := h8
          cases hcell.symm.trans h2
          rw [h4]
          rfl
      · have h8 := (Array.getElem?_eq_some_iff.mp hcell).1
        have h7 : s.heap.size = sz := hsz
        omega
    have hl := lv_entry av (n := maxL) hav
    have hA : ∀ q, s.heap.size ≤ q → va_A W0 sz q := fun q h => Or.inr (by rw [← hsz]; exact h)
    have key := body p e s m below meth c _ (va_A W0 sz) B.exec B.bytes B.returns hml (fun w h => hts w (List.mem_cons_of_mem _ h)) (findClass_of_methodNamed B.named) B.notSynchronized (name_of_methodNamed B.named B.method).1 hA hK s.heap [] ⟨hP, hD0.self, va_S.rf⟩ hsz hl hT hnt hNS
    rw [← lg_entry_eq] at key
    obtain ⟨t, a1, o, b1, b2, b3⟩ := key s₁ hh0 (Stand.of_body B)
    exact ⟨t, o, a1, b1, b2, b3⟩
/-- the words of a throw, by a look at each -/
theorem zx_of {L : List Cond} (h : L.all (fun w => (decide (w ∈ lw_tbl) && (goodWord w || (w.faceAtom && w.onTables))) || (decide (w = .isRef (.static Bundle.tN "UNASSIGNED_STACK" Bundle.steD)) || decide (w = .isRef (.static Bundle.tN "SUPPRESSED_SENTINEL" Bundle.listD)) || decide (w = .laysStatic Bundle.tN "UNASSIGNED_STACK" Bundle.steD) || decide (w = .laysStatic Bundle.tN "SUPPRESSED_SENTINEL" Bundle.listD))) = true) :
    ∀ w ∈ L, w ∈ zTB ∨ w = .isRef (.static Bundle.tN "UNASSIGNED_STACK" Bundle.steD) ∨ w = .isRef (.static Bundle.tN "SUPPRESSED_SENTINEL" Bundle.listD) ∨ w = .laysStatic Bundle.tN "UNASSIGNED_STACK" Bundle.steD ∨ w = .laysStatic Bundle.tN "SUPPRESSED_SENTINEL" Bundle.listD ∨ w ∈ zDC := by
  intro w hw
  have h1 := List.all_eq_true.mp h w hw
  simp only [Bool.or_eq_true, Bool.and_eq_true, decide_eq_true_eq] at h1
  rcases h1 with ⟨h2, h3 | h3⟩ | ((h2 | h2) | h2) | h2
  · exact Or.inl (z_in h2 h3)
  · exact Or.inr (Or.inr (Or.inr (Or.inr (Or.inr (List.mem_filter.mpr ⟨h2, by simp only [Bool.and_eq_true]; exact h3⟩)))))
  · exact Or.inr (Or.inl h2)
  · exact Or.inr (Or.inr (Or.inl h2))
  · exact Or.inr (Or.inr (Or.inr (Or.inl h2)))
  · exact Or.inr (Or.inr (Or.inr (Or.inr (Or.inl h2))))
/-- 'throw new E()': new; dup; invokespecial; athrow -/
theorem z_throw {own cls : String} {names : List String} {ik ic : Nat} (hexec : p.tables.exec = Jvm.exec) (hb : c.code = cc) (hl : l.stackTraces = false) (hts : ∀ w ∈ zTB, w.before args s = true) (hown : s.vm.findClass own = some m.cls) (hnt : ∀ x ∈ c.exceptionTable.toList, False) (hlocks : meth.locks = false) (hT : zTh A s s.heap) (hNS : ∀ q, A q → ∀ cell, s.heap[q]? = some cell → cell.vm.isStatics = false) (hsize : ls.size = c.maxLocals) (hcls : Bundle.fit cls = true) (hnames : ∀ n ∈ names, Bundle.fit n = true)
    (hk : Cond.classLink own ik cls ∈ zTB) (hini : Cond.initialized cls ∈ zTB) (hins : Cond.instantiable cls 6 ∈ zTB)
    (hat : ∀ w ∈ Bundle.ownAtoms0 own ic cls names, w ∈ zTB ∨ w = .isRef (.static Bundle.tN "UNASSIGNED_STACK" Bundle.steD) ∨ w = .isRef (.static Bundle.tN "SUPPRESSED_SENTINEL" Bundle.listD) ∨ w = .laysStatic Bundle.tN "UNASSIGNED_STACK" Bundle.steD ∨ w = .laysStatic Bundle.tN "SUPPRESSED_SENTINEL" Bundle.listD ∨ w ∈ zDC)
    (hw : zW G A s.heap ws H locs)
    (d0 : decode cc pc = .ok (.new ik, 3)) (d3 : decode cc (pc + 3) = .ok (.dup, 1)) (d4 : decode cc (pc + 4) = .ok (.invokespecial ic, 3)) (d7 : decode cc (pc + 7) = .ok (.athrow, 1))
    (hRframes : names.length + 3 < R.frames) (hRlocals : (rest.map fun v => v.category).sum + (13 * (names.length + 1) + 42) ≤ R.locals) (hRcells : cells + 1 ≤ R.cells) (hRslots : slots + 6 ≤ R.slots) (hc : cells + 1 ≤ mc) (hs : slots + 6 ≤ ms) :
    W p l e R s m args below meth c H locs cells slots (zxMQ below cls (zXC (fun _ : Unit => True) (fun _ => []) G K A) args s mc ms A) (F0 m pc ls rest) := by
  obtain ⟨hP, hD, hS⟩ := hw
  intro T hT0 X
  have htr : e.platform.stackTraces = false := (show e.platform.stackTraces = l.stackTraces by rw [X.admits.platform]).trans hl
  obtain ⟨vm₁, cX, kX, hfX, hkX, -, -, X₁, st1⟩ := X.newCold hexec (own := own) (C := cls) (index := ik) (n := 6) hown (hts _ hk) (hts _ hins) (hts _ hini) (g := F0 m pc ls rest) rfl (by rw [hb]; exact d0) hRcells hRslots
  have hwords : ∀ w ∈ Bundle.ownAtoms0 own ic cls names, w.before args s = true := fun w hw9 => by
    rcases hat w hw9 with h | h | h | h | h | h
    · exact hts _ h
    · rw [h]; exact hT.1.isRef
    · rw [h]; exact hT.2.1.isRef
    · rw [h]; exact hT.1.lays
    · rw [h]; exact hT.2.1.lays
    · exact zDC_moved (Vm.Alike.refl s.vm) hT.2.2 w h
  generalize hT1 : (T.setVm vm₁).pushCell { cls := cX, slots := kX.instanceTypes.map defaultValue, vm := .none } = T1 at X₁ st1
  have hcellA : T1.heap[T.heap.size]? = some (freshCell cX kX) := by rw [← hT1]; exact State.heap_pushCell_size _ _
  have d3' : decode c.code (pc + 3) = .ok (.dup, 1) := by rw [hb]; exact d3
  have hcat : (Value.ref T.heap.size).category = 1 := rfl
  obtain ⟨U, hsteps, hrun, hend, hW, hsame, ce, hce, hO⟩ := X₁.ctorThrow0 hexec htr (own := own) (cls := cls) (names := names) (ic := ic) hown hcls hnames hwords (fun x hx cell hcell => hNS _ (hS.2.2 x hx) cell hcell) hfX hkX hcellA (by rw [hT0]; exact hS.1)
    (g := { method := m, pc := pc + 4, locals := ls, stack := .ref T.heap.size :: .ref T.heap.size :: rest, locked := none }) rfl hsize rfl rfl (rest := rest) rfl
    (by rw [hb]; exact d4) (by rw [hb]; exact d7) (fun x hx => (hnt x hx).elim) hRframes (by
      have h0 : ({ method := m, pc := pc + 4, locals := ls, stack := .ref T.heap.size :: .ref T.heap.size :: rest, locked := none } : JFrame).monitorRoom = 0 := rfl
      rw [h0]
      simp only [List.map_cons, List.sum_cons, hcat]
      omega) hlocks
  have hk9 := kept_of_same hsame (keep := fun q => ¬ A q) (fun q hq h => h (hS.2.2 q hq))
  have hF : va_F A s U := ⟨hsame.2.1, fun q hq hq2 => by
    have h9 : s.heap[q]? = some s.heap[q] := Array.getElem?_eq_getElem hq
    rw [h9]
    exact hk9 q _ hq2 h9⟩
  have hcl : s.vm.findClass cls = some ce.cls := hO.cls
  refine ⟨U, ?_, .threw T.heap.size, hrun, hend, T.heap.size, ce, locs, rfl, ⟨(), trivial, zPost_nil, hF⟩, hce, hO.vm, hcl, hW, hsame.mono hc hs, hS.2.2⟩
  refine st1 _ ?_
  show Steps p.tables e below (T1.setTop { method := m, pc := pc + 3, locals := ls, stack := .ref T.heap.size :: rest, locked := none }) _
  jvm_step X₁.here [X₁.here.top, hexec, d3', Value.category]
  exact hsteps
/-- a method with a table of its own that catches -/
theorem zMetW {y : MethodName} {wt : List Cond} {rm : Room} {av : List Value} {W0 : va_W} {sz : Nat} {Qf : (Nat → Prop) → Array Value → State → Outcome → State → Prop} {maxL : Nat} {ret : Option FieldType} {hh : List (Nat × Nat × Nat × Nat)}
    (hy : plainName y.cls = true) (hav : (lg_sl av).length ≤ maxL)
    (body : ∀ (p : Program) (e : Env) (s : State) (m : MethodId) (below : List Frame) (meth : Method) (c : Code) (ls : Array Slot) (A : Nat → Prop), p.tables.exec = Jvm.exec → c.code = cc → meth.sig.returnType = ret → c.maxLocals = maxL → (∀ w ∈ wt, w.before av.toArray s = true) → s.vm.findClass y.cls = some m.cls → meth.locks = false → meth.name = y.name → (∀ q, s.heap.size ≤ q → A q) → va_K G vwCl (zK K) s → ∀ (H : Heap) (locs : List Loc), zW G A s.heap W0 H locs → H.size = sz → lv_has ls maxL (lv_args 0 av) → zTh A s s.heap → c.exceptionTable.toList = tableOf hh →
      W p l e rm s m av.toArray below meth c H locs 0 0 (MQ below (Qf A) av.toArray s mc ms A) (F0 m 0 ls [])) :
    Met l y (Cond.codeWith y cc maxL ret hh :: wt) rm (va_Pc av (zPreX G K W0 sz)) (Qf (va_A W0 sz)) mc ms (va_A W0 sz) := by
  refine va_MetW (cc := cc) (maxL := maxL) (ret := ret) (hh := hh) hy rfl ?_
  intro p e s m args below meth c s₁ B hml hv
  obtain ⟨rfl, ⟨hsz, hP, hK, hD0⟩, hT⟩ := hv
  have hts := atoms_spec (ws := Cond.codeWith y cc maxL ret hh :: wt) B.pre
  have htab : c.exceptionTable.toList = tableOf hh := by
    obtain ⟨m9, meth9, c9, hn9, h1, h2, -, -, h6, -⟩ := Cond.codeWith_spec (hts _ List.mem_cons_self)
    cases Option.some.inj (hn9.symm.trans B.named)
    cases Option.some.inj (h1.symm.trans B.method)
    cases Option.some.inj (h2.symm.trans (Stand.of_body B).code)
    rw [← h6, table_eq]
  have hl := lv_entry av (n := maxL) hav
  rw [lg_entry_eq]
  generalize (lg_sl av ++ List.replicate (maxL - (lg_sl av).length) Slot.unset).toArray = ls at hl ⊢
  refine body p e s m below meth c ls _ B.exec B.bytes B.returns hml (fun w h => hts w (List.mem_cons_of_mem _ h)) (findClass_of_methodNamed B.named) B.notSynchronized (name_of_methodNamed B.named B.method).1 ?_ hK s.heap [] ⟨hP, hD0.self, va_S.rf⟩ hsz hl hT htab
  intro q h
  exact Or.inr (by rw [← hsz]; exact h)
/-- caught by the first row of this method's table, which names the very class -/
theorem z_catch {own E : String} {ce : Cell} {q : Addr} (hown : s.vm.findClass own = some m.cls) (hts : ∀ w ∈ zTB, w.before args s = true) (x : ExceptionTableEntry) (suf : List ExceptionTableEntry) (htab : c.exceptionTable.toList = x :: suf) (hx : covers x pc = true) (h0 : x.catchType ≠ 0) (hlink : Cond.classLink own x.catchType E ∈ zTB) (hT : zTh A s s.heap) (hcast : Cond.castable E E ∈ zDC) (hcell : H[q]? = some ce) (hv : ce.vm = .none) (hcl : s.vm.findClass E = some ce.cls)
    (kk : W p l e R s m args below meth c H locs cells slots Q (F0 m x.handlerPc ls [.ref q])) : zxW p l e R s m args below meth c H locs cells slots Q (F0 m pc ls rest) q := by
  intro T hT0 X
  have hpl : e.platform.magicAccessors = ({} : Platform).magicAccessors := by rw [X.admits.platform]
  obtain ⟨c3, c4, hc3, hc4, hasg⟩ := Cond.castable_spec (hT.2.2 _ hcast)
  obtain ⟨c5, hc5, hcl5⟩ := Cond.classLink_spec hown (hts _ hlink) e.platform hpl
  cases Option.some.inj (hc3.symm.trans hcl)
  cases Option.some.inj (hc4.symm.trans hc5)
  obtain ⟨vm', X', st⟩ := X.thenCaughtThrough q (g := F0 m pc ls rest) rfl (Steps.refl _) (by rw [hT0]; exact hcell) (by rw [hv]; rfl) (by obtain ⟨k9, h9, -⟩ := Vm.findClass_spec hcl; exact ⟨k9, h9⟩) [] x suf htab (fun z hz => by cases hz) hx (Or.inr ⟨h0, _, hcl5, hasg⟩)
  obtain ⟨t, a1, b1⟩ := kk (T.setVm vm') hT0 X'
  exact ⟨t, st.trans a1, b1⟩
def zFaceSW (y : MethodName) (bytes : ByteArray) (maxL : Nat) (ret : Option FieldType) (hh : List (Nat × Nat × Nat × Nat)) (n : Nat) : Prop := Cond.static y ∈ zTB ∧ Cond.initialized y.cls ∈ zTB ∧ Cond.codeWith y bytes maxL ret hh ∈ zTB ∧ y.cls ≠ "java/lang/invoke/MethodHandle" ∧ y.cls ≠ "java/lang/invoke/VarHandle" ∧ (parseMethodDescriptor y.desc).map (fun d => d.parameters.length) = some n
/-- a call of a static method that has a table of its own -/
theorem z_runSW {y : MethodName} {bytes : ByteArray} {maxL n index nL : Nat} {ret : Option FieldType} {hh : List (Nat × Nat × Nat × Nat)} {own : String} {rm : Room} {Qc : Array Value → State → Outcome → State → Prop} {free : Addr → Prop} {As : List Value}
    (S : CallFix p m c cc nL s args zTB own) (hM : Met l y (Cond.codeWith y bytes maxL ret hh :: zTB) rm (va_Pc As (zPreX G K wc H.size)) Qc rm.cells rm.slots free) (hf : zFaceSW y bytes maxL ret hh n) (h1 : Cond.methodLink own index y ∈ zTB) (hR : rm.frames + 1 ≤ R.frames ∧ 8 + (maxL + 11) + rm.locals ≤ R.locals)
    (hK : va_K G vwCl (zK K) s) (hT : zTh A s s.heap) (hw : zW G A s.heap ws H locs) (hA : ∀ q, s.heap.size ≤ q → A q) (is : List Nat) (hi : is.map (fun i => ws[i]?) = wc.map some) (hnd : va_nd is = true) (hn : As.length = n) (hsize : ls.size = nL) (hst : st0 = As.reverse ++ rest) (hW : (rest.map fun v => v.category).sum ≤ 8) (hdg : decode cc pc = .ok (.invokestatic index, 3)) (hroom : cells + rm.cells ≤ R.cells ∧ slots + rm.slots ≤ R.slots) :
    va_Run p l e R s m args below meth c H locs cells slots rm.cells rm.slots (F0 m pc ls st0) rest (Qc As.toArray) free := by
  obtain ⟨hP, hD, hS⟩ := hw
  have hPc := hP.sub is (z_map_fm hi)
  have hDc := hD.sub is hnd hi
  have hFc := va_free (wc := wc) hD hS hA is hi
  have hT1 : zTh (va_A wc H.size) s H := (hT.kept hS.2.1).narrow hFc
  obtain ⟨hx, hb, hml, hown, hts⟩ := S
  obtain ⟨f1, f2, f3, fy1, fy2, flen⟩ := hf
  have hws := pay_in hts (z_good f3)
  have hBk : Back l R p e below s args y 3 8 (PreOf R rm.cells rm.slots (va_Pc As (zPreX G K wc H.size))) (PostOf Qc rm.cells rm.slots free) := va_backW (hh := hh) (bytes := bytes) (maxL := maxL) (ret := ret) hM zPreX_blind rfl rfl hR.1 hR.2 hws List.mem_cons_self (fun a' U hW => hws _ (List.mem_cons_of_mem _ f2) a' U hW)
  obtain ⟨mk, methM, cM, hnamed, hmethM, -, -, -, -, -, -, hsigM⟩ := Cond.codeWith_spec (hts _ f3)
  have hstatic : methM.isStatic = true := Cond.static_spec hnamed hmethM (hts _ f1)
  obtain ⟨kP, hkP, -⟩ := className_of_methodNamed hnamed
  have hinitP : kP.init = .initialized := Cond.initialized_spec (findClass_of_methodNamed hnamed) hkP (hts _ f2)
  have hlen : ∀ sig, parseMethodDescriptor y.desc = some sig → As.length = sig.parameters.length := fun sig h => by
    rw [h] at flen
    rw [hn]
    exact (Option.some.inj flen).symm
  intro T hT0 X
  obtain ⟨vm₁, X₁, hstep₁⟩ := X.invokestatic hx hown (hts _ h1) hnamed hmethM hstatic hkP hinitP ⟨fy1, fy2⟩ (g := F0 m pc ls st0) rfl (argsL := As) (rest := rest) (hlen _ hsigM) hst (by rw [hb]; exact hdg)
  have hWm : s.WarmedH vm₁ := X₁.warmed
  have hpre : va_Pc As (zPreX G K wc H.size) As.toArray (T.setVm vm₁) := by
    refine ⟨rfl, ⟨?_, ?_, ?_, ?_⟩, ?_⟩
    · show T.heap.size = H.size
      rw [hT0]
    · show va_P G vwCl wc T.heap
      rw [hT0]; exact hPc
    · exact va_K.moved hWm.alike hK
    · exact hDc.weaken (fun _ _ _ _ => trivial)
    · show zTh (va_A wc H.size) (T.setVm vm₁) T.heap
      rw [hT0]; exact zTh.moved hWm.alike hT1
  obtain ⟨v, ⟨U', l2, c2, s2⟩, X', ⟨g', mk', t, L, e1, e2, hq, h8, hL, h9, h10⟩, st⟩ := hBk m meth c ⟨T.setVm vm₁, locs, cells, slots⟩ (F0 m pc ls rest) (.invokestatic index) mk As.toArray X₁ rfl (hsize.trans hml.symm) (by rw [hb]; exact hdg) (lv_room hW) (X₁.named hnamed) ⟨hroom.1, hroom.2, hpre⟩
  dsimp only [Pt.U, Pt.locs, Pt.cells, Pt.slots] at X' e1 e2 h8 h9 h10 st
  subst h8; subst h9; subst h10
  exact ⟨v, (T.setVm vm₁).calling g' mk' As.toArray, t, U', L, hT0, X', hL, e1, e2, hq, fun target h => hstep₁ _ fun acts => by rw [doInvoke_state]; exact st.trans h⟩
end ZX
end
section
/-! What write does, for class and reference alike: the eight characters of a long, the first in its highest byte. -/
def zB (w : Int64) (sh : Int32) : Int32 := (w.toUInt64 >>> (sh.toInt64.toUInt64 &&& Int64.toUInt64 63)).toInt64.toInt32 &&& 255
def zBad (b : Int32) : Prop := ¬ b = 0 ∧ (b < 33 ∨ 126 < b)
def zBadB (b : Int32) : Bool := !(decide (b = 0)) && (decide (b < 33) || decide (126 < b))
theorem zBadB_t {b : Int32} (h0 : ¬ b = 0) (h : b < 33 ∨ 126 < b) : zBadB b = true := by
  unfold zBadB
  rcases h with h | h <;> simp [h0, h]
theorem zBadB_z {b : Int32} (h0 : b = 0) : zBadB b = false := by
  unfold zBadB
  simp [h0]
theorem zBadB_f {b : Int32} (h1 : ¬ b < 33) (h2 : b ≤ 126) : zBadB b = false := by
  unfold zBadB
  have h3 : ¬ 126 < b := fun h => by
    rw [Int32.lt_iff_toInt_lt] at h
    rw [Int32.le_iff_toInt_le] at h2
    omega
  simp [h1, h3]
def zC1 (b : Int32) : Nat := if b = 0 then 0 else 1
def zSh : List Int32 := [56, 48, 40, 32, 24, 16, 8, 0]
def zHd : List Int32 → Int32
  | [] => -8
  | sh :: _ => sh
def zSuf : List Int32 → Bool
  | [] => true
  | sh :: r => decide (¬ sh < 0) && decide (sh + (-8) = zHd r) && zSuf r
theorem zSuf_sh : zSuf zSh = true := by decide +kernel
theorem zSuf_c {sh : Int32} {r : List Int32} (h : zSuf (sh :: r) = true) : ¬ sh < 0 ∧ sh + (-8) = zHd r ∧ zSuf r = true := by
  simp only [zSuf, Bool.and_eq_true, decide_eq_true_eq] at h
  exact ⟨h.1.1, h.1.2, h.2⟩
def zOkL (w : Int64) : List Int32 → Bool
  | [] => true
  | sh :: r => !(zBadB (zB w sh)) && zOkL w r
def zSum (w : Int64) : List Int32 → Nat
  | [] => 0
  | sh :: r => zC1 (zB w sh) + zSum w r
theorem zSum_le (w : Int64) : ∀ r : List Int32, zSum w r ≤ r.length
  | [] => Nat.le_refl _
  | sh :: r => by
    have h := zSum_le w r
    have h1 : zC1 (zB w sh) ≤ 1 := by unfold zC1; split <;> omega
    simp only [zSum, List.length_cons]
    omega
def zPutF (w : Int64) : List Int32 → (Nat → Int32) → Nat → (Nat → Int32)
  | [], f, _ => f
  | sh :: r, f, n => if zB w sh = 0 then zPutF w r f n else zPutF w r (upd f n (zB w sh)) (n + 1)
/-- the answer, the characters and their number behind write(w) -/
def zWrB (w : Int64) (n : Nat) : Bool := zOkL w zSh && decide (n + zSum w zSh ≤ 240)
def zWrR (w : Int64) (n : Nat) : Int32 := if zWrB w n = true then 1 else 0
def zWrF (w : Int64) (f : Nat → Int32) (n : Nat) : Nat → Int32 := if zWrB w n = true then zPutF w zSh f n else f
def zWrN (w : Int64) (n : Nat) : Nat := if zWrB w n = true then n + zSum w zSh else n
theorem zWrB_bad {w : Int64} {n : Nat} (h : zOkL w zSh = false) : zWrB w n = false := by
  unfold zWrB
  rw [h]
  rfl
theorem zWrB_full {w : Int64} {n : Nat} (h : ¬ n + zSum w zSh ≤ 240) : zWrB w n = false := by
  unfold zWrB
  simp [h]
theorem zWrB_ok {w : Int64} {n : Nat} (h1 : zOkL w zSh = true) (h : n + zSum w zSh ≤ 240) : zWrB w n = true := by
  unfold zWrB
  simp [h, h1]
/-- Arrays.fill, up to a place -/
def zFill {α : Type} (f : Nat → α) (v : α) (i : Nat) : Nat → α := fun j => if j < i then v else f j
theorem zFill_0 {α : Type} (f : Nat → α) (v : α) : zFill f v 0 = f := by
  funext j
  simp [zFill]
theorem zFill_s (f : Nat → Int32) (v : Int32) (i : Nat) : upd (zFill f v i) i v = zFill f v (i + 1) := by
  funext j
  simp only [upd, zFill]
  by_cases h : j = i
  · subst h; simp
  · by_cases h2 : j < i
    · simp [h, h2, Nat.lt_succ_of_lt h2]
    · have h3 : ¬ j < i + 1 := by omega
      simp [h, h2, h3]
theorem zFill_sL (f : Nat → Int64) (v : Int64) (i : Nat) : vp_updL (zFill f v i) i v = zFill f v (i + 1) := by
  funext j
  simp only [vp_updL, zFill]
  by_cases h : j = i
  · subst h; simp
  · by_cases h2 : j < i
    · simp [h, h2, Nat.lt_succ_of_lt h2]
    · have h3 : ¬ j < i + 1 := by omega
      simp [h, h2, h3]
end
section
theorem zm_0 : Cond.instantiable "LassoFinder" 13 ∈ zTB := z_in (zt_1 _ (List.mem_of_getElem? (i := 25) rfl)) rfl
theorem zm_1 : Cond.initialized "LassoFinder" ∈ zTB := z_in (zt_1 _ (List.mem_of_getElem? (i := 1) rfl)) rfl
theorem zm_2 : Cond.instantiable "LassoFinder$Formula" 11 ∈ zTB := z_in (zt_2 _ (List.mem_of_getElem? (i := 131) rfl)) rfl
theorem zm_3 : Cond.initialized "LassoFinder$Formula" ∈ zTB := z_in (zt_1 _ (List.mem_of_getElem? (i := 10) rfl)) rfl
theorem zm_4 : Cond.instantiable "LassoFinder$Graph" 11 ∈ zTB := z_in (zt_2 _ (List.mem_of_getElem? (i := 75) rfl)) rfl
theorem zm_5 : Cond.initialized "LassoFinder$Graph" ∈ zTB := z_in (zt_1 _ (List.mem_of_getElem? (i := 9) rfl)) rfl
theorem zm_6 : Cond.instantiable "LassoFinder$LassoSearch" 20 ∈ zTB := z_in (zt_5 _ (List.mem_of_getElem? (i := 121) rfl)) rfl
theorem zm_7 : Cond.initialized "LassoFinder$LassoSearch" ∈ zTB := z_in (zt_1 _ (List.mem_of_getElem? (i := 21) rfl)) rfl
theorem zm_8 : Cond.instantiable "LassoFinder$ModelReader" 5 ∈ zTB := z_in (zt_1 _ (List.mem_of_getElem? (i := 197) rfl)) rfl
theorem zm_9 : Cond.initialized "LassoFinder$ModelReader" ∈ zTB := z_in (zt_1 _ (List.mem_of_getElem? (i := 6) rfl)) rfl
theorem zm_10 : Cond.instantiable "LassoFinder$Names" 6 ∈ zTB := z_in (zt_1 _ (List.mem_of_getElem? (i := 57) rfl)) rfl
theorem zm_11 : Cond.initialized "LassoFinder$Names" ∈ zTB := z_in (zt_1 _ (List.mem_of_getElem? (i := 3) rfl)) rfl
theorem zm_12 : Cond.instantiable "LassoFinder$Program" 14 ∈ zTB := z_in (zt_1 _ (List.mem_of_getElem? (i := 91) rfl)) rfl
theorem zm_13 : Cond.initialized "LassoFinder$Program" ∈ zTB := z_in (zt_1 _ (List.mem_of_getElem? (i := 4) rfl)) rfl
theorem zm_14 : Cond.instantiable "LassoFinder$Situation" 8 ∈ zTB := z_in (zt_2 _ (List.mem_of_getElem? (i := 39) rfl)) rfl
theorem zm_15 : Cond.initialized "LassoFinder$Situation" ∈ zTB := z_in (zt_1 _ (List.mem_of_getElem? (i := 8) rfl)) rfl
theorem zm_16 : Cond.instantiable "LassoFinder$Terms" 10 ∈ zTB := z_in (zt_1 _ (List.mem_of_getElem? (i := 160) rfl)) rfl
theorem zm_17 : Cond.initialized "LassoFinder$Terms" ∈ zTB := z_in (zt_1 _ (List.mem_of_getElem? (i := 5) rfl)) rfl
theorem zm_18 : Cond.instantiable "LassoFinder$Text" 5 ∈ zTB := z_in (zt_1 _ (List.mem_of_getElem? (i := 33) rfl)) rfl
theorem zm_19 : Cond.initialized "LassoFinder$Text" ∈ zTB := z_in (zt_1 _ (List.mem_of_getElem? (i := 2) rfl)) rfl
theorem zm_20 : Cond.instantiable "LassoFinder$Tree" 13 ∈ zTB := z_in (zt_1 _ (List.mem_of_getElem? (i := 203) rfl)) rfl
theorem zm_21 : Cond.initialized "LassoFinder$Tree" ∈ zTB := z_in (zt_1 _ (List.mem_of_getElem? (i := 7) rfl)) rfl
theorem zm_22 : Cond.instantiable "LassoFinder$Truths" 9 ∈ zTB := z_in (zt_2 _ (List.mem_of_getElem? (i := 181) rfl)) rfl
theorem zm_23 : Cond.initialized "LassoFinder$Truths" ∈ zTB := z_in (zt_1 _ (List.mem_of_getElem? (i := 11) rfl)) rfl
theorem zm_24 : Cond.instantiable "LassoFinderModel" 84 ∈ zTB := z_in (zt_6 _ (List.mem_of_getElem? (i := 89) rfl)) rfl
theorem zm_25 : Cond.initialized "LassoFinderModel" ∈ zTB := z_in (zt_1 _ (List.mem_of_getElem? (i := 12) rfl)) rfl
theorem zm_26 : Cond.laysFinal "LassoFinder" "LassoFinder" "text" "LLassoFinder$Text;" ∈ zTB := z_in (zt_2 _ (List.mem_of_getElem? (i := 231) rfl)) rfl
theorem zm_27 : Cond.laysFinal "LassoFinder" "LassoFinder" "names" "LLassoFinder$Names;" ∈ zTB := z_in (zt_2 _ (List.mem_of_getElem? (i := 233) rfl)) rfl
theorem zm_28 : Cond.laysFinal "LassoFinder" "LassoFinder" "program" "LLassoFinder$Program;" ∈ zTB := z_in (zt_2 _ (List.mem_of_getElem? (i := 235) rfl)) rfl
theorem zm_29 : Cond.laysFinal "LassoFinder" "LassoFinder" "reader" "LLassoFinder$ModelReader;" ∈ zTB := z_in (zt_2 _ (List.mem_of_getElem? (i := 237) rfl)) rfl
theorem zm_30 : Cond.laysFinal "LassoFinder" "LassoFinder" "situation" "LLassoFinder$Situation;" ∈ zTB := z_in (zt_2 _ (List.mem_of_getElem? (i := 239) rfl)) rfl
theorem zm_31 : Cond.laysFinal "LassoFinder" "LassoFinder" "graph" "LLassoFinder$Graph;" ∈ zTB := z_in (zt_3 _ (List.mem_of_getElem? (i := 1) rfl)) rfl
theorem zm_32 : Cond.laysFinal "LassoFinder" "LassoFinder" "asked" "LLassoFinder$Formula;" ∈ zTB := z_in (zt_3 _ (List.mem_of_getElem? (i := 3) rfl)) rfl
theorem zm_33 : Cond.laysFinal "LassoFinder" "LassoFinder" "truths" "LLassoFinder$Truths;" ∈ zTB := z_in (zt_3 _ (List.mem_of_getElem? (i := 5) rfl)) rfl
theorem zm_34 : Cond.lays "LassoFinder" "LassoFinder" "search" "LLassoFinder$LassoSearch;" ∈ zTB := z_in (zt_3 _ (List.mem_of_getElem? (i := 7) rfl)) rfl
theorem zm_35 : Cond.laysFinal "LassoFinder" "LassoFinder" "walked" "[I" ∈ zTB := z_in (zt_3 _ (List.mem_of_getElem? (i := 9) rfl)) rfl
theorem zm_36 : Cond.lays "LassoFinder" "LassoFinder" "walkLength" "I" ∈ zTB := z_in (zt_3 _ (List.mem_of_getElem? (i := 11) rfl)) rfl
theorem zm_37 : Cond.lays "LassoFinder" "LassoFinder" "hasModel" "Z" ∈ zTB := z_in (zt_3 _ (List.mem_of_getElem? (i := 13) rfl)) rfl
theorem zm_38 : Cond.lays "LassoFinder" "LassoFinder" "hasFormula" "Z" ∈ zTB := z_in (zt_3 _ (List.mem_of_getElem? (i := 15) rfl)) rfl
theorem zm_39 : Cond.laysFinal "LassoFinder$Formula" "LassoFinder$Formula" "text" "LLassoFinder$Text;" ∈ zTB := z_in (zt_2 _ (List.mem_of_getElem? (i := 157) rfl)) rfl
theorem zm_40 : Cond.laysFinal "LassoFinder$Formula" "LassoFinder$Formula" "program" "LLassoFinder$Program;" ∈ zTB := z_in (zt_2 _ (List.mem_of_getElem? (i := 159) rfl)) rfl
theorem zm_41 : Cond.laysFinal "LassoFinder$Formula" "LassoFinder$Formula" "terms" "LLassoFinder$Terms;" ∈ zTB := z_in (zt_2 _ (List.mem_of_getElem? (i := 161) rfl)) rfl
theorem zm_42 : Cond.laysFinal "LassoFinder$Formula" "LassoFinder$Formula" "kinds" "[I" ∈ zTB := z_in (zt_2 _ (List.mem_of_getElem? (i := 163) rfl)) rfl
theorem zm_43 : Cond.laysFinal "LassoFinder$Formula" "LassoFinder$Formula" "left" "[I" ∈ zTB := z_in (zt_2 _ (List.mem_of_getElem? (i := 165) rfl)) rfl
theorem zm_44 : Cond.laysFinal "LassoFinder$Formula" "LassoFinder$Formula" "right" "[I" ∈ zTB := z_in (zt_2 _ (List.mem_of_getElem? (i := 167) rfl)) rfl
theorem zm_45 : Cond.laysFinal "LassoFinder$Formula" "LassoFinder$Formula" "temporalParts" "[I" ∈ zTB := z_in (zt_2 _ (List.mem_of_getElem? (i := 169) rfl)) rfl
theorem zm_46 : Cond.lays "LassoFinder$Formula" "LassoFinder$Formula" "temporals" "I" ∈ zTB := z_in (zt_2 _ (List.mem_of_getElem? (i := 171) rfl)) rfl
theorem zm_47 : Cond.lays "LassoFinder$Formula" "LassoFinder$Formula" "size" "I" ∈ zTB := z_in (zt_2 _ (List.mem_of_getElem? (i := 173) rfl)) rfl
theorem zm_48 : Cond.lays "LassoFinder$Formula" "LassoFinder$Formula" "temporalSigns" "I" ∈ zTB := z_in (zt_2 _ (List.mem_of_getElem? (i := 175) rfl)) rfl
theorem zm_49 : Cond.lays "LassoFinder$Formula" "LassoFinder$Formula" "atoms" "I" ∈ zTB := z_in (zt_2 _ (List.mem_of_getElem? (i := 177) rfl)) rfl
theorem zm_50 : Cond.laysFinal "LassoFinder$Graph" "LassoFinder$Graph" "situation" "LLassoFinder$Situation;" ∈ zTB := z_in (zt_2 _ (List.mem_of_getElem? (i := 107) rfl)) rfl
theorem zm_51 : Cond.laysFinal "LassoFinder$Graph" "LassoFinder$Graph" "packedStates" "[J" ∈ zTB := z_in (zt_2 _ (List.mem_of_getElem? (i := 109) rfl)) rfl
theorem zm_52 : Cond.laysFinal "LassoFinder$Graph" "LassoFinder$Graph" "firstStep" "[I" ∈ zTB := z_in (zt_2 _ (List.mem_of_getElem? (i := 111) rfl)) rfl
theorem zm_53 : Cond.laysFinal "LassoFinder$Graph" "LassoFinder$Graph" "stepFrom" "[I" ∈ zTB := z_in (zt_2 _ (List.mem_of_getElem? (i := 113) rfl)) rfl
theorem zm_54 : Cond.laysFinal "LassoFinder$Graph" "LassoFinder$Graph" "stepTo" "[I" ∈ zTB := z_in (zt_2 _ (List.mem_of_getElem? (i := 115) rfl)) rfl
theorem zm_55 : Cond.laysFinal "LassoFinder$Graph" "LassoFinder$Graph" "stepBasic" "[I" ∈ zTB := z_in (zt_2 _ (List.mem_of_getElem? (i := 117) rfl)) rfl
theorem zm_56 : Cond.laysFinal "LassoFinder$Graph" "LassoFinder$Graph" "stepPartner" "[I" ∈ zTB := z_in (zt_2 _ (List.mem_of_getElem? (i := 119) rfl)) rfl
theorem zm_57 : Cond.laysFinal "LassoFinder$Graph" "LassoFinder$Graph" "firstSource" "[I" ∈ zTB := z_in (zt_2 _ (List.mem_of_getElem? (i := 121) rfl)) rfl
theorem zm_58 : Cond.laysFinal "LassoFinder$Graph" "LassoFinder$Graph" "sources" "[I" ∈ zTB := z_in (zt_2 _ (List.mem_of_getElem? (i := 123) rfl)) rfl
theorem zm_59 : Cond.lays "LassoFinder$Graph" "LassoFinder$Graph" "states" "I" ∈ zTB := z_in (zt_2 _ (List.mem_of_getElem? (i := 125) rfl)) rfl
theorem zm_60 : Cond.lays "LassoFinder$Graph" "LassoFinder$Graph" "steps" "I" ∈ zTB := z_in (zt_2 _ (List.mem_of_getElem? (i := 127) rfl)) rfl
theorem zm_61 : Cond.laysFinal "LassoFinder$LassoSearch" "LassoFinder$LassoSearch" "graph" "LLassoFinder$Graph;" ∈ zTB := z_in (zt_5 _ (List.mem_of_getElem? (i := 149) rfl)) rfl
theorem zm_62 : Cond.laysFinal "LassoFinder$LassoSearch" "LassoFinder$LassoSearch" "truths" "LLassoFinder$Truths;" ∈ zTB := z_in (zt_5 _ (List.mem_of_getElem? (i := 151) rfl)) rfl
theorem zm_63 : Cond.laysFinal "LassoFinder$LassoSearch" "LassoFinder$LassoSearch" "order" "[I" ∈ zTB := z_in (zt_5 _ (List.mem_of_getElem? (i := 153) rfl)) rfl
theorem zm_64 : Cond.laysFinal "LassoFinder$LassoSearch" "LassoFinder$LassoSearch" "low" "[I" ∈ zTB := z_in (zt_5 _ (List.mem_of_getElem? (i := 155) rfl)) rfl
theorem zm_65 : Cond.laysFinal "LassoFinder$LassoSearch" "LassoFinder$LassoSearch" "nextSource" "[I" ∈ zTB := z_in (zt_5 _ (List.mem_of_getElem? (i := 157) rfl)) rfl
theorem zm_66 : Cond.laysFinal "LassoFinder$LassoSearch" "LassoFinder$LassoSearch" "isOpen" "[Z" ∈ zTB := z_in (zt_5 _ (List.mem_of_getElem? (i := 159) rfl)) rfl
theorem zm_67 : Cond.laysFinal "LassoFinder$LassoSearch" "LassoFinder$LassoSearch" "path" "[I" ∈ zTB := z_in (zt_5 _ (List.mem_of_getElem? (i := 161) rfl)) rfl
theorem zm_68 : Cond.laysFinal "LassoFinder$LassoSearch" "LassoFinder$LassoSearch" "opened" "[I" ∈ zTB := z_in (zt_5 _ (List.mem_of_getElem? (i := 163) rfl)) rfl
theorem zm_69 : Cond.lays "LassoFinder$LassoSearch" "LassoFinder$LassoSearch" "pathLength" "I" ∈ zTB := z_in (zt_5 _ (List.mem_of_getElem? (i := 165) rfl)) rfl
theorem zm_70 : Cond.lays "LassoFinder$LassoSearch" "LassoFinder$LassoSearch" "openSpots" "I" ∈ zTB := z_in (zt_5 _ (List.mem_of_getElem? (i := 167) rfl)) rfl
theorem zm_71 : Cond.lays "LassoFinder$LassoSearch" "LassoFinder$LassoSearch" "entered" "I" ∈ zTB := z_in (zt_5 _ (List.mem_of_getElem? (i := 169) rfl)) rfl
theorem zm_72 : Cond.laysFinal "LassoFinder$LassoSearch" "LassoFinder$LassoSearch" "distance" "[I" ∈ zTB := z_in (zt_5 _ (List.mem_of_getElem? (i := 171) rfl)) rfl
theorem zm_73 : Cond.laysFinal "LassoFinder$LassoSearch" "LassoFinder$LassoSearch" "queue" "[I" ∈ zTB := z_in (zt_5 _ (List.mem_of_getElem? (i := 173) rfl)) rfl
theorem zm_74 : Cond.lays "LassoFinder$LassoSearch" "LassoFinder$LassoSearch" "queued" "I" ∈ zTB := z_in (zt_5 _ (List.mem_of_getElem? (i := 175) rfl)) rfl
theorem zm_75 : Cond.laysFinal "LassoFinder$LassoSearch" "LassoFinder$LassoSearch" "stemSteps" "[I" ∈ zTB := z_in (zt_5 _ (List.mem_of_getElem? (i := 177) rfl)) rfl
theorem zm_76 : Cond.lays "LassoFinder$LassoSearch" "LassoFinder$LassoSearch" "cycleSteps" "[I" ∈ zTB := z_in (zt_5 _ (List.mem_of_getElem? (i := 179) rfl)) rfl
theorem zm_77 : Cond.lays "LassoFinder$LassoSearch" "LassoFinder$LassoSearch" "triedSteps" "[I" ∈ zTB := z_in (zt_5 _ (List.mem_of_getElem? (i := 181) rfl)) rfl
theorem zm_78 : Cond.lays "LassoFinder$LassoSearch" "LassoFinder$LassoSearch" "stemLength" "I" ∈ zTB := z_in (zt_5 _ (List.mem_of_getElem? (i := 183) rfl)) rfl
theorem zm_79 : Cond.lays "LassoFinder$LassoSearch" "LassoFinder$LassoSearch" "cycleLength" "I" ∈ zTB := z_in (zt_5 _ (List.mem_of_getElem? (i := 185) rfl)) rfl
theorem zm_80 : Cond.lays "LassoFinder$LassoSearch" "LassoFinder$LassoSearch" "found" "Z" ∈ zTB := z_in (zt_5 _ (List.mem_of_getElem? (i := 187) rfl)) rfl
theorem zm_81 : Cond.laysFinal "LassoFinder$ModelReader" "LassoFinder$ModelReader" "text" "LLassoFinder$Text;" ∈ zTB := z_in (zt_2 _ (List.mem_of_getElem? (i := 27) rfl)) rfl
theorem zm_82 : Cond.laysFinal "LassoFinder$ModelReader" "LassoFinder$ModelReader" "names" "LLassoFinder$Names;" ∈ zTB := z_in (zt_2 _ (List.mem_of_getElem? (i := 29) rfl)) rfl
theorem zm_83 : Cond.laysFinal "LassoFinder$ModelReader" "LassoFinder$ModelReader" "terms" "LLassoFinder$Terms;" ∈ zTB := z_in (zt_2 _ (List.mem_of_getElem? (i := 31) rfl)) rfl
theorem zm_84 : Cond.laysFinal "LassoFinder$ModelReader" "LassoFinder$ModelReader" "program" "LLassoFinder$Program;" ∈ zTB := z_in (zt_2 _ (List.mem_of_getElem? (i := 33) rfl)) rfl
theorem zm_85 : Cond.laysFinal "LassoFinder$ModelReader" "LassoFinder$ModelReader" "tree" "LLassoFinder$Tree;" ∈ zTB := z_in (zt_2 _ (List.mem_of_getElem? (i := 35) rfl)) rfl
theorem zm_86 : Cond.laysFinal "LassoFinder$Names" "LassoFinder$Names" "kinds" "[I" ∈ zTB := z_in (zt_1 _ (List.mem_of_getElem? (i := 76) rfl)) rfl
theorem zm_87 : Cond.laysFinal "LassoFinder$Names" "LassoFinder$Names" "digits" "[I" ∈ zTB := z_in (zt_1 _ (List.mem_of_getElem? (i := 78) rfl)) rfl
theorem zm_88 : Cond.laysFinal "LassoFinder$Names" "LassoFinder$Names" "variableNames" "[I" ∈ zTB := z_in (zt_1 _ (List.mem_of_getElem? (i := 80) rfl)) rfl
theorem zm_89 : Cond.laysFinal "LassoFinder$Names" "LassoFinder$Names" "channelNames" "[I" ∈ zTB := z_in (zt_1 _ (List.mem_of_getElem? (i := 82) rfl)) rfl
theorem zm_90 : Cond.lays "LassoFinder$Names" "LassoFinder$Names" "variables" "I" ∈ zTB := z_in (zt_1 _ (List.mem_of_getElem? (i := 84) rfl)) rfl
theorem zm_91 : Cond.lays "LassoFinder$Names" "LassoFinder$Names" "channels" "I" ∈ zTB := z_in (zt_1 _ (List.mem_of_getElem? (i := 86) rfl)) rfl
theorem zm_92 : Cond.laysFinal "LassoFinder$Program" "LassoFinder$Program" "kinds" "[I" ∈ zTB := z_in (zt_1 _ (List.mem_of_getElem? (i := 128) rfl)) rfl
theorem zm_93 : Cond.laysFinal "LassoFinder$Program" "LassoFinder$Program" "channel" "[I" ∈ zTB := z_in (zt_1 _ (List.mem_of_getElem? (i := 130) rfl)) rfl
theorem zm_94 : Cond.laysFinal "LassoFinder$Program" "LassoFinder$Program" "variable" "[I" ∈ zTB := z_in (zt_1 _ (List.mem_of_getElem? (i := 132) rfl)) rfl
theorem zm_95 : Cond.laysFinal "LassoFinder$Program" "LassoFinder$Program" "expression" "[I" ∈ zTB := z_in (zt_1 _ (List.mem_of_getElem? (i := 134) rfl)) rfl
theorem zm_96 : Cond.laysFinal "LassoFinder$Program" "LassoFinder$Program" "actor" "[I" ∈ zTB := z_in (zt_1 _ (List.mem_of_getElem? (i := 136) rfl)) rfl
theorem zm_97 : Cond.laysFinal "LassoFinder$Program" "LassoFinder$Program" "after" "[I" ∈ zTB := z_in (zt_1 _ (List.mem_of_getElem? (i := 138) rfl)) rfl
theorem zm_98 : Cond.laysFinal "LassoFinder$Program" "LassoFinder$Program" "keeps" "[Z" ∈ zTB := z_in (zt_1 _ (List.mem_of_getElem? (i := 140) rfl)) rfl
theorem zm_99 : Cond.laysFinal "LassoFinder$Program" "LassoFinder$Program" "receives" "[J" ∈ zTB := z_in (zt_1 _ (List.mem_of_getElem? (i := 142) rfl)) rfl
theorem zm_100 : Cond.laysFinal "LassoFinder$Program" "LassoFinder$Program" "startPoint" "[I" ∈ zTB := z_in (zt_1 _ (List.mem_of_getElem? (i := 144) rfl)) rfl
theorem zm_101 : Cond.laysFinal "LassoFinder$Program" "LassoFinder$Program" "labelPoint" "[I" ∈ zTB := z_in (zt_1 _ (List.mem_of_getElem? (i := 146) rfl)) rfl
theorem zm_102 : Cond.laysFinal "LassoFinder$Program" "LassoFinder$Program" "basicsAt" "[J" ∈ zTB := z_in (zt_1 _ (List.mem_of_getElem? (i := 148) rfl)) rfl
theorem zm_103 : Cond.lays "LassoFinder$Program" "LassoFinder$Program" "elses" "J" ∈ zTB := z_in (zt_1 _ (List.mem_of_getElem? (i := 150) rfl)) rfl
theorem zm_104 : Cond.lays "LassoFinder$Program" "LassoFinder$Program" "basics" "I" ∈ zTB := z_in (zt_1 _ (List.mem_of_getElem? (i := 152) rfl)) rfl
theorem zm_105 : Cond.lays "LassoFinder$Program" "LassoFinder$Program" "processes" "I" ∈ zTB := z_in (zt_1 _ (List.mem_of_getElem? (i := 154) rfl)) rfl
theorem zm_106 : Cond.laysFinal "LassoFinder$Situation" "LassoFinder$Situation" "names" "LLassoFinder$Names;" ∈ zTB := z_in (zt_2 _ (List.mem_of_getElem? (i := 57) rfl)) rfl
theorem zm_107 : Cond.laysFinal "LassoFinder$Situation" "LassoFinder$Situation" "terms" "LLassoFinder$Terms;" ∈ zTB := z_in (zt_2 _ (List.mem_of_getElem? (i := 59) rfl)) rfl
theorem zm_108 : Cond.laysFinal "LassoFinder$Situation" "LassoFinder$Situation" "program" "LLassoFinder$Program;" ∈ zTB := z_in (zt_2 _ (List.mem_of_getElem? (i := 61) rfl)) rfl
theorem zm_109 : Cond.laysFinal "LassoFinder$Situation" "LassoFinder$Situation" "amounts" "[I" ∈ zTB := z_in (zt_2 _ (List.mem_of_getElem? (i := 63) rfl)) rfl
theorem zm_110 : Cond.laysFinal "LassoFinder$Situation" "LassoFinder$Situation" "messages" "[I" ∈ zTB := z_in (zt_2 _ (List.mem_of_getElem? (i := 65) rfl)) rfl
theorem zm_111 : Cond.laysFinal "LassoFinder$Situation" "LassoFinder$Situation" "points" "[I" ∈ zTB := z_in (zt_2 _ (List.mem_of_getElem? (i := 67) rfl)) rfl
theorem zm_112 : Cond.lays "LassoFinder$Situation" "LassoFinder$Situation" "holding" "I" ∈ zTB := z_in (zt_2 _ (List.mem_of_getElem? (i := 69) rfl)) rfl
theorem zm_113 : Cond.lays "LassoFinder$Situation" "LassoFinder$Situation" "present" "J" ∈ zTB := z_in (zt_2 _ (List.mem_of_getElem? (i := 71) rfl)) rfl
theorem zm_114 : Cond.laysFinal "LassoFinder$Terms" "LassoFinder$Terms" "text" "LLassoFinder$Text;" ∈ zTB := z_in (zt_1 _ (List.mem_of_getElem? (i := 175) rfl)) rfl
theorem zm_115 : Cond.laysFinal "LassoFinder$Terms" "LassoFinder$Terms" "names" "LLassoFinder$Names;" ∈ zTB := z_in (zt_1 _ (List.mem_of_getElem? (i := 177) rfl)) rfl
theorem zm_116 : Cond.laysFinal "LassoFinder$Terms" "LassoFinder$Terms" "codes" "[I" ∈ zTB := z_in (zt_1 _ (List.mem_of_getElem? (i := 179) rfl)) rfl
theorem zm_117 : Cond.lays "LassoFinder$Terms" "LassoFinder$Terms" "length" "I" ∈ zTB := z_in (zt_1 _ (List.mem_of_getElem? (i := 181) rfl)) rfl
theorem zm_118 : Cond.laysFinal "LassoFinder$Terms" "LassoFinder$Terms" "waiting" "[I" ∈ zTB := z_in (zt_1 _ (List.mem_of_getElem? (i := 183) rfl)) rfl
theorem zm_119 : Cond.lays "LassoFinder$Terms" "LassoFinder$Terms" "waitingSigns" "I" ∈ zTB := z_in (zt_1 _ (List.mem_of_getElem? (i := 185) rfl)) rfl
theorem zm_120 : Cond.laysFinal "LassoFinder$Terms" "LassoFinder$Terms" "sides" "[I" ∈ zTB := z_in (zt_1 _ (List.mem_of_getElem? (i := 187) rfl)) rfl
theorem zm_121 : Cond.lays "LassoFinder$Terms" "LassoFinder$Terms" "parts" "I" ∈ zTB := z_in (zt_1 _ (List.mem_of_getElem? (i := 189) rfl)) rfl
theorem zm_122 : Cond.lays "LassoFinder$Terms" "LassoFinder$Terms" "open" "I" ∈ zTB := z_in (zt_1 _ (List.mem_of_getElem? (i := 191) rfl)) rfl
theorem zm_123 : Cond.lays "LassoFinder$Terms" "LassoFinder$Terms" "compared" "I" ∈ zTB := z_in (zt_1 _ (List.mem_of_getElem? (i := 193) rfl)) rfl
theorem zm_124 : Cond.laysFinal "LassoFinder$Text" "LassoFinder$Text" "signs" "[C" ∈ zTB := z_in (zt_1 _ (List.mem_of_getElem? (i := 44) rfl)) rfl
theorem zm_125 : Cond.lays "LassoFinder$Text" "LassoFinder$Text" "written" "I" ∈ zTB := z_in (zt_1 _ (List.mem_of_getElem? (i := 46) rfl)) rfl
theorem zm_126 : Cond.lays "LassoFinder$Text" "LassoFinder$Text" "end" "I" ∈ zTB := z_in (zt_1 _ (List.mem_of_getElem? (i := 48) rfl)) rfl
theorem zm_127 : Cond.lays "LassoFinder$Text" "LassoFinder$Text" "at" "I" ∈ zTB := z_in (zt_1 _ (List.mem_of_getElem? (i := 50) rfl)) rfl
theorem zm_128 : Cond.lays "LassoFinder$Text" "LassoFinder$Text" "wrongAt" "I" ∈ zTB := z_in (zt_1 _ (List.mem_of_getElem? (i := 52) rfl)) rfl
theorem zm_129 : Cond.laysFinal "LassoFinder$Tree" "LassoFinder$Tree" "kinds" "[I" ∈ zTB := z_in (zt_1 _ (List.mem_of_getElem? (i := 235) rfl)) rfl
theorem zm_130 : Cond.laysFinal "LassoFinder$Tree" "LassoFinder$Tree" "around" "[I" ∈ zTB := z_in (zt_1 _ (List.mem_of_getElem? (i := 237) rfl)) rfl
theorem zm_131 : Cond.laysFinal "LassoFinder$Tree" "LassoFinder$Tree" "loops" "[I" ∈ zTB := z_in (zt_1 _ (List.mem_of_getElem? (i := 239) rfl)) rfl
theorem zm_132 : Cond.laysFinal "LassoFinder$Tree" "LassoFinder$Tree" "atomics" "[I" ∈ zTB := z_in (zt_2 _ (List.mem_of_getElem? (i := 1) rfl)) rfl
theorem zm_133 : Cond.laysFinal "LassoFinder$Tree" "LassoFinder$Tree" "leads" "[Z" ∈ zTB := z_in (zt_2 _ (List.mem_of_getElem? (i := 3) rfl)) rfl
theorem zm_134 : Cond.laysFinal "LassoFinder$Tree" "LassoFinder$Tree" "next" "[I" ∈ zTB := z_in (zt_2 _ (List.mem_of_getElem? (i := 5) rfl)) rfl
theorem zm_135 : Cond.laysFinal "LassoFinder$Tree" "LassoFinder$Tree" "firstInside" "[I" ∈ zTB := z_in (zt_2 _ (List.mem_of_getElem? (i := 7) rfl)) rfl
theorem zm_136 : Cond.laysFinal "LassoFinder$Tree" "LassoFinder$Tree" "pointOf" "[I" ∈ zTB := z_in (zt_2 _ (List.mem_of_getElem? (i := 9) rfl)) rfl
theorem zm_137 : Cond.laysFinal "LassoFinder$Tree" "LassoFinder$Tree" "number" "[I" ∈ zTB := z_in (zt_2 _ (List.mem_of_getElem? (i := 11) rfl)) rfl
theorem zm_138 : Cond.laysFinal "LassoFinder$Tree" "LassoFinder$Tree" "labelAt" "[I" ∈ zTB := z_in (zt_2 _ (List.mem_of_getElem? (i := 13) rfl)) rfl
theorem zm_139 : Cond.laysFinal "LassoFinder$Tree" "LassoFinder$Tree" "labelled" "[I" ∈ zTB := z_in (zt_2 _ (List.mem_of_getElem? (i := 15) rfl)) rfl
theorem zm_140 : Cond.lays "LassoFinder$Tree" "LassoFinder$Tree" "size" "I" ∈ zTB := z_in (zt_2 _ (List.mem_of_getElem? (i := 17) rfl)) rfl
theorem zm_141 : Cond.lays "LassoFinder$Tree" "LassoFinder$Tree" "points" "I" ∈ zTB := z_in (zt_2 _ (List.mem_of_getElem? (i := 19) rfl)) rfl
theorem zm_142 : Cond.laysFinal "LassoFinder$Truths" "LassoFinder$Truths" "graph" "LLassoFinder$Graph;" ∈ zTB := z_in (zt_2 _ (List.mem_of_getElem? (i := 199) rfl)) rfl
theorem zm_143 : Cond.laysFinal "LassoFinder$Truths" "LassoFinder$Truths" "situation" "LLassoFinder$Situation;" ∈ zTB := z_in (zt_2 _ (List.mem_of_getElem? (i := 201) rfl)) rfl
theorem zm_144 : Cond.laysFinal "LassoFinder$Truths" "LassoFinder$Truths" "formula" "LLassoFinder$Formula;" ∈ zTB := z_in (zt_2 _ (List.mem_of_getElem? (i := 203) rfl)) rfl
theorem zm_145 : Cond.laysFinal "LassoFinder$Truths" "LassoFinder$Truths" "parts" "[I" ∈ zTB := z_in (zt_2 _ (List.mem_of_getElem? (i := 205) rfl)) rfl
theorem zm_146 : Cond.laysFinal "LassoFinder$Truths" "LassoFinder$Truths" "before" "[I" ∈ zTB := z_in (zt_2 _ (List.mem_of_getElem? (i := 207) rfl)) rfl
theorem zm_147 : Cond.laysFinal "LassoFinder$Truths" "LassoFinder$Truths" "settled" "[I" ∈ zTB := z_in (zt_2 _ (List.mem_of_getElem? (i := 209) rfl)) rfl
theorem zm_148 : Cond.laysFinal "LassoFinder$Truths" "LassoFinder$Truths" "satisfied" "[Z" ∈ zTB := z_in (zt_2 _ (List.mem_of_getElem? (i := 211) rfl)) rfl
theorem zm_149 : Cond.lays "LassoFinder$Truths" "LassoFinder$Truths" "guesses" "I" ∈ zTB := z_in (zt_2 _ (List.mem_of_getElem? (i := 213) rfl)) rfl
theorem zm_150 : Cond.lays "LassoFinder$Truths" "LassoFinder$Truths" "unending" "I" ∈ zTB := z_in (zt_2 _ (List.mem_of_getElem? (i := 215) rfl)) rfl
theorem zm_151 : Cond.lays "LassoFinderModel" "LassoFinderModel" "thrown" "I" ∈ zTB := z_in (zt_6 _ (List.mem_of_getElem? (i := 178) rfl)) rfl
theorem zm_152 : Cond.lays "LassoFinderModel" "LassoFinderModel" "length" "I" ∈ zTB := z_in (zt_6 _ (List.mem_of_getElem? (i := 180) rfl)) rfl
theorem zm_153 : Cond.laysFinal "LassoFinderModel" "LassoFinderModel" "text" "[I" ∈ zTB := z_in (zt_6 _ (List.mem_of_getElem? (i := 182) rfl)) rfl
theorem zm_154 : Cond.lays "LassoFinderModel" "LassoFinderModel" "at" "I" ∈ zTB := z_in (zt_6 _ (List.mem_of_getElem? (i := 184) rfl)) rfl
theorem zm_155 : Cond.lays "LassoFinderModel" "LassoFinderModel" "bad" "I" ∈ zTB := z_in (zt_6 _ (List.mem_of_getElem? (i := 186) rfl)) rfl
theorem zm_156 : Cond.lays "LassoFinderModel" "LassoFinderModel" "place" "I" ∈ zTB := z_in (zt_6 _ (List.mem_of_getElem? (i := 188) rfl)) rfl
theorem zm_157 : Cond.lays "LassoFinderModel" "LassoFinderModel" "there" "Z" ∈ zTB := z_in (zt_6 _ (List.mem_of_getElem? (i := 190) rfl)) rfl
theorem zm_158 : Cond.lays "LassoFinderModel" "LassoFinderModel" "vars" "I" ∈ zTB := z_in (zt_6 _ (List.mem_of_getElem? (i := 192) rfl)) rfl
theorem zm_159 : Cond.lays "LassoFinderModel" "LassoFinderModel" "chans" "I" ∈ zTB := z_in (zt_6 _ (List.mem_of_getElem? (i := 194) rfl)) rfl
theorem zm_160 : Cond.laysFinal "LassoFinderModel" "LassoFinderModel" "var" "[I" ∈ zTB := z_in (zt_6 _ (List.mem_of_getElem? (i := 196) rfl)) rfl
theorem zm_161 : Cond.laysFinal "LassoFinderModel" "LassoFinderModel" "chan" "[I" ∈ zTB := z_in (zt_6 _ (List.mem_of_getElem? (i := 198) rfl)) rfl
theorem zm_162 : Cond.laysFinal "LassoFinderModel" "LassoFinderModel" "initial" "[I" ∈ zTB := z_in (zt_6 _ (List.mem_of_getElem? (i := 200) rfl)) rfl
theorem zm_163 : Cond.laysFinal "LassoFinderModel" "LassoFinderModel" "slots" "[I" ∈ zTB := z_in (zt_6 _ (List.mem_of_getElem? (i := 202) rfl)) rfl
theorem zm_164 : Cond.lays "LassoFinderModel" "LassoFinderModel" "nodes" "I" ∈ zTB := z_in (zt_6 _ (List.mem_of_getElem? (i := 204) rfl)) rfl
theorem zm_165 : Cond.laysFinal "LassoFinderModel" "LassoFinderModel" "kind" "[I" ∈ zTB := z_in (zt_6 _ (List.mem_of_getElem? (i := 206) rfl)) rfl
theorem zm_166 : Cond.laysFinal "LassoFinderModel" "LassoFinderModel" "process" "[I" ∈ zTB := z_in (zt_6 _ (List.mem_of_getElem? (i := 208) rfl)) rfl
theorem zm_167 : Cond.laysFinal "LassoFinderModel" "LassoFinderModel" "parent" "[I" ∈ zTB := z_in (zt_6 _ (List.mem_of_getElem? (i := 210) rfl)) rfl
theorem zm_168 : Cond.laysFinal "LassoFinderModel" "LassoFinderModel" "sibling" "[I" ∈ zTB := z_in (zt_6 _ (List.mem_of_getElem? (i := 212) rfl)) rfl
theorem zm_169 : Cond.laysFinal "LassoFinderModel" "LassoFinderModel" "firstOf" "[Z" ∈ zTB := z_in (zt_6 _ (List.mem_of_getElem? (i := 214) rfl)) rfl
theorem zm_170 : Cond.laysFinal "LassoFinderModel" "LassoFinderModel" "atomic" "[I" ∈ zTB := z_in (zt_6 _ (List.mem_of_getElem? (i := 216) rfl)) rfl
theorem zm_171 : Cond.laysFinal "LassoFinderModel" "LassoFinderModel" "point" "[I" ∈ zTB := z_in (zt_6 _ (List.mem_of_getElem? (i := 218) rfl)) rfl
theorem zm_172 : Cond.laysFinal "LassoFinderModel" "LassoFinderModel" "arg" "[I" ∈ zTB := z_in (zt_6 _ (List.mem_of_getElem? (i := 220) rfl)) rfl
theorem zm_173 : Cond.laysFinal "LassoFinderModel" "LassoFinderModel" "into" "[I" ∈ zTB := z_in (zt_6 _ (List.mem_of_getElem? (i := 222) rfl)) rfl
theorem zm_174 : Cond.laysFinal "LassoFinderModel" "LassoFinderModel" "begin" "[I" ∈ zTB := z_in (zt_6 _ (List.mem_of_getElem? (i := 224) rfl)) rfl
theorem zm_175 : Cond.laysFinal "LassoFinderModel" "LassoFinderModel" "end" "[I" ∈ zTB := z_in (zt_6 _ (List.mem_of_getElem? (i := 226) rfl)) rfl
theorem zm_176 : Cond.laysFinal "LassoFinderModel" "LassoFinderModel" "where" "[I" ∈ zTB := z_in (zt_6 _ (List.mem_of_getElem? (i := 228) rfl)) rfl
theorem zm_177 : Cond.laysFinal "LassoFinderModel" "LassoFinderModel" "behind" "[I" ∈ zTB := z_in (zt_6 _ (List.mem_of_getElem? (i := 230) rfl)) rfl
theorem zm_178 : Cond.lays "LassoFinderModel" "LassoFinderModel" "basics" "I" ∈ zTB := z_in (zt_6 _ (List.mem_of_getElem? (i := 232) rfl)) rfl
theorem zm_179 : Cond.laysFinal "LassoFinderModel" "LassoFinderModel" "basicNode" "[I" ∈ zTB := z_in (zt_6 _ (List.mem_of_getElem? (i := 234) rfl)) rfl
theorem zm_180 : Cond.laysFinal "LassoFinderModel" "LassoFinderModel" "basicOf" "[I" ∈ zTB := z_in (zt_6 _ (List.mem_of_getElem? (i := 236) rfl)) rfl
theorem zm_181 : Cond.lays "LassoFinderModel" "LassoFinderModel" "processes" "I" ∈ zTB := z_in (zt_6 _ (List.mem_of_getElem? (i := 238) rfl)) rfl
theorem zm_182 : Cond.laysFinal "LassoFinderModel" "LassoFinderModel" "points" "[I" ∈ zTB := z_in (zt_7 _ (List.mem_of_getElem? (i := 0) rfl)) rfl
theorem zm_183 : Cond.laysFinal "LassoFinderModel" "LassoFinderModel" "firstNode" "[I" ∈ zTB := z_in (zt_7 _ (List.mem_of_getElem? (i := 2) rfl)) rfl
theorem zm_184 : Cond.laysFinal "LassoFinderModel" "LassoFinderModel" "labels" "[I" ∈ zTB := z_in (zt_7 _ (List.mem_of_getElem? (i := 4) rfl)) rfl
theorem zm_185 : Cond.laysFinal "LassoFinderModel" "LassoFinderModel" "nodeAt" "[I" ∈ zTB := z_in (zt_7 _ (List.mem_of_getElem? (i := 6) rfl)) rfl
theorem zm_186 : Cond.laysFinal "LassoFinderModel" "LassoFinderModel" "mask" "[J" ∈ zTB := z_in (zt_7 _ (List.mem_of_getElem? (i := 8) rfl)) rfl
theorem zm_187 : Cond.lays "LassoFinderModel" "LassoFinderModel" "codes" "I" ∈ zTB := z_in (zt_7 _ (List.mem_of_getElem? (i := 10) rfl)) rfl
theorem zm_188 : Cond.laysFinal "LassoFinderModel" "LassoFinderModel" "code" "[I" ∈ zTB := z_in (zt_7 _ (List.mem_of_getElem? (i := 12) rfl)) rfl
theorem zm_189 : Cond.lays "LassoFinderModel" "LassoFinderModel" "open" "I" ∈ zTB := z_in (zt_7 _ (List.mem_of_getElem? (i := 14) rfl)) rfl
theorem zm_190 : Cond.laysFinal "LassoFinderModel" "LassoFinderModel" "block" "[I" ∈ zTB := z_in (zt_7 _ (List.mem_of_getElem? (i := 16) rfl)) rfl
theorem zm_191 : Cond.laysFinal "LassoFinderModel" "LassoFinderModel" "blockNode" "[I" ∈ zTB := z_in (zt_7 _ (List.mem_of_getElem? (i := 18) rfl)) rfl
theorem zm_192 : Cond.laysFinal "LassoFinderModel" "LassoFinderModel" "latest" "[I" ∈ zTB := z_in (zt_7 _ (List.mem_of_getElem? (i := 20) rfl)) rfl
theorem zm_193 : Cond.lays "LassoFinderModel" "LassoFinderModel" "waiting" "I" ∈ zTB := z_in (zt_7 _ (List.mem_of_getElem? (i := 22) rfl)) rfl
theorem zm_194 : Cond.laysFinal "LassoFinderModel" "LassoFinderModel" "signs" "[I" ∈ zTB := z_in (zt_7 _ (List.mem_of_getElem? (i := 24) rfl)) rfl
theorem zm_195 : Cond.lays "LassoFinderModel" "LassoFinderModel" "states" "I" ∈ zTB := z_in (zt_7 _ (List.mem_of_getElem? (i := 26) rfl)) rfl
theorem zm_196 : Cond.lays "LassoFinderModel" "LassoFinderModel" "steps" "I" ∈ zTB := z_in (zt_7 _ (List.mem_of_getElem? (i := 28) rfl)) rfl
theorem zm_197 : Cond.lays "LassoFinderModel" "LassoFinderModel" "over" "Z" ∈ zTB := z_in (zt_7 _ (List.mem_of_getElem? (i := 30) rfl)) rfl
theorem zm_198 : Cond.laysFinal "LassoFinderModel" "LassoFinderModel" "key" "[J" ∈ zTB := z_in (zt_7 _ (List.mem_of_getElem? (i := 32) rfl)) rfl
theorem zm_199 : Cond.laysFinal "LassoFinderModel" "LassoFinderModel" "first" "[I" ∈ zTB := z_in (zt_7 _ (List.mem_of_getElem? (i := 34) rfl)) rfl
theorem zm_200 : Cond.laysFinal "LassoFinderModel" "LassoFinderModel" "target" "[I" ∈ zTB := z_in (zt_7 _ (List.mem_of_getElem? (i := 36) rfl)) rfl
theorem zm_201 : Cond.laysFinal "LassoFinderModel" "LassoFinderModel" "source" "[I" ∈ zTB := z_in (zt_7 _ (List.mem_of_getElem? (i := 38) rfl)) rfl
theorem zm_202 : Cond.laysFinal "LassoFinderModel" "LassoFinderModel" "doer" "[I" ∈ zTB := z_in (zt_7 _ (List.mem_of_getElem? (i := 40) rfl)) rfl
theorem zm_203 : Cond.laysFinal "LassoFinderModel" "LassoFinderModel" "receiver" "[I" ∈ zTB := z_in (zt_7 _ (List.mem_of_getElem? (i := 42) rfl)) rfl
theorem zm_204 : Cond.laysFinal "LassoFinderModel" "LassoFinderModel" "firstInto" "[I" ∈ zTB := z_in (zt_7 _ (List.mem_of_getElem? (i := 44) rfl)) rfl
theorem zm_205 : Cond.laysFinal "LassoFinderModel" "LassoFinderModel" "stepInto" "[I" ∈ zTB := z_in (zt_7 _ (List.mem_of_getElem? (i := 46) rfl)) rfl
theorem zm_206 : Cond.laysFinal "LassoFinderModel" "LassoFinderModel" "value" "[I" ∈ zTB := z_in (zt_7 _ (List.mem_of_getElem? (i := 48) rfl)) rfl
theorem zm_207 : Cond.laysFinal "LassoFinderModel" "LassoFinderModel" "many" "[I" ∈ zTB := z_in (zt_7 _ (List.mem_of_getElem? (i := 50) rfl)) rfl
theorem zm_208 : Cond.laysFinal "LassoFinderModel" "LassoFinderModel" "message" "[I" ∈ zTB := z_in (zt_7 _ (List.mem_of_getElem? (i := 52) rfl)) rfl
theorem zm_209 : Cond.laysFinal "LassoFinderModel" "LassoFinderModel" "stands" "[I" ∈ zTB := z_in (zt_7 _ (List.mem_of_getElem? (i := 54) rfl)) rfl
theorem zm_210 : Cond.lays "LassoFinderModel" "LassoFinderModel" "holds" "I" ∈ zTB := z_in (zt_7 _ (List.mem_of_getElem? (i := 56) rfl)) rfl
theorem zm_211 : Cond.laysFinal "LassoFinderModel" "LassoFinderModel" "stack" "[I" ∈ zTB := z_in (zt_7 _ (List.mem_of_getElem? (i := 58) rfl)) rfl
theorem zm_212 : Cond.lays "LassoFinderModel" "LassoFinderModel" "asked" "Z" ∈ zTB := z_in (zt_7 _ (List.mem_of_getElem? (i := 60) rfl)) rfl
theorem zm_213 : Cond.lays "LassoFinderModel" "LassoFinderModel" "size" "I" ∈ zTB := z_in (zt_7 _ (List.mem_of_getElem? (i := 62) rfl)) rfl
theorem zm_214 : Cond.laysFinal "LassoFinderModel" "LassoFinderModel" "sign" "[I" ∈ zTB := z_in (zt_7 _ (List.mem_of_getElem? (i := 64) rfl)) rfl
theorem zm_215 : Cond.lays "LassoFinderModel" "LassoFinderModel" "turns" "I" ∈ zTB := z_in (zt_7 _ (List.mem_of_getElem? (i := 66) rfl)) rfl
theorem zm_216 : Cond.lays "LassoFinderModel" "LassoFinderModel" "met" "I" ∈ zTB := z_in (zt_7 _ (List.mem_of_getElem? (i := 68) rfl)) rfl
theorem zm_217 : Cond.laysFinal "LassoFinderModel" "LassoFinderModel" "kept" "[I" ∈ zTB := z_in (zt_7 _ (List.mem_of_getElem? (i := 70) rfl)) rfl
theorem zm_218 : Cond.lays "LassoFinderModel" "LassoFinderModel" "modelCodes" "I" ∈ zTB := z_in (zt_7 _ (List.mem_of_getElem? (i := 72) rfl)) rfl
theorem zm_219 : Cond.laysFinal "LassoFinderModel" "LassoFinderModel" "turn" "[I" ∈ zTB := z_in (zt_7 _ (List.mem_of_getElem? (i := 74) rfl)) rfl
theorem zm_220 : Cond.lays "LassoFinderModel" "LassoFinderModel" "atoms" "I" ∈ zTB := z_in (zt_7 _ (List.mem_of_getElem? (i := 76) rfl)) rfl
theorem zm_221 : Cond.laysFinal "LassoFinderModel" "LassoFinderModel" "atomProcess" "[I" ∈ zTB := z_in (zt_7 _ (List.mem_of_getElem? (i := 78) rfl)) rfl
theorem zm_222 : Cond.laysFinal "LassoFinderModel" "LassoFinderModel" "atomPoint" "[I" ∈ zTB := z_in (zt_7 _ (List.mem_of_getElem? (i := 80) rfl)) rfl
theorem zm_223 : Cond.laysFinal "LassoFinderModel" "LassoFinderModel" "atomBegin" "[I" ∈ zTB := z_in (zt_7 _ (List.mem_of_getElem? (i := 82) rfl)) rfl
theorem zm_224 : Cond.laysFinal "LassoFinderModel" "LassoFinderModel" "atomEnd" "[I" ∈ zTB := z_in (zt_7 _ (List.mem_of_getElem? (i := 84) rfl)) rfl
theorem zm_225 : Cond.laysFinal "LassoFinderModel" "LassoFinderModel" "look" "[I" ∈ zTB := z_in (zt_7 _ (List.mem_of_getElem? (i := 86) rfl)) rfl
theorem zm_226 : Cond.laysFinal "LassoFinderModel" "LassoFinderModel" "deep" "[I" ∈ zTB := z_in (zt_7 _ (List.mem_of_getElem? (i := 88) rfl)) rfl
theorem zm_227 : Cond.laysFinal "LassoFinderModel" "LassoFinderModel" "good" "[Z" ∈ zTB := z_in (zt_7 _ (List.mem_of_getElem? (i := 90) rfl)) rfl
theorem zm_228 : Cond.laysFinal "LassoFinderModel" "LassoFinderModel" "far" "[I" ∈ zTB := z_in (zt_7 _ (List.mem_of_getElem? (i := 92) rfl)) rfl
theorem zm_229 : Cond.lays "LassoFinderModel" "LassoFinderModel" "stem" "I" ∈ zTB := z_in (zt_7 _ (List.mem_of_getElem? (i := 94) rfl)) rfl
theorem zm_230 : Cond.lays "LassoFinderModel" "LassoFinderModel" "cycle" "I" ∈ zTB := z_in (zt_7 _ (List.mem_of_getElem? (i := 96) rfl)) rfl
theorem zm_231 : Cond.laysFinal "LassoFinderModel" "LassoFinderModel" "row" "[I" ∈ zTB := z_in (zt_7 _ (List.mem_of_getElem? (i := 98) rfl)) rfl
theorem zm_232 : Cond.laysFinal "LassoFinderModel" "LassoFinderModel" "tried" "[I" ∈ zTB := z_in (zt_7 _ (List.mem_of_getElem? (i := 100) rfl)) rfl
theorem zm_233 : Cond.lays "LassoFinderModel" "LassoFinderModel" "walked" "I" ∈ zTB := z_in (zt_7 _ (List.mem_of_getElem? (i := 102) rfl)) rfl
theorem zm_234 : Cond.laysFinal "LassoFinderModel" "LassoFinderModel" "path" "[I" ∈ zTB := z_in (zt_7 _ (List.mem_of_getElem? (i := 104) rfl)) rfl
set_option maxRecDepth 100000 in
theorem zi0 : ∀ w ∈ u_ws "LassoFinder" zT0 13, w ∈ zTB := List.forall_mem_cons.mpr ⟨zm_26, List.forall_mem_cons.mpr ⟨zm_27, List.forall_mem_cons.mpr ⟨zm_28, List.forall_mem_cons.mpr ⟨zm_29, List.forall_mem_cons.mpr ⟨zm_30, List.forall_mem_cons.mpr ⟨zm_31, List.forall_mem_cons.mpr ⟨zm_32, List.forall_mem_cons.mpr ⟨zm_33, List.forall_mem_cons.mpr ⟨zm_34, List.forall_mem_cons.mpr ⟨zm_35, List.forall_mem_cons.mpr ⟨zm_36, List.forall_mem_cons.mpr ⟨zm_37, List.forall_mem_cons.mpr ⟨zm_38, (fun _ h => absurd h List.not_mem_nil)⟩⟩⟩⟩⟩⟩⟩⟩⟩⟩⟩⟩⟩
theorem zZ0 : zCls 0 "LassoFinder" zT0 13 zty0 := ⟨rfl, zi0, by decide +kernel, by decide +kernel⟩
theorem zD0 : ∀ j, j < 13 → defaultValue (zty0 j) = vp_V [.null, .null, .null, .null, .null, .null, .null, .null, .null, .null, .int 0, .int 0, .int 0] j := by decide +kernel
set_option maxRecDepth 100000 in
theorem zi1 : ∀ w ∈ u_ws "LassoFinder$Formula" zT1 11, w ∈ zTB := List.forall_mem_cons.mpr ⟨zm_39, List.forall_mem_cons.mpr ⟨zm_40, List.forall_mem_cons.mpr ⟨zm_41, List.forall_mem_cons.mpr ⟨zm_42, List.forall_mem_cons.mpr ⟨zm_43, List.forall_mem_cons.mpr ⟨zm_44, List.forall_mem_cons.mpr ⟨zm_45, List.forall_mem_cons.mpr ⟨zm_46, List.forall_mem_cons.mpr ⟨zm_47, List.forall_mem_cons.mpr ⟨zm_48, List.forall_mem_cons.mpr ⟨zm_49, (fun _ h => absurd h List.not_mem_nil)⟩⟩⟩⟩⟩⟩⟩⟩⟩⟩⟩
theorem zZ1 : zCls 1 "LassoFinder$Formula" zT1 11 zty1 := ⟨rfl, zi1, by decide +kernel, by decide +kernel⟩
theorem zD1 : ∀ j, j < 11 → defaultValue (zty1 j) = vp_V [.null, .null, .null, .null, .null, .null, .null, .int 0, .int 0, .int 0, .int 0] j := by decide +kernel
set_option maxRecDepth 100000 in
theorem zi2 : ∀ w ∈ u_ws "LassoFinder$Graph" zT2 11, w ∈ zTB := List.forall_mem_cons.mpr ⟨zm_50, List.forall_mem_cons.mpr ⟨zm_51, List.forall_mem_cons.mpr ⟨zm_52, List.forall_mem_cons.mpr ⟨zm_53, List.forall_mem_cons.mpr ⟨zm_54, List.forall_mem_cons.mpr ⟨zm_55, List.forall_mem_cons.mpr ⟨zm_56, List.forall_mem_cons.mpr ⟨zm_57, List.forall_mem_cons.mpr ⟨zm_58, List.forall_mem_cons.mpr ⟨zm_59, List.forall_mem_cons.mpr ⟨zm_60, (fun _ h => absurd h List.not_mem_nil)⟩⟩⟩⟩⟩⟩⟩⟩⟩⟩⟩
theorem zZ2 : zCls 2 "LassoFinder$Graph" zT2 11 zty2 := ⟨rfl, zi2, by decide +kernel, by decide +kernel⟩
theorem zD2 : ∀ j, j < 11 → defaultValue (zty2 j) = vp_V [.null, .null, .null, .null, .null, .null, .null, .null, .null, .int 0, .int 0] j := by decide +kernel
set_option maxRecDepth 100000 in
theorem zi3 : ∀ w ∈ u_ws "LassoFinder$LassoSearch" zT3 20, w ∈ zTB := List.forall_mem_cons.mpr ⟨zm_61, List.forall_mem_cons.mpr ⟨zm_62, List.forall_mem_cons.mpr ⟨zm_63, List.forall_mem_cons.mpr ⟨zm_64, List.forall_mem_cons.mpr ⟨zm_65, List.forall_mem_cons.mpr ⟨zm_66, List.forall_mem_cons.mpr ⟨zm_67, List.forall_mem_cons.mpr ⟨zm_68, List.forall_mem_cons.mpr ⟨zm_69, List.forall_mem_cons.mpr ⟨zm_70, List.forall_mem_cons.mpr ⟨zm_71, List.forall_mem_cons.mpr ⟨zm_72, List.forall_mem_cons.mpr ⟨zm_73, List.forall_mem_cons.mpr ⟨zm_74, List.forall_mem_cons.mpr ⟨zm_75, List.forall_mem_cons.mpr ⟨zm_76, List.forall_mem_cons.mpr ⟨zm_77, List.forall_mem_cons.mpr ⟨zm_78, List.forall_mem_cons.mpr ⟨zm_79, List.forall_mem_cons.mpr ⟨zm_80, (fun _ h => absurd h List.not_mem_nil)⟩⟩⟩⟩⟩⟩⟩⟩⟩⟩⟩⟩⟩⟩⟩⟩⟩⟩⟩⟩
theorem zZ3 : zCls 3 "LassoFinder$LassoSearch" zT3 20 zty3 := ⟨rfl, zi3, by decide +kernel, by decide +kernel⟩
theorem zD3 : ∀ j, j < 20 → defaultValue (zty3 j) = vp_V [.null, .null, .null, .null, .null, .null, .null, .null, .int 0, .int 0, .int 0, .null, .null, .int 0, .null, .null, .null, .int 0, .int 0, .int 0] j := by decide +kernel
set_option maxRecDepth 100000 in
theorem zi4 : ∀ w ∈ u_ws "LassoFinder$ModelReader" zT4 5, w ∈ zTB := List.forall_mem_cons.mpr ⟨zm_81, List.forall_mem_cons.mpr ⟨zm_82, List.forall_mem_cons.mpr ⟨zm_83, List.forall_mem_cons.mpr ⟨zm_84, List.forall_mem_cons.mpr ⟨zm_85, (fun _ h => absurd h List.not_mem_nil)⟩⟩⟩⟩⟩
theorem zZ4 : zCls 4 "LassoFinder$ModelReader" zT4 5 zty4 := ⟨rfl, zi4, by decide +kernel, by decide +kernel⟩
theorem zD4 : ∀ j, j < 5 → defaultValue (zty4 j) = vp_V [.null, .null, .null, .null, .null] j := by decide +kernel
set_option maxRecDepth 100000 in
theorem zi5 : ∀ w ∈ u_ws "LassoFinder$Names" zT5 6, w ∈ zTB := List.forall_mem_cons.mpr ⟨zm_86, List.forall_mem_cons.mpr ⟨zm_87, List.forall_mem_cons.mpr ⟨zm_88, List.forall_mem_cons.mpr ⟨zm_89, List.forall_mem_cons.mpr ⟨zm_90, List.forall_mem_cons.mpr ⟨zm_91, (fun _ h => absurd h List.not_mem_nil)⟩⟩⟩⟩⟩⟩
theorem zZ5 : zCls 5 "LassoFinder$Names" zT5 6 zty5 := ⟨rfl, zi5, by decide +kernel, by decide +kernel⟩
theorem zD5 : ∀ j, j < 6 → defaultValue (zty5 j) = vp_V [.null, .null, .null, .null, .int 0, .int 0] j := by decide +kernel
set_option maxRecDepth 100000 in
theorem zi6 : ∀ w ∈ u_ws "LassoFinder$Program" zT6 14, w ∈ zTB := List.forall_mem_cons.mpr ⟨zm_92, List.forall_mem_cons.mpr ⟨zm_93, List.forall_mem_cons.mpr ⟨zm_94, List.forall_mem_cons.mpr ⟨zm_95, List.forall_mem_cons.mpr ⟨zm_96, List.forall_mem_cons.mpr ⟨zm_97, List.forall_mem_cons.mpr ⟨zm_98, List.forall_mem_cons.mpr ⟨zm_99, List.forall_mem_cons.mpr ⟨zm_100, List.forall_mem_cons.mpr ⟨zm_101, List.forall_mem_cons.mpr ⟨zm_102, List.forall_mem_cons.mpr ⟨zm_103, List.forall_mem_cons.mpr ⟨zm_104, List.forall_mem_cons.mpr ⟨zm_105, (fun _ h => absurd h List.not_mem_nil)⟩⟩⟩⟩⟩⟩⟩⟩⟩⟩⟩⟩⟩⟩
theorem zZ6 : zCls 6 "LassoFinder$Program" zT6 14 zty6 := ⟨rfl, zi6, by decide +kernel, by decide +kernel⟩
theorem zD6 : ∀ j, j < 14 → defaultValue (zty6 j) = vp_V [.null, .null, .null, .null, .null, .null, .null, .null, .null, .null, .null, .long 0, .int 0, .int 0] j := by decide +kernel
set_option maxRecDepth 100000 in
theorem zi7 : ∀ w ∈ u_ws "LassoFinder$Situation" zT7 8, w ∈ zTB := List.forall_mem_cons.mpr ⟨zm_106, List.forall_mem_cons.mpr ⟨zm_107, List.forall_mem_cons.mpr ⟨zm_108, List.forall_mem_cons.mpr ⟨zm_109, List.forall_mem_cons.mpr ⟨zm_110, List.forall_mem_cons.mpr ⟨zm_111, List.forall_mem_cons.mpr ⟨zm_112, List.forall_mem_cons.mpr ⟨zm_113, (fun _ h => absurd h List.not_mem_nil)⟩⟩⟩⟩⟩⟩⟩⟩
theorem zZ7 : zCls 7 "LassoFinder$Situation" zT7 8 zty7 := ⟨rfl, zi7, by decide +kernel, by decide +kernel⟩
theorem zD7 : ∀ j, j < 8 → defaultValue (zty7 j) = vp_V [.null, .null, .null, .null, .null, .null, .int 0, .long 0] j := by decide +kernel
set_option maxRecDepth 100000 in
theorem zi8 : ∀ w ∈ u_ws "LassoFinder$Terms" zT8 10, w ∈ zTB := List.forall_mem_cons.mpr ⟨zm_114, List.forall_mem_cons.mpr ⟨zm_115, List.forall_mem_cons.mpr ⟨zm_116, List.forall_mem_cons.mpr ⟨zm_117, List.forall_mem_cons.mpr ⟨zm_118, List.forall_mem_cons.mpr ⟨zm_119, List.forall_mem_cons.mpr ⟨zm_120, List.forall_mem_cons.mpr ⟨zm_121, List.forall_mem_cons.mpr ⟨zm_122, List.forall_mem_cons.mpr ⟨zm_123, (fun _ h => absurd h List.not_mem_nil)⟩⟩⟩⟩⟩⟩⟩⟩⟩⟩
theorem zZ8 : zCls 8 "LassoFinder$Terms" zT8 10 zty8 := ⟨rfl, zi8, by decide +kernel, by decide +kernel⟩
theorem zD8 : ∀ j, j < 10 → defaultValue (zty8 j) = vp_V [.null, .null, .null, .int 0, .null, .int 0, .null, .int 0, .int 0, .int 0] j := by decide +kernel
set_option maxRecDepth 100000 in
theorem zi9 : ∀ w ∈ u_ws "LassoFinder$Text" zT9 5, w ∈ zTB := List.forall_mem_cons.mpr ⟨zm_124, List.forall_mem_cons.mpr ⟨zm_125, List.forall_mem_cons.mpr ⟨zm_126, List.forall_mem_cons.mpr ⟨zm_127, List.forall_mem_cons.mpr ⟨zm_128, (fun _ h => absurd h List.not_mem_nil)⟩⟩⟩⟩⟩
theorem zZ9 : zCls 9 "LassoFinder$Text" zT9 5 zty9 := ⟨rfl, zi9, by decide +kernel, by decide +kernel⟩
theorem zD9 : ∀ j, j < 5 → defaultValue (zty9 j) = vp_V [.null, .int 0, .int 0, .int 0, .int 0] j := by decide +kernel
set_option maxRecDepth 100000 in
theorem zi10 : ∀ w ∈ u_ws "LassoFinder$Tree" zT10 13, w ∈ zTB := List.forall_mem_cons.mpr ⟨zm_129, List.forall_mem_cons.mpr ⟨zm_130, List.forall_mem_cons.mpr ⟨zm_131, List.forall_mem_cons.mpr ⟨zm_132, List.forall_mem_cons.mpr ⟨zm_133, List.forall_mem_cons.mpr ⟨zm_134, List.forall_mem_cons.mpr ⟨zm_135, List.forall_mem_cons.mpr ⟨zm_136, List.forall_mem_cons.mpr ⟨zm_137, List.forall_mem_cons.mpr ⟨zm_138, List.forall_mem_cons.mpr ⟨zm_139, List.forall_mem_cons.mpr ⟨zm_140, List.forall_mem_cons.mpr ⟨zm_141, (fun _ h => absurd h List.not_mem_nil)⟩⟩⟩⟩⟩⟩⟩⟩⟩⟩⟩⟩⟩
theorem zZ10 : zCls 10 "LassoFinder$Tree" zT10 13 zty10 := ⟨rfl, zi10, by decide +kernel, by decide +kernel⟩
theorem zD10 : ∀ j, j < 13 → defaultValue (zty10 j) = vp_V [.null, .null, .null, .null, .null, .null, .null, .null, .null, .null, .null, .int 0, .int 0] j := by decide +kernel
set_option maxRecDepth 100000 in
theorem zi11 : ∀ w ∈ u_ws "LassoFinder$Truths" zT11 9, w ∈ zTB := List.forall_mem_cons.mpr ⟨zm_142, List.forall_mem_cons.mpr ⟨zm_143, List.forall_mem_cons.mpr ⟨zm_144, List.forall_mem_cons.mpr ⟨zm_145, List.forall_mem_cons.mpr ⟨zm_146, List.forall_mem_cons.mpr ⟨zm_147, List.forall_mem_cons.mpr ⟨zm_148, List.forall_mem_cons.mpr ⟨zm_149, List.forall_mem_cons.mpr ⟨zm_150, (fun _ h => absurd h List.not_mem_nil)⟩⟩⟩⟩⟩⟩⟩⟩⟩
theorem zZ11 : zCls 11 "LassoFinder$Truths" zT11 9 zty11 := ⟨rfl, zi11, by decide +kernel, by decide +kernel⟩
theorem zD11 : ∀ j, j < 9 → defaultValue (zty11 j) = vp_V [.null, .null, .null, .null, .null, .null, .null, .int 0, .int 0] j := by decide +kernel
set_option maxRecDepth 100000 in
theorem zi12 : ∀ w ∈ u_ws "LassoFinderModel" zT12 84, w ∈ zTB := List.forall_mem_cons.mpr ⟨zm_151, List.forall_mem_cons.mpr ⟨zm_152, List.forall_mem_cons.mpr ⟨zm_153, List.forall_mem_cons.mpr ⟨zm_154, List.forall_mem_cons.mpr ⟨zm_155, List.forall_mem_cons.mpr ⟨zm_156, List.forall_mem_cons.mpr ⟨zm_157, List.forall_mem_cons.mpr ⟨zm_158, List.forall_mem_cons.mpr ⟨zm_159, List.forall_mem_cons.mpr ⟨zm_160, List.forall_mem_cons.mpr ⟨zm_161, List.forall_mem_cons.mpr ⟨zm_162, List.forall_mem_cons.mpr ⟨zm_163, List.forall_mem_cons.mpr ⟨zm_164, List.forall_mem_cons.mpr ⟨zm_165, List.forall_mem_cons.mpr ⟨zm_166, List.forall_mem_cons.mpr ⟨zm_167, List.forall_mem_cons.mpr ⟨zm_168, List.forall_mem_cons.mpr ⟨zm_169, List.forall_mem_cons.mpr ⟨zm_170, List.forall_mem_cons.mpr ⟨zm_171, List.forall_mem_cons.mpr ⟨zm_172, List.forall_mem_cons.mpr ⟨zm_173, List.forall_mem_cons.mpr ⟨zm_174, List.forall_mem_cons.mpr ⟨zm_175, List.forall_mem_cons.mpr ⟨zm_176, List.forall_mem_cons.mpr ⟨zm_177, List.forall_mem_cons.mpr ⟨zm_178, List.forall_mem_cons.mpr ⟨zm_179, List.forall_mem_cons.mpr ⟨zm_180, List.forall_mem_cons.mpr ⟨zm_181, List.forall_mem_cons.mpr ⟨zm_182, List.forall_mem_cons.mpr ⟨zm_183, List.forall_mem_cons.mpr ⟨zm_184, List.forall_mem_cons.mpr ⟨zm_185, List.forall_mem_cons.mpr ⟨zm_186, List.forall_mem_cons.mpr ⟨zm_187, List.forall_mem_cons.mpr ⟨zm_188, List.forall_mem_cons.mpr ⟨zm_189, List.forall_mem_cons.mpr ⟨zm_190, List.forall_mem_cons.mpr ⟨zm_191, List.forall_mem_cons.mpr ⟨zm_192, List.forall_mem_cons.mpr ⟨zm_193, List.forall_mem_cons.mpr ⟨zm_194, List.forall_mem_cons.mpr ⟨zm_195, List.forall_mem_cons.mpr ⟨zm_196, List.forall_mem_cons.mpr ⟨zm_197, List.forall_mem_cons.mpr ⟨zm_198, List.forall_mem_cons.mpr ⟨zm_199, List.forall_mem_cons.mpr ⟨zm_200, List.forall_mem_cons.mpr ⟨zm_201, List.forall_mem_cons.mpr ⟨zm_202, List.forall_mem_cons.mpr ⟨zm_203, List.forall_mem_cons.mpr ⟨zm_204, List.forall_mem_cons.mpr ⟨zm_205, List.forall_mem_cons.mpr ⟨zm_206, List.forall_mem_cons.mpr ⟨zm_207, List.forall_mem_cons.mpr ⟨zm_208, List.forall_mem_cons.mpr ⟨zm_209, List.forall_mem_cons.mpr ⟨zm_210, List.forall_mem_cons.mpr ⟨zm_211, List.forall_mem_cons.mpr ⟨zm_212, List.forall_mem_cons.mpr ⟨zm_213, List.forall_mem_cons.mpr ⟨zm_214, List.forall_mem_cons.mpr ⟨zm_215, List.forall_mem_cons.mpr ⟨zm_216, List.forall_mem_cons.mpr ⟨zm_217, List.forall_mem_cons.mpr ⟨zm_218, List.forall_mem_cons.mpr ⟨zm_219, List.forall_mem_cons.mpr ⟨zm_220, List.forall_mem_cons.mpr ⟨zm_221, List.forall_mem_cons.mpr ⟨zm_222, List.forall_mem_cons.mpr ⟨zm_223, List.forall_mem_cons.mpr ⟨zm_224, List.forall_mem_cons.mpr ⟨zm_225, List.forall_mem_cons.mpr ⟨zm_226, List.forall_mem_cons.mpr ⟨zm_227, List.forall_mem_cons.mpr ⟨zm_228, List.forall_mem_cons.mpr ⟨zm_229, List.forall_mem_cons.mpr ⟨zm_230, List.forall_mem_cons.mpr ⟨zm_231, List.forall_mem_cons.mpr ⟨zm_232, List.forall_mem_cons.mpr ⟨zm_233, List.forall_mem_cons.mpr ⟨zm_234, (fun _ h => absurd h List.not_mem_nil)⟩⟩⟩⟩⟩⟩⟩⟩⟩⟩⟩⟩⟩⟩⟩⟩⟩⟩⟩⟩⟩⟩⟩⟩⟩⟩⟩⟩⟩⟩⟩⟩⟩⟩⟩⟩⟩⟩⟩⟩⟩⟩⟩⟩⟩⟩⟩⟩⟩⟩⟩⟩⟩⟩⟩⟩⟩⟩⟩⟩⟩⟩⟩⟩⟩⟩⟩⟩⟩⟩⟩⟩⟩⟩⟩⟩⟩⟩⟩⟩⟩⟩⟩⟩
theorem zZ12 : zCls 12 "LassoFinderModel" zT12 84 zty12 := ⟨rfl, zi12, by decide +kernel, by decide +kernel⟩
theorem zD12 : ∀ j, j < 84 → defaultValue (zty12 j) = vp_V [.int 0, .int 0, .null, .int 0, .int 0, .int 0, .int 0, .int 0, .int 0, .null, .null, .null, .null, .int 0, .null, .null, .null, .null, .null, .null, .null, .null, .null, .null, .null, .null, .null, .int 0, .null, .null, .int 0, .null, .null, .null, .null, .null, .int 0, .null, .int 0, .null, .null, .null, .int 0, .null, .int 0, .int 0, .int 0, .null, .null, .null, .null, .null, .null, .null, .null, .null, .null, .null, .null, .int 0, .null, .int 0, .int 0, .null, .int 0, .int 0, .null, .int 0, .null, .int 0, .null, .null, .null, .null, .null, .null, .null, .null, .int 0, .int 0, .null, .null, .int 0, .null] j := by decide +kernel
end
section
abbrev zy_Text_init : MethodName := ⟨"LassoFinder$Text", "<init>", "()V"⟩
abbrev zy_Names_init : MethodName := ⟨"LassoFinder$Names", "<init>", "()V"⟩
abbrev zy_Program_init : MethodName := ⟨"LassoFinder$Program", "<init>", "()V"⟩
abbrev zy_Terms_init : MethodName := ⟨"LassoFinder$Terms", "<init>", "(LLassoFinder$Text;LLassoFinder$Names;)V"⟩
abbrev zy_ModelReader_init : MethodName := ⟨"LassoFinder$ModelReader", "<init>", "(LLassoFinder$Text;LLassoFinder$Names;LLassoFinder$Terms;LLassoFinder$Program;)V"⟩
abbrev zy_Tree_init : MethodName := ⟨"LassoFinder$Tree", "<init>", "()V"⟩
abbrev zy_Situation_init : MethodName := ⟨"LassoFinder$Situation", "<init>", "(LLassoFinder$Names;LLassoFinder$Terms;LLassoFinder$Program;)V"⟩
abbrev zy_Graph_init : MethodName := ⟨"LassoFinder$Graph", "<init>", "(LLassoFinder$Situation;)V"⟩
abbrev zy_Formula_init : MethodName := ⟨"LassoFinder$Formula", "<init>", "(LLassoFinder$Text;LLassoFinder$Names;LLassoFinder$Program;)V"⟩
abbrev zy_Truths_init : MethodName := ⟨"LassoFinder$Truths", "<init>", "(LLassoFinder$Graph;LLassoFinder$Situation;LLassoFinder$Formula;)V"⟩
theorem zm_235 : Cond.methodLink "LassoFinder$Text" 3 ⟨"java/lang/Object", "<init>", "()V"⟩ ∈ zTB := z_in (zt_1 _ (List.mem_of_getElem? (i := 37) rfl)) rfl
theorem zm_236 : Cond.instanceMethod ⟨"java/lang/Object", "<init>", "()V"⟩ ∈ zTB := z_in (zt_1 _ (List.mem_of_getElem? (i := 30) rfl)) rfl
theorem zm_237 : Cond.code ⟨"java/lang/Object", "<init>", "()V"⟩ object_method_1_code 1 none ∈ zTB := z_in (zt_1 _ (List.mem_of_getElem? (i := 31) rfl)) rfl
theorem zm_238 : Cond.arrayClass .int ∈ zTB := z_in (zt_1 _ (List.mem_of_getElem? (i := 89) rfl)) rfl
theorem zm_239 : Cond.arrayClass .long ∈ zTB := z_in (zt_1 _ (List.mem_of_getElem? (i := 158) rfl)) rfl
theorem zm_240 : Cond.arrayClass .boolean ∈ zTB := z_in (zt_1 _ (List.mem_of_getElem? (i := 157) rfl)) rfl
theorem zm_241 : Cond.arrayClass .char ∈ zTB := z_in (zt_1 _ (List.mem_of_getElem? (i := 55) rfl)) rfl
theorem zm_242 : Cond.fieldLink "LassoFinder$Text" 11 "LassoFinder$Text" "signs" "[C" ∈ zTB := z_in (zt_1 _ (List.mem_of_getElem? (i := 38) rfl)) rfl
theorem zm_243 : Cond.fieldLink "LassoFinder$Text" 15 "LassoFinder$Text" "wrongAt" "I" ∈ zTB := z_in (zt_1 _ (List.mem_of_getElem? (i := 42) rfl)) rfl
theorem zm_244 : Cond.methodLink "LassoFinder$Names" 1 ⟨"java/lang/Object", "<init>", "()V"⟩ ∈ zTB := z_in (zt_1 _ (List.mem_of_getElem? (i := 61) rfl)) rfl
theorem zm_245 : Cond.fieldLink "LassoFinder$Names" 9 "LassoFinder$Names" "kinds" "[I" ∈ zTB := z_in (zt_1 _ (List.mem_of_getElem? (i := 62) rfl)) rfl
theorem zm_246 : Cond.fieldLink "LassoFinder$Names" 13 "LassoFinder$Names" "digits" "[I" ∈ zTB := z_in (zt_1 _ (List.mem_of_getElem? (i := 66) rfl)) rfl
theorem zm_247 : Cond.fieldLink "LassoFinder$Names" 16 "LassoFinder$Names" "variableNames" "[I" ∈ zTB := z_in (zt_1 _ (List.mem_of_getElem? (i := 68) rfl)) rfl
theorem zm_248 : Cond.fieldLink "LassoFinder$Names" 19 "LassoFinder$Names" "channelNames" "[I" ∈ zTB := z_in (zt_1 _ (List.mem_of_getElem? (i := 70) rfl)) rfl
theorem zm_249 : Cond.methodLink "LassoFinder$Program" 5 ⟨"java/lang/Object", "<init>", "()V"⟩ ∈ zTB := z_in (zt_1 _ (List.mem_of_getElem? (i := 95) rfl)) rfl
theorem zm_250 : Cond.fieldLink "LassoFinder$Program" 11 "LassoFinder$Program" "kinds" "[I" ∈ zTB := z_in (zt_1 _ (List.mem_of_getElem? (i := 96) rfl)) rfl
theorem zm_251 : Cond.fieldLink "LassoFinder$Program" 15 "LassoFinder$Program" "channel" "[I" ∈ zTB := z_in (zt_1 _ (List.mem_of_getElem? (i := 98) rfl)) rfl
theorem zm_252 : Cond.fieldLink "LassoFinder$Program" 18 "LassoFinder$Program" "variable" "[I" ∈ zTB := z_in (zt_1 _ (List.mem_of_getElem? (i := 100) rfl)) rfl
theorem zm_253 : Cond.fieldLink "LassoFinder$Program" 21 "LassoFinder$Program" "expression" "[I" ∈ zTB := z_in (zt_1 _ (List.mem_of_getElem? (i := 102) rfl)) rfl
theorem zm_254 : Cond.fieldLink "LassoFinder$Program" 24 "LassoFinder$Program" "actor" "[I" ∈ zTB := z_in (zt_1 _ (List.mem_of_getElem? (i := 104) rfl)) rfl
theorem zm_255 : Cond.fieldLink "LassoFinder$Program" 27 "LassoFinder$Program" "after" "[I" ∈ zTB := z_in (zt_1 _ (List.mem_of_getElem? (i := 106) rfl)) rfl
theorem zm_256 : Cond.fieldLink "LassoFinder$Program" 30 "LassoFinder$Program" "keeps" "[Z" ∈ zTB := z_in (zt_1 _ (List.mem_of_getElem? (i := 108) rfl)) rfl
theorem zm_257 : Cond.fieldLink "LassoFinder$Program" 36 "LassoFinder$Program" "receives" "[J" ∈ zTB := z_in (zt_1 _ (List.mem_of_getElem? (i := 110) rfl)) rfl
theorem zm_258 : Cond.fieldLink "LassoFinder$Program" 40 "LassoFinder$Program" "startPoint" "[I" ∈ zTB := z_in (zt_1 _ (List.mem_of_getElem? (i := 112) rfl)) rfl
theorem zm_259 : Cond.fieldLink "LassoFinder$Program" 43 "LassoFinder$Program" "labelPoint" "[I" ∈ zTB := z_in (zt_1 _ (List.mem_of_getElem? (i := 114) rfl)) rfl
theorem zm_260 : Cond.fieldLink "LassoFinder$Program" 46 "LassoFinder$Program" "basicsAt" "[J" ∈ zTB := z_in (zt_1 _ (List.mem_of_getElem? (i := 116) rfl)) rfl
theorem zm_261 : Cond.methodLink "LassoFinder$Terms" 7 ⟨"java/lang/Object", "<init>", "()V"⟩ ∈ zTB := z_in (zt_1 _ (List.mem_of_getElem? (i := 164) rfl)) rfl
theorem zm_262 : Cond.fieldLink "LassoFinder$Terms" 13 "LassoFinder$Terms" "text" "LLassoFinder$Text;" ∈ zTB := z_in (zt_1 _ (List.mem_of_getElem? (i := 165) rfl)) rfl
theorem zm_263 : Cond.fieldLink "LassoFinder$Terms" 17 "LassoFinder$Terms" "names" "LLassoFinder$Names;" ∈ zTB := z_in (zt_1 _ (List.mem_of_getElem? (i := 166) rfl)) rfl
theorem zm_264 : Cond.fieldLink "LassoFinder$Terms" 21 "LassoFinder$Terms" "codes" "[I" ∈ zTB := z_in (zt_1 _ (List.mem_of_getElem? (i := 167) rfl)) rfl
theorem zm_265 : Cond.fieldLink "LassoFinder$Terms" 25 "LassoFinder$Terms" "waiting" "[I" ∈ zTB := z_in (zt_1 _ (List.mem_of_getElem? (i := 169) rfl)) rfl
theorem zm_266 : Cond.fieldLink "LassoFinder$Terms" 28 "LassoFinder$Terms" "sides" "[I" ∈ zTB := z_in (zt_1 _ (List.mem_of_getElem? (i := 171) rfl)) rfl
theorem zm_267 : Cond.methodLink "LassoFinder$Tree" 3 ⟨"java/lang/Object", "<init>", "()V"⟩ ∈ zTB := z_in (zt_1 _ (List.mem_of_getElem? (i := 207) rfl)) rfl
theorem zm_268 : Cond.fieldLink "LassoFinder$Tree" 11 "LassoFinder$Tree" "kinds" "[I" ∈ zTB := z_in (zt_1 _ (List.mem_of_getElem? (i := 208) rfl)) rfl
theorem zm_269 : Cond.fieldLink "LassoFinder$Tree" 17 "LassoFinder$Tree" "around" "[I" ∈ zTB := z_in (zt_1 _ (List.mem_of_getElem? (i := 211) rfl)) rfl
theorem zm_270 : Cond.fieldLink "LassoFinder$Tree" 20 "LassoFinder$Tree" "loops" "[I" ∈ zTB := z_in (zt_1 _ (List.mem_of_getElem? (i := 213) rfl)) rfl
theorem zm_271 : Cond.fieldLink "LassoFinder$Tree" 23 "LassoFinder$Tree" "atomics" "[I" ∈ zTB := z_in (zt_1 _ (List.mem_of_getElem? (i := 214) rfl)) rfl
theorem zm_272 : Cond.fieldLink "LassoFinder$Tree" 26 "LassoFinder$Tree" "leads" "[Z" ∈ zTB := z_in (zt_1 _ (List.mem_of_getElem? (i := 216) rfl)) rfl
theorem zm_273 : Cond.fieldLink "LassoFinder$Tree" 30 "LassoFinder$Tree" "next" "[I" ∈ zTB := z_in (zt_1 _ (List.mem_of_getElem? (i := 218) rfl)) rfl
theorem zm_274 : Cond.fieldLink "LassoFinder$Tree" 33 "LassoFinder$Tree" "firstInside" "[I" ∈ zTB := z_in (zt_1 _ (List.mem_of_getElem? (i := 219) rfl)) rfl
theorem zm_275 : Cond.fieldLink "LassoFinder$Tree" 36 "LassoFinder$Tree" "pointOf" "[I" ∈ zTB := z_in (zt_1 _ (List.mem_of_getElem? (i := 220) rfl)) rfl
theorem zm_276 : Cond.fieldLink "LassoFinder$Tree" 39 "LassoFinder$Tree" "number" "[I" ∈ zTB := z_in (zt_1 _ (List.mem_of_getElem? (i := 222) rfl)) rfl
theorem zm_277 : Cond.fieldLink "LassoFinder$Tree" 42 "LassoFinder$Tree" "labelAt" "[I" ∈ zTB := z_in (zt_1 _ (List.mem_of_getElem? (i := 225) rfl)) rfl
theorem zm_278 : Cond.fieldLink "LassoFinder$Tree" 47 "LassoFinder$Tree" "labelled" "[I" ∈ zTB := z_in (zt_1 _ (List.mem_of_getElem? (i := 227) rfl)) rfl
theorem zm_279 : Cond.methodLink "LassoFinder$ModelReader" 3 ⟨"java/lang/Object", "<init>", "()V"⟩ ∈ zTB := z_in (zt_1 _ (List.mem_of_getElem? (i := 201) rfl)) rfl
theorem zm_280 : Cond.fieldLink "LassoFinder$ModelReader" 9 "LassoFinder$ModelReader" "text" "LLassoFinder$Text;" ∈ zTB := z_in (zt_2 _ (List.mem_of_getElem? (i := 22) rfl)) rfl
theorem zm_281 : Cond.fieldLink "LassoFinder$ModelReader" 15 "LassoFinder$ModelReader" "names" "LLassoFinder$Names;" ∈ zTB := z_in (zt_2 _ (List.mem_of_getElem? (i := 23) rfl)) rfl
theorem zm_282 : Cond.fieldLink "LassoFinder$ModelReader" 19 "LassoFinder$ModelReader" "terms" "LLassoFinder$Terms;" ∈ zTB := z_in (zt_2 _ (List.mem_of_getElem? (i := 24) rfl)) rfl
theorem zm_283 : Cond.fieldLink "LassoFinder$ModelReader" 23 "LassoFinder$ModelReader" "program" "LLassoFinder$Program;" ∈ zTB := z_in (zt_2 _ (List.mem_of_getElem? (i := 25) rfl)) rfl
theorem zm_284 : Cond.classLink "LassoFinder$ModelReader" 27 "LassoFinder$Tree" ∈ zTB := z_in (zt_1 _ (List.mem_of_getElem? (i := 202) rfl)) rfl
theorem zm_285 : Cond.methodLink "LassoFinder$ModelReader" 29 ⟨"LassoFinder$Tree", "<init>", "()V"⟩ ∈ zTB := z_in (zt_1 _ (List.mem_of_getElem? (i := 204) rfl)) rfl
theorem zm_286 : Cond.fieldLink "LassoFinder$ModelReader" 30 "LassoFinder$ModelReader" "tree" "LLassoFinder$Tree;" ∈ zTB := z_in (zt_2 _ (List.mem_of_getElem? (i := 26) rfl)) rfl
theorem zm_287 : Cond.methodLink "LassoFinder$Situation" 3 ⟨"java/lang/Object", "<init>", "()V"⟩ ∈ zTB := z_in (zt_2 _ (List.mem_of_getElem? (i := 43) rfl)) rfl
theorem zm_288 : Cond.fieldLink "LassoFinder$Situation" 9 "LassoFinder$Situation" "names" "LLassoFinder$Names;" ∈ zTB := z_in (zt_2 _ (List.mem_of_getElem? (i := 44) rfl)) rfl
theorem zm_289 : Cond.fieldLink "LassoFinder$Situation" 15 "LassoFinder$Situation" "terms" "LLassoFinder$Terms;" ∈ zTB := z_in (zt_2 _ (List.mem_of_getElem? (i := 45) rfl)) rfl
theorem zm_290 : Cond.fieldLink "LassoFinder$Situation" 19 "LassoFinder$Situation" "program" "LLassoFinder$Program;" ∈ zTB := z_in (zt_2 _ (List.mem_of_getElem? (i := 46) rfl)) rfl
theorem zm_291 : Cond.fieldLink "LassoFinder$Situation" 25 "LassoFinder$Situation" "amounts" "[I" ∈ zTB := z_in (zt_2 _ (List.mem_of_getElem? (i := 47) rfl)) rfl
theorem zm_292 : Cond.fieldLink "LassoFinder$Situation" 29 "LassoFinder$Situation" "messages" "[I" ∈ zTB := z_in (zt_2 _ (List.mem_of_getElem? (i := 50) rfl)) rfl
theorem zm_293 : Cond.fieldLink "LassoFinder$Situation" 34 "LassoFinder$Situation" "points" "[I" ∈ zTB := z_in (zt_2 _ (List.mem_of_getElem? (i := 51) rfl)) rfl
theorem zm_294 : Cond.fieldLink "LassoFinder$Situation" 37 "LassoFinder$Situation" "holding" "I" ∈ zTB := z_in (zt_2 _ (List.mem_of_getElem? (i := 54) rfl)) rfl
theorem zm_295 : Cond.methodLink "LassoFinder$Graph" 3 ⟨"java/lang/Object", "<init>", "()V"⟩ ∈ zTB := z_in (zt_2 _ (List.mem_of_getElem? (i := 79) rfl)) rfl
theorem zm_296 : Cond.fieldLink "LassoFinder$Graph" 9 "LassoFinder$Graph" "situation" "LLassoFinder$Situation;" ∈ zTB := z_in (zt_2 _ (List.mem_of_getElem? (i := 80) rfl)) rfl
theorem zm_297 : Cond.fieldLink "LassoFinder$Graph" 15 "LassoFinder$Graph" "packedStates" "[J" ∈ zTB := z_in (zt_2 _ (List.mem_of_getElem? (i := 81) rfl)) rfl
theorem zm_298 : Cond.fieldLink "LassoFinder$Graph" 19 "LassoFinder$Graph" "firstStep" "[I" ∈ zTB := z_in (zt_2 _ (List.mem_of_getElem? (i := 84) rfl)) rfl
theorem zm_299 : Cond.fieldLink "LassoFinder$Graph" 23 "LassoFinder$Graph" "stepFrom" "[I" ∈ zTB := z_in (zt_2 _ (List.mem_of_getElem? (i := 87) rfl)) rfl
theorem zm_300 : Cond.fieldLink "LassoFinder$Graph" 26 "LassoFinder$Graph" "stepTo" "[I" ∈ zTB := z_in (zt_2 _ (List.mem_of_getElem? (i := 90) rfl)) rfl
theorem zm_301 : Cond.fieldLink "LassoFinder$Graph" 29 "LassoFinder$Graph" "stepBasic" "[I" ∈ zTB := z_in (zt_2 _ (List.mem_of_getElem? (i := 93) rfl)) rfl
theorem zm_302 : Cond.fieldLink "LassoFinder$Graph" 32 "LassoFinder$Graph" "stepPartner" "[I" ∈ zTB := z_in (zt_2 _ (List.mem_of_getElem? (i := 95) rfl)) rfl
theorem zm_303 : Cond.fieldLink "LassoFinder$Graph" 35 "LassoFinder$Graph" "firstSource" "[I" ∈ zTB := z_in (zt_2 _ (List.mem_of_getElem? (i := 97) rfl)) rfl
theorem zm_304 : Cond.fieldLink "LassoFinder$Graph" 38 "LassoFinder$Graph" "sources" "[I" ∈ zTB := z_in (zt_2 _ (List.mem_of_getElem? (i := 99) rfl)) rfl
theorem zm_305 : Cond.methodLink "LassoFinder$Formula" 3 ⟨"java/lang/Object", "<init>", "()V"⟩ ∈ zTB := z_in (zt_2 _ (List.mem_of_getElem? (i := 135) rfl)) rfl
theorem zm_306 : Cond.fieldLink "LassoFinder$Formula" 9 "LassoFinder$Formula" "text" "LLassoFinder$Text;" ∈ zTB := z_in (zt_2 _ (List.mem_of_getElem? (i := 138) rfl)) rfl
theorem zm_307 : Cond.fieldLink "LassoFinder$Formula" 15 "LassoFinder$Formula" "program" "LLassoFinder$Program;" ∈ zTB := z_in (zt_2 _ (List.mem_of_getElem? (i := 139) rfl)) rfl
theorem zm_308 : Cond.classLink "LassoFinder$Formula" 19 "LassoFinder$Terms" ∈ zTB := z_in (zt_2 _ (List.mem_of_getElem? (i := 136) rfl)) rfl
theorem zm_309 : Cond.methodLink "LassoFinder$Formula" 21 ⟨"LassoFinder$Terms", "<init>", "(LLassoFinder$Text;LLassoFinder$Names;)V"⟩ ∈ zTB := z_in (zt_2 _ (List.mem_of_getElem? (i := 137) rfl)) rfl
theorem zm_310 : Cond.fieldLink "LassoFinder$Formula" 24 "LassoFinder$Formula" "terms" "LLassoFinder$Terms;" ∈ zTB := z_in (zt_2 _ (List.mem_of_getElem? (i := 140) rfl)) rfl
theorem zm_311 : Cond.fieldLink "LassoFinder$Formula" 30 "LassoFinder$Formula" "kinds" "[I" ∈ zTB := z_in (zt_2 _ (List.mem_of_getElem? (i := 142) rfl)) rfl
theorem zm_312 : Cond.fieldLink "LassoFinder$Formula" 34 "LassoFinder$Formula" "left" "[I" ∈ zTB := z_in (zt_2 _ (List.mem_of_getElem? (i := 144) rfl)) rfl
theorem zm_313 : Cond.fieldLink "LassoFinder$Formula" 37 "LassoFinder$Formula" "right" "[I" ∈ zTB := z_in (zt_2 _ (List.mem_of_getElem? (i := 146) rfl)) rfl
theorem zm_314 : Cond.fieldLink "LassoFinder$Formula" 40 "LassoFinder$Formula" "temporalParts" "[I" ∈ zTB := z_in (zt_2 _ (List.mem_of_getElem? (i := 148) rfl)) rfl
theorem zm_315 : Cond.methodLink "LassoFinder$Truths" 1 ⟨"java/lang/Object", "<init>", "()V"⟩ ∈ zTB := z_in (zt_2 _ (List.mem_of_getElem? (i := 185) rfl)) rfl
theorem zm_316 : Cond.fieldLink "LassoFinder$Truths" 7 "LassoFinder$Truths" "graph" "LLassoFinder$Graph;" ∈ zTB := z_in (zt_2 _ (List.mem_of_getElem? (i := 186) rfl)) rfl
theorem zm_317 : Cond.fieldLink "LassoFinder$Truths" 13 "LassoFinder$Truths" "situation" "LLassoFinder$Situation;" ∈ zTB := z_in (zt_2 _ (List.mem_of_getElem? (i := 187) rfl)) rfl
theorem zm_318 : Cond.fieldLink "LassoFinder$Truths" 17 "LassoFinder$Truths" "formula" "LLassoFinder$Formula;" ∈ zTB := z_in (zt_2 _ (List.mem_of_getElem? (i := 188) rfl)) rfl
theorem zm_319 : Cond.fieldLink "LassoFinder$Truths" 23 "LassoFinder$Truths" "parts" "[I" ∈ zTB := z_in (zt_2 _ (List.mem_of_getElem? (i := 189) rfl)) rfl
theorem zm_320 : Cond.fieldLink "LassoFinder$Truths" 29 "LassoFinder$Truths" "before" "[I" ∈ zTB := z_in (zt_2 _ (List.mem_of_getElem? (i := 190) rfl)) rfl
theorem zm_321 : Cond.fieldLink "LassoFinder$Truths" 32 "LassoFinder$Truths" "settled" "[I" ∈ zTB := z_in (zt_2 _ (List.mem_of_getElem? (i := 192) rfl)) rfl
theorem zm_322 : Cond.fieldLink "LassoFinder$Truths" 35 "LassoFinder$Truths" "satisfied" "[Z" ∈ zTB := z_in (zt_2 _ (List.mem_of_getElem? (i := 194) rfl)) rfl
theorem zm_323 : Cond.code ⟨"LassoFinder$Tree", "<init>", "()V"⟩ prog_11_method_1_code 1 none ∈ zTB := z_in (zt_1 _ (List.mem_of_getElem? (i := 206) rfl)) rfl
theorem zm_324 : Cond.instanceMethod ⟨"LassoFinder$Tree", "<init>", "()V"⟩ ∈ zTB := z_in (zt_1 _ (List.mem_of_getElem? (i := 205) rfl)) rfl
theorem zm_325 : Cond.code ⟨"LassoFinder$Terms", "<init>", "(LLassoFinder$Text;LLassoFinder$Names;)V"⟩ prog_9_method_1_code 3 none ∈ zTB := z_in (zt_1 _ (List.mem_of_getElem? (i := 163) rfl)) rfl
theorem zm_326 : Cond.instanceMethod ⟨"LassoFinder$Terms", "<init>", "(LLassoFinder$Text;LLassoFinder$Names;)V"⟩ ∈ zTB := z_in (zt_1 _ (List.mem_of_getElem? (i := 162) rfl)) rfl
theorem zf_Tree_init : zFaceI zy_Tree_init prog_11_method_1_code 1 0 := ⟨zm_324, rfl, zm_21, zm_323, by decide +kernel, by decide +kernel, by decide +kernel⟩
theorem zf_Terms_init : zFaceI zy_Terms_init prog_9_method_1_code 3 2 := ⟨zm_326, rfl, zm_17, zm_325, by decide +kernel, by decide +kernel, by decide +kernel⟩
theorem zd_Formula_init_0 : decode prog_2_method_1_code 0 = .ok (.aload_n 0, 1) := by decide +kernel
theorem zd_Formula_init_1 : decode prog_2_method_1_code 1 = .ok (.invokespecial 3, 3) := by decide +kernel
theorem zd_Formula_init_4 : decode prog_2_method_1_code 4 = .ok (.aload_n 0, 1) := by decide +kernel
theorem zd_Formula_init_5 : decode prog_2_method_1_code 5 = .ok (.aload_n 1, 1) := by decide +kernel
theorem zd_Formula_init_6 : decode prog_2_method_1_code 6 = .ok (.putfield 9, 3) := by decide +kernel
theorem zd_Formula_init_9 : decode prog_2_method_1_code 9 = .ok (.aload_n 0, 1) := by decide +kernel
theorem zd_Formula_init_10 : decode prog_2_method_1_code 10 = .ok (.aload_n 3, 1) := by decide +kernel
theorem zd_Formula_init_11 : decode prog_2_method_1_code 11 = .ok (.putfield 15, 3) := by decide +kernel
theorem zd_Formula_init_14 : decode prog_2_method_1_code 14 = .ok (.aload_n 0, 1) := by decide +kernel
theorem zd_Formula_init_15 : decode prog_2_method_1_code 15 = .ok (.new 19, 3) := by decide +kernel
theorem zd_Formula_init_18 : decode prog_2_method_1_code 18 = .ok (.dup, 1) := by decide +kernel
theorem zd_Formula_init_19 : decode prog_2_method_1_code 19 = .ok (.aload_n 1, 1) := by decide +kernel
theorem zd_Formula_init_20 : decode prog_2_method_1_code 20 = .ok (.aload_n 2, 1) := by decide +kernel
theorem zd_Formula_init_21 : decode prog_2_method_1_code 21 = .ok (.invokespecial 21, 3) := by decide +kernel
theorem zd_Formula_init_24 : decode prog_2_method_1_code 24 = .ok (.putfield 24, 3) := by decide +kernel
theorem zd_Formula_init_27 : decode prog_2_method_1_code 27 = .ok (.aload_n 0, 1) := by decide +kernel
theorem zd_Formula_init_28 : decode prog_2_method_1_code 28 = .ok (.sipush 240, 3) := by decide +kernel
theorem zd_Formula_init_31 : decode prog_2_method_1_code 31 = .ok (.newarray .int, 2) := by decide +kernel
theorem zd_Formula_init_33 : decode prog_2_method_1_code 33 = .ok (.putfield 30, 3) := by decide +kernel
theorem zd_Formula_init_36 : decode prog_2_method_1_code 36 = .ok (.aload_n 0, 1) := by decide +kernel
theorem zd_Formula_init_37 : decode prog_2_method_1_code 37 = .ok (.sipush 240, 3) := by decide +kernel
theorem zd_Formula_init_40 : decode prog_2_method_1_code 40 = .ok (.newarray .int, 2) := by decide +kernel
theorem zd_Formula_init_42 : decode prog_2_method_1_code 42 = .ok (.putfield 34, 3) := by decide +kernel
theorem zd_Formula_init_45 : decode prog_2_method_1_code 45 = .ok (.aload_n 0, 1) := by decide +kernel
theorem zd_Formula_init_46 : decode prog_2_method_1_code 46 = .ok (.sipush 240, 3) := by decide +kernel
theorem zd_Formula_init_49 : decode prog_2_method_1_code 49 = .ok (.newarray .int, 2) := by decide +kernel
theorem zd_Formula_init_51 : decode prog_2_method_1_code 51 = .ok (.putfield 37, 3) := by decide +kernel
theorem zd_Formula_init_54 : decode prog_2_method_1_code 54 = .ok (.aload_n 0, 1) := by decide +kernel
theorem zd_Formula_init_55 : decode prog_2_method_1_code 55 = .ok (.iconst 3, 1) := by decide +kernel
theorem zd_Formula_init_56 : decode prog_2_method_1_code 56 = .ok (.newarray .int, 2) := by decide +kernel
theorem zd_Formula_init_58 : decode prog_2_method_1_code 58 = .ok (.putfield 40, 3) := by decide +kernel
theorem zd_Formula_init_61 : decode prog_2_method_1_code 61 = .ok (.return_, 1) := by decide +kernel
theorem zd_Graph_init_0 : decode prog_3_method_1_code 0 = .ok (.aload_n 0, 1) := by decide +kernel
theorem zd_Graph_init_1 : decode prog_3_method_1_code 1 = .ok (.invokespecial 3, 3) := by decide +kernel
theorem zd_Graph_init_4 : decode prog_3_method_1_code 4 = .ok (.aload_n 0, 1) := by decide +kernel
theorem zd_Graph_init_5 : decode prog_3_method_1_code 5 = .ok (.aload_n 1, 1) := by decide +kernel
theorem zd_Graph_init_6 : decode prog_3_method_1_code 6 = .ok (.putfield 9, 3) := by decide +kernel
theorem zd_Graph_init_9 : decode prog_3_method_1_code 9 = .ok (.aload_n 0, 1) := by decide +kernel
theorem zd_Graph_init_10 : decode prog_3_method_1_code 10 = .ok (.bipush 96, 2) := by decide +kernel
theorem zd_Graph_init_12 : decode prog_3_method_1_code 12 = .ok (.newarray .long, 2) := by decide +kernel
theorem zd_Graph_init_14 : decode prog_3_method_1_code 14 = .ok (.putfield 15, 3) := by decide +kernel
theorem zd_Graph_init_17 : decode prog_3_method_1_code 17 = .ok (.aload_n 0, 1) := by decide +kernel
theorem zd_Graph_init_18 : decode prog_3_method_1_code 18 = .ok (.bipush 97, 2) := by decide +kernel
theorem zd_Graph_init_20 : decode prog_3_method_1_code 20 = .ok (.newarray .int, 2) := by decide +kernel
theorem zd_Graph_init_22 : decode prog_3_method_1_code 22 = .ok (.putfield 19, 3) := by decide +kernel
theorem zd_Graph_init_25 : decode prog_3_method_1_code 25 = .ok (.aload_n 0, 1) := by decide +kernel
theorem zd_Graph_init_26 : decode prog_3_method_1_code 26 = .ok (.sipush 400, 3) := by decide +kernel
theorem zd_Graph_init_29 : decode prog_3_method_1_code 29 = .ok (.newarray .int, 2) := by decide +kernel
theorem zd_Graph_init_31 : decode prog_3_method_1_code 31 = .ok (.putfield 23, 3) := by decide +kernel
theorem zd_Graph_init_34 : decode prog_3_method_1_code 34 = .ok (.aload_n 0, 1) := by decide +kernel
theorem zd_Graph_init_35 : decode prog_3_method_1_code 35 = .ok (.sipush 400, 3) := by decide +kernel
theorem zd_Graph_init_38 : decode prog_3_method_1_code 38 = .ok (.newarray .int, 2) := by decide +kernel
theorem zd_Graph_init_40 : decode prog_3_method_1_code 40 = .ok (.putfield 26, 3) := by decide +kernel
theorem zd_Graph_init_43 : decode prog_3_method_1_code 43 = .ok (.aload_n 0, 1) := by decide +kernel
theorem zd_Graph_init_44 : decode prog_3_method_1_code 44 = .ok (.sipush 400, 3) := by decide +kernel
theorem zd_Graph_init_47 : decode prog_3_method_1_code 47 = .ok (.newarray .int, 2) := by decide +kernel
theorem zd_Graph_init_49 : decode prog_3_method_1_code 49 = .ok (.putfield 29, 3) := by decide +kernel
theorem zd_Graph_init_52 : decode prog_3_method_1_code 52 = .ok (.aload_n 0, 1) := by decide +kernel
theorem zd_Graph_init_53 : decode prog_3_method_1_code 53 = .ok (.sipush 400, 3) := by decide +kernel
theorem zd_Graph_init_56 : decode prog_3_method_1_code 56 = .ok (.newarray .int, 2) := by decide +kernel
theorem zd_Graph_init_58 : decode prog_3_method_1_code 58 = .ok (.putfield 32, 3) := by decide +kernel
theorem zd_Graph_init_61 : decode prog_3_method_1_code 61 = .ok (.aload_n 0, 1) := by decide +kernel
theorem zd_Graph_init_62 : decode prog_3_method_1_code 62 = .ok (.bipush 97, 2) := by decide +kernel
theorem zd_Graph_init_64 : decode prog_3_method_1_code 64 = .ok (.newarray .int, 2) := by decide +kernel
theorem zd_Graph_init_66 : decode prog_3_method_1_code 66 = .ok (.putfield 35, 3) := by decide +kernel
theorem zd_Graph_init_69 : decode prog_3_method_1_code 69 = .ok (.aload_n 0, 1) := by decide +kernel
theorem zd_Graph_init_70 : decode prog_3_method_1_code 70 = .ok (.sipush 400, 3) := by decide +kernel
theorem zd_Graph_init_73 : decode prog_3_method_1_code 73 = .ok (.newarray .int, 2) := by decide +kernel
theorem zd_Graph_init_75 : decode prog_3_method_1_code 75 = .ok (.putfield 38, 3) := by decide +kernel
theorem zd_Graph_init_78 : decode prog_3_method_1_code 78 = .ok (.return_, 1) := by decide +kernel
theorem zd_ModelReader_init_0 : decode prog_5_method_1_code 0 = .ok (.aload_n 0, 1) := by decide +kernel
theorem zd_ModelReader_init_1 : decode prog_5_method_1_code 1 = .ok (.invokespecial 3, 3) := by decide +kernel
theorem zd_ModelReader_init_4 : decode prog_5_method_1_code 4 = .ok (.aload_n 0, 1) := by decide +kernel
theorem zd_ModelReader_init_5 : decode prog_5_method_1_code 5 = .ok (.aload_n 1, 1) := by decide +kernel
theorem zd_ModelReader_init_6 : decode prog_5_method_1_code 6 = .ok (.putfield 9, 3) := by decide +kernel
theorem zd_ModelReader_init_9 : decode prog_5_method_1_code 9 = .ok (.aload_n 0, 1) := by decide +kernel
theorem zd_ModelReader_init_10 : decode prog_5_method_1_code 10 = .ok (.aload_n 2, 1) := by decide +kernel
theorem zd_ModelReader_init_11 : decode prog_5_method_1_code 11 = .ok (.putfield 15, 3) := by decide +kernel
theorem zd_ModelReader_init_14 : decode prog_5_method_1_code 14 = .ok (.aload_n 0, 1) := by decide +kernel
theorem zd_ModelReader_init_15 : decode prog_5_method_1_code 15 = .ok (.aload_n 3, 1) := by decide +kernel
theorem zd_ModelReader_init_16 : decode prog_5_method_1_code 16 = .ok (.putfield 19, 3) := by decide +kernel
theorem zd_ModelReader_init_19 : decode prog_5_method_1_code 19 = .ok (.aload_n 0, 1) := by decide +kernel
theorem zd_ModelReader_init_20 : decode prog_5_method_1_code 20 = .ok (.aload 4, 2) := by decide +kernel
theorem zd_ModelReader_init_22 : decode prog_5_method_1_code 22 = .ok (.putfield 23, 3) := by decide +kernel
theorem zd_ModelReader_init_25 : decode prog_5_method_1_code 25 = .ok (.aload_n 0, 1) := by decide +kernel
theorem zd_ModelReader_init_26 : decode prog_5_method_1_code 26 = .ok (.new 27, 3) := by decide +kernel
theorem zd_ModelReader_init_29 : decode prog_5_method_1_code 29 = .ok (.dup, 1) := by decide +kernel
theorem zd_ModelReader_init_30 : decode prog_5_method_1_code 30 = .ok (.invokespecial 29, 3) := by decide +kernel
theorem zd_ModelReader_init_33 : decode prog_5_method_1_code 33 = .ok (.putfield 30, 3) := by decide +kernel
theorem zd_ModelReader_init_36 : decode prog_5_method_1_code 36 = .ok (.return_, 1) := by decide +kernel
theorem zd_Names_init_0 : decode prog_6_method_1_code 0 = .ok (.aload_n 0, 1) := by decide +kernel
theorem zd_Names_init_1 : decode prog_6_method_1_code 1 = .ok (.invokespecial 1, 3) := by decide +kernel
theorem zd_Names_init_4 : decode prog_6_method_1_code 4 = .ok (.aload_n 0, 1) := by decide +kernel
theorem zd_Names_init_5 : decode prog_6_method_1_code 5 = .ok (.bipush 8, 2) := by decide +kernel
theorem zd_Names_init_7 : decode prog_6_method_1_code 7 = .ok (.newarray .int, 2) := by decide +kernel
theorem zd_Names_init_9 : decode prog_6_method_1_code 9 = .ok (.putfield 9, 3) := by decide +kernel
theorem zd_Names_init_12 : decode prog_6_method_1_code 12 = .ok (.aload_n 0, 1) := by decide +kernel
theorem zd_Names_init_13 : decode prog_6_method_1_code 13 = .ok (.bipush 8, 2) := by decide +kernel
theorem zd_Names_init_15 : decode prog_6_method_1_code 15 = .ok (.newarray .int, 2) := by decide +kernel
theorem zd_Names_init_17 : decode prog_6_method_1_code 17 = .ok (.putfield 13, 3) := by decide +kernel
theorem zd_Names_init_20 : decode prog_6_method_1_code 20 = .ok (.aload_n 0, 1) := by decide +kernel
theorem zd_Names_init_21 : decode prog_6_method_1_code 21 = .ok (.bipush 6, 2) := by decide +kernel
theorem zd_Names_init_23 : decode prog_6_method_1_code 23 = .ok (.newarray .int, 2) := by decide +kernel
theorem zd_Names_init_25 : decode prog_6_method_1_code 25 = .ok (.putfield 16, 3) := by decide +kernel
theorem zd_Names_init_28 : decode prog_6_method_1_code 28 = .ok (.aload_n 0, 1) := by decide +kernel
theorem zd_Names_init_29 : decode prog_6_method_1_code 29 = .ok (.iconst 2, 1) := by decide +kernel
theorem zd_Names_init_30 : decode prog_6_method_1_code 30 = .ok (.newarray .int, 2) := by decide +kernel
theorem zd_Names_init_32 : decode prog_6_method_1_code 32 = .ok (.putfield 19, 3) := by decide +kernel
theorem zd_Names_init_35 : decode prog_6_method_1_code 35 = .ok (.return_, 1) := by decide +kernel
theorem zd_Program_init_0 : decode prog_7_method_1_code 0 = .ok (.aload_n 0, 1) := by decide +kernel
theorem zd_Program_init_1 : decode prog_7_method_1_code 1 = .ok (.invokespecial 5, 3) := by decide +kernel
theorem zd_Program_init_4 : decode prog_7_method_1_code 4 = .ok (.aload_n 0, 1) := by decide +kernel
theorem zd_Program_init_5 : decode prog_7_method_1_code 5 = .ok (.bipush 48, 2) := by decide +kernel
theorem zd_Program_init_7 : decode prog_7_method_1_code 7 = .ok (.newarray .int, 2) := by decide +kernel
theorem zd_Program_init_9 : decode prog_7_method_1_code 9 = .ok (.putfield 11, 3) := by decide +kernel
theorem zd_Program_init_12 : decode prog_7_method_1_code 12 = .ok (.aload_n 0, 1) := by decide +kernel
theorem zd_Program_init_13 : decode prog_7_method_1_code 13 = .ok (.bipush 48, 2) := by decide +kernel
theorem zd_Program_init_15 : decode prog_7_method_1_code 15 = .ok (.newarray .int, 2) := by decide +kernel
theorem zd_Program_init_17 : decode prog_7_method_1_code 17 = .ok (.putfield 15, 3) := by decide +kernel
theorem zd_Program_init_20 : decode prog_7_method_1_code 20 = .ok (.aload_n 0, 1) := by decide +kernel
theorem zd_Program_init_21 : decode prog_7_method_1_code 21 = .ok (.bipush 48, 2) := by decide +kernel
theorem zd_Program_init_23 : decode prog_7_method_1_code 23 = .ok (.newarray .int, 2) := by decide +kernel
theorem zd_Program_init_25 : decode prog_7_method_1_code 25 = .ok (.putfield 18, 3) := by decide +kernel
theorem zd_Program_init_28 : decode prog_7_method_1_code 28 = .ok (.aload_n 0, 1) := by decide +kernel
theorem zd_Program_init_29 : decode prog_7_method_1_code 29 = .ok (.bipush 48, 2) := by decide +kernel
theorem zd_Program_init_31 : decode prog_7_method_1_code 31 = .ok (.newarray .int, 2) := by decide +kernel
theorem zd_Program_init_33 : decode prog_7_method_1_code 33 = .ok (.putfield 21, 3) := by decide +kernel
theorem zd_Program_init_36 : decode prog_7_method_1_code 36 = .ok (.aload_n 0, 1) := by decide +kernel
theorem zd_Program_init_37 : decode prog_7_method_1_code 37 = .ok (.bipush 48, 2) := by decide +kernel
theorem zd_Program_init_39 : decode prog_7_method_1_code 39 = .ok (.newarray .int, 2) := by decide +kernel
theorem zd_Program_init_41 : decode prog_7_method_1_code 41 = .ok (.putfield 24, 3) := by decide +kernel
theorem zd_Program_init_44 : decode prog_7_method_1_code 44 = .ok (.aload_n 0, 1) := by decide +kernel
theorem zd_Program_init_45 : decode prog_7_method_1_code 45 = .ok (.bipush 48, 2) := by decide +kernel
theorem zd_Program_init_47 : decode prog_7_method_1_code 47 = .ok (.newarray .int, 2) := by decide +kernel
theorem zd_Program_init_49 : decode prog_7_method_1_code 49 = .ok (.putfield 27, 3) := by decide +kernel
theorem zd_Program_init_52 : decode prog_7_method_1_code 52 = .ok (.aload_n 0, 1) := by decide +kernel
theorem zd_Program_init_53 : decode prog_7_method_1_code 53 = .ok (.bipush 48, 2) := by decide +kernel
theorem zd_Program_init_55 : decode prog_7_method_1_code 55 = .ok (.newarray .boolean, 2) := by decide +kernel
theorem zd_Program_init_57 : decode prog_7_method_1_code 57 = .ok (.putfield 30, 3) := by decide +kernel
theorem zd_Program_init_60 : decode prog_7_method_1_code 60 = .ok (.aload_n 0, 1) := by decide +kernel
theorem zd_Program_init_61 : decode prog_7_method_1_code 61 = .ok (.bipush 8, 2) := by decide +kernel
theorem zd_Program_init_63 : decode prog_7_method_1_code 63 = .ok (.newarray .long, 2) := by decide +kernel
theorem zd_Program_init_65 : decode prog_7_method_1_code 65 = .ok (.putfield 36, 3) := by decide +kernel
theorem zd_Program_init_68 : decode prog_7_method_1_code 68 = .ok (.aload_n 0, 1) := by decide +kernel
theorem zd_Program_init_69 : decode prog_7_method_1_code 69 = .ok (.iconst 4, 1) := by decide +kernel
theorem zd_Program_init_70 : decode prog_7_method_1_code 70 = .ok (.newarray .int, 2) := by decide +kernel
theorem zd_Program_init_72 : decode prog_7_method_1_code 72 = .ok (.putfield 40, 3) := by decide +kernel
theorem zd_Program_init_75 : decode prog_7_method_1_code 75 = .ok (.aload_n 0, 1) := by decide +kernel
theorem zd_Program_init_76 : decode prog_7_method_1_code 76 = .ok (.bipush 32, 2) := by decide +kernel
theorem zd_Program_init_78 : decode prog_7_method_1_code 78 = .ok (.newarray .int, 2) := by decide +kernel
theorem zd_Program_init_80 : decode prog_7_method_1_code 80 = .ok (.putfield 43, 3) := by decide +kernel
theorem zd_Program_init_83 : decode prog_7_method_1_code 83 = .ok (.aload_n 0, 1) := by decide +kernel
theorem zd_Program_init_84 : decode prog_7_method_1_code 84 = .ok (.bipush 124, 2) := by decide +kernel
theorem zd_Program_init_86 : decode prog_7_method_1_code 86 = .ok (.newarray .long, 2) := by decide +kernel
theorem zd_Program_init_88 : decode prog_7_method_1_code 88 = .ok (.putfield 46, 3) := by decide +kernel
theorem zd_Program_init_91 : decode prog_7_method_1_code 91 = .ok (.return_, 1) := by decide +kernel
theorem zd_Situation_init_0 : decode prog_8_method_1_code 0 = .ok (.aload_n 0, 1) := by decide +kernel
theorem zd_Situation_init_1 : decode prog_8_method_1_code 1 = .ok (.invokespecial 3, 3) := by decide +kernel
theorem zd_Situation_init_4 : decode prog_8_method_1_code 4 = .ok (.aload_n 0, 1) := by decide +kernel
theorem zd_Situation_init_5 : decode prog_8_method_1_code 5 = .ok (.aload_n 1, 1) := by decide +kernel
theorem zd_Situation_init_6 : decode prog_8_method_1_code 6 = .ok (.putfield 9, 3) := by decide +kernel
theorem zd_Situation_init_9 : decode prog_8_method_1_code 9 = .ok (.aload_n 0, 1) := by decide +kernel
theorem zd_Situation_init_10 : decode prog_8_method_1_code 10 = .ok (.aload_n 2, 1) := by decide +kernel
theorem zd_Situation_init_11 : decode prog_8_method_1_code 11 = .ok (.putfield 15, 3) := by decide +kernel
theorem zd_Situation_init_14 : decode prog_8_method_1_code 14 = .ok (.aload_n 0, 1) := by decide +kernel
theorem zd_Situation_init_15 : decode prog_8_method_1_code 15 = .ok (.aload_n 3, 1) := by decide +kernel
theorem zd_Situation_init_16 : decode prog_8_method_1_code 16 = .ok (.putfield 19, 3) := by decide +kernel
theorem zd_Situation_init_19 : decode prog_8_method_1_code 19 = .ok (.aload_n 0, 1) := by decide +kernel
theorem zd_Situation_init_20 : decode prog_8_method_1_code 20 = .ok (.bipush 8, 2) := by decide +kernel
theorem zd_Situation_init_22 : decode prog_8_method_1_code 22 = .ok (.newarray .int, 2) := by decide +kernel
theorem zd_Situation_init_24 : decode prog_8_method_1_code 24 = .ok (.putfield 25, 3) := by decide +kernel
theorem zd_Situation_init_27 : decode prog_8_method_1_code 27 = .ok (.aload_n 0, 1) := by decide +kernel
theorem zd_Situation_init_28 : decode prog_8_method_1_code 28 = .ok (.bipush 24, 2) := by decide +kernel
theorem zd_Situation_init_30 : decode prog_8_method_1_code 30 = .ok (.newarray .int, 2) := by decide +kernel
theorem zd_Situation_init_32 : decode prog_8_method_1_code 32 = .ok (.putfield 29, 3) := by decide +kernel
theorem zd_Situation_init_35 : decode prog_8_method_1_code 35 = .ok (.aload_n 0, 1) := by decide +kernel
theorem zd_Situation_init_36 : decode prog_8_method_1_code 36 = .ok (.iconst 4, 1) := by decide +kernel
theorem zd_Situation_init_37 : decode prog_8_method_1_code 37 = .ok (.newarray .int, 2) := by decide +kernel
theorem zd_Situation_init_39 : decode prog_8_method_1_code 39 = .ok (.putfield 34, 3) := by decide +kernel
theorem zd_Situation_init_42 : decode prog_8_method_1_code 42 = .ok (.aload_n 0, 1) := by decide +kernel
theorem zd_Situation_init_43 : decode prog_8_method_1_code 43 = .ok (.iconst (-1), 1) := by decide +kernel
theorem zd_Situation_init_44 : decode prog_8_method_1_code 44 = .ok (.putfield 37, 3) := by decide +kernel
theorem zd_Situation_init_47 : decode prog_8_method_1_code 47 = .ok (.return_, 1) := by decide +kernel
theorem zd_Terms_init_0 : decode prog_9_method_1_code 0 = .ok (.aload_n 0, 1) := by decide +kernel
theorem zd_Terms_init_1 : decode prog_9_method_1_code 1 = .ok (.invokespecial 7, 3) := by decide +kernel
theorem zd_Terms_init_4 : decode prog_9_method_1_code 4 = .ok (.aload_n 0, 1) := by decide +kernel
theorem zd_Terms_init_5 : decode prog_9_method_1_code 5 = .ok (.aload_n 1, 1) := by decide +kernel
theorem zd_Terms_init_6 : decode prog_9_method_1_code 6 = .ok (.putfield 13, 3) := by decide +kernel
theorem zd_Terms_init_9 : decode prog_9_method_1_code 9 = .ok (.aload_n 0, 1) := by decide +kernel
theorem zd_Terms_init_10 : decode prog_9_method_1_code 10 = .ok (.aload_n 2, 1) := by decide +kernel
theorem zd_Terms_init_11 : decode prog_9_method_1_code 11 = .ok (.putfield 17, 3) := by decide +kernel
theorem zd_Terms_init_14 : decode prog_9_method_1_code 14 = .ok (.aload_n 0, 1) := by decide +kernel
theorem zd_Terms_init_15 : decode prog_9_method_1_code 15 = .ok (.sipush 480, 3) := by decide +kernel
theorem zd_Terms_init_18 : decode prog_9_method_1_code 18 = .ok (.newarray .int, 2) := by decide +kernel
theorem zd_Terms_init_20 : decode prog_9_method_1_code 20 = .ok (.putfield 21, 3) := by decide +kernel
theorem zd_Terms_init_23 : decode prog_9_method_1_code 23 = .ok (.aload_n 0, 1) := by decide +kernel
theorem zd_Terms_init_24 : decode prog_9_method_1_code 24 = .ok (.bipush 20, 2) := by decide +kernel
theorem zd_Terms_init_26 : decode prog_9_method_1_code 26 = .ok (.newarray .int, 2) := by decide +kernel
theorem zd_Terms_init_28 : decode prog_9_method_1_code 28 = .ok (.putfield 25, 3) := by decide +kernel
theorem zd_Terms_init_31 : decode prog_9_method_1_code 31 = .ok (.aload_n 0, 1) := by decide +kernel
theorem zd_Terms_init_32 : decode prog_9_method_1_code 32 = .ok (.bipush 13, 2) := by decide +kernel
theorem zd_Terms_init_34 : decode prog_9_method_1_code 34 = .ok (.newarray .int, 2) := by decide +kernel
theorem zd_Terms_init_36 : decode prog_9_method_1_code 36 = .ok (.putfield 28, 3) := by decide +kernel
theorem zd_Terms_init_39 : decode prog_9_method_1_code 39 = .ok (.return_, 1) := by decide +kernel
theorem zd_Text_init_0 : decode prog_10_method_1_code 0 = .ok (.aload_n 0, 1) := by decide +kernel
theorem zd_Text_init_1 : decode prog_10_method_1_code 1 = .ok (.invokespecial 3, 3) := by decide +kernel
theorem zd_Text_init_4 : decode prog_10_method_1_code 4 = .ok (.aload_n 0, 1) := by decide +kernel
theorem zd_Text_init_5 : decode prog_10_method_1_code 5 = .ok (.sipush 240, 3) := by decide +kernel
theorem zd_Text_init_8 : decode prog_10_method_1_code 8 = .ok (.newarray .char, 2) := by decide +kernel
theorem zd_Text_init_10 : decode prog_10_method_1_code 10 = .ok (.putfield 11, 3) := by decide +kernel
theorem zd_Text_init_13 : decode prog_10_method_1_code 13 = .ok (.aload_n 0, 1) := by decide +kernel
theorem zd_Text_init_14 : decode prog_10_method_1_code 14 = .ok (.iconst (-1), 1) := by decide +kernel
theorem zd_Text_init_15 : decode prog_10_method_1_code 15 = .ok (.putfield 15, 3) := by decide +kernel
theorem zd_Text_init_18 : decode prog_10_method_1_code 18 = .ok (.return_, 1) := by decide +kernel
theorem zd_Tree_init_0 : decode prog_11_method_1_code 0 = .ok (.aload_n 0, 1) := by decide +kernel
theorem zd_Tree_init_1 : decode prog_11_method_1_code 1 = .ok (.invokespecial 3, 3) := by decide +kernel
theorem zd_Tree_init_4 : decode prog_11_method_1_code 4 = .ok (.aload_n 0, 1) := by decide +kernel
theorem zd_Tree_init_5 : decode prog_11_method_1_code 5 = .ok (.sipush 240, 3) := by decide +kernel
theorem zd_Tree_init_8 : decode prog_11_method_1_code 8 = .ok (.newarray .int, 2) := by decide +kernel
theorem zd_Tree_init_10 : decode prog_11_method_1_code 10 = .ok (.putfield 11, 3) := by decide +kernel
theorem zd_Tree_init_13 : decode prog_11_method_1_code 13 = .ok (.aload_n 0, 1) := by decide +kernel
theorem zd_Tree_init_14 : decode prog_11_method_1_code 14 = .ok (.sipush 240, 3) := by decide +kernel
theorem zd_Tree_init_17 : decode prog_11_method_1_code 17 = .ok (.newarray .int, 2) := by decide +kernel
theorem zd_Tree_init_19 : decode prog_11_method_1_code 19 = .ok (.putfield 17, 3) := by decide +kernel
theorem zd_Tree_init_22 : decode prog_11_method_1_code 22 = .ok (.aload_n 0, 1) := by decide +kernel
theorem zd_Tree_init_23 : decode prog_11_method_1_code 23 = .ok (.sipush 240, 3) := by decide +kernel
theorem zd_Tree_init_26 : decode prog_11_method_1_code 26 = .ok (.newarray .int, 2) := by decide +kernel
theorem zd_Tree_init_28 : decode prog_11_method_1_code 28 = .ok (.putfield 20, 3) := by decide +kernel
theorem zd_Tree_init_31 : decode prog_11_method_1_code 31 = .ok (.aload_n 0, 1) := by decide +kernel
theorem zd_Tree_init_32 : decode prog_11_method_1_code 32 = .ok (.sipush 240, 3) := by decide +kernel
theorem zd_Tree_init_35 : decode prog_11_method_1_code 35 = .ok (.newarray .int, 2) := by decide +kernel
theorem zd_Tree_init_37 : decode prog_11_method_1_code 37 = .ok (.putfield 23, 3) := by decide +kernel
theorem zd_Tree_init_40 : decode prog_11_method_1_code 40 = .ok (.aload_n 0, 1) := by decide +kernel
theorem zd_Tree_init_41 : decode prog_11_method_1_code 41 = .ok (.sipush 240, 3) := by decide +kernel
theorem zd_Tree_init_44 : decode prog_11_method_1_code 44 = .ok (.newarray .boolean, 2) := by decide +kernel
theorem zd_Tree_init_46 : decode prog_11_method_1_code 46 = .ok (.putfield 26, 3) := by decide +kernel
theorem zd_Tree_init_49 : decode prog_11_method_1_code 49 = .ok (.aload_n 0, 1) := by decide +kernel
theorem zd_Tree_init_50 : decode prog_11_method_1_code 50 = .ok (.sipush 240, 3) := by decide +kernel
theorem zd_Tree_init_53 : decode prog_11_method_1_code 53 = .ok (.newarray .int, 2) := by decide +kernel
theorem zd_Tree_init_55 : decode prog_11_method_1_code 55 = .ok (.putfield 30, 3) := by decide +kernel
theorem zd_Tree_init_58 : decode prog_11_method_1_code 58 = .ok (.aload_n 0, 1) := by decide +kernel
theorem zd_Tree_init_59 : decode prog_11_method_1_code 59 = .ok (.sipush 240, 3) := by decide +kernel
theorem zd_Tree_init_62 : decode prog_11_method_1_code 62 = .ok (.newarray .int, 2) := by decide +kernel
theorem zd_Tree_init_64 : decode prog_11_method_1_code 64 = .ok (.putfield 33, 3) := by decide +kernel
theorem zd_Tree_init_67 : decode prog_11_method_1_code 67 = .ok (.aload_n 0, 1) := by decide +kernel
theorem zd_Tree_init_68 : decode prog_11_method_1_code 68 = .ok (.sipush 240, 3) := by decide +kernel
theorem zd_Tree_init_71 : decode prog_11_method_1_code 71 = .ok (.newarray .int, 2) := by decide +kernel
theorem zd_Tree_init_73 : decode prog_11_method_1_code 73 = .ok (.putfield 36, 3) := by decide +kernel
theorem zd_Tree_init_76 : decode prog_11_method_1_code 76 = .ok (.aload_n 0, 1) := by decide +kernel
theorem zd_Tree_init_77 : decode prog_11_method_1_code 77 = .ok (.sipush 240, 3) := by decide +kernel
theorem zd_Tree_init_80 : decode prog_11_method_1_code 80 = .ok (.newarray .int, 2) := by decide +kernel
theorem zd_Tree_init_82 : decode prog_11_method_1_code 82 = .ok (.putfield 39, 3) := by decide +kernel
theorem zd_Tree_init_85 : decode prog_11_method_1_code 85 = .ok (.aload_n 0, 1) := by decide +kernel
theorem zd_Tree_init_86 : decode prog_11_method_1_code 86 = .ok (.sipush 240, 3) := by decide +kernel
theorem zd_Tree_init_89 : decode prog_11_method_1_code 89 = .ok (.newarray .int, 2) := by decide +kernel
theorem zd_Tree_init_91 : decode prog_11_method_1_code 91 = .ok (.putfield 42, 3) := by decide +kernel
theorem zd_Tree_init_94 : decode prog_11_method_1_code 94 = .ok (.aload_n 0, 1) := by decide +kernel
theorem zd_Tree_init_95 : decode prog_11_method_1_code 95 = .ok (.bipush 8, 2) := by decide +kernel
theorem zd_Tree_init_97 : decode prog_11_method_1_code 97 = .ok (.newarray .int, 2) := by decide +kernel
theorem zd_Tree_init_99 : decode prog_11_method_1_code 99 = .ok (.putfield 47, 3) := by decide +kernel
theorem zd_Tree_init_102 : decode prog_11_method_1_code 102 = .ok (.return_, 1) := by decide +kernel
theorem zd_Truths_init_0 : decode prog_12_method_1_code 0 = .ok (.aload_n 0, 1) := by decide +kernel
theorem zd_Truths_init_1 : decode prog_12_method_1_code 1 = .ok (.invokespecial 1, 3) := by decide +kernel
theorem zd_Truths_init_4 : decode prog_12_method_1_code 4 = .ok (.aload_n 0, 1) := by decide +kernel
theorem zd_Truths_init_5 : decode prog_12_method_1_code 5 = .ok (.aload_n 1, 1) := by decide +kernel
theorem zd_Truths_init_6 : decode prog_12_method_1_code 6 = .ok (.putfield 7, 3) := by decide +kernel
theorem zd_Truths_init_9 : decode prog_12_method_1_code 9 = .ok (.aload_n 0, 1) := by decide +kernel
theorem zd_Truths_init_10 : decode prog_12_method_1_code 10 = .ok (.aload_n 2, 1) := by decide +kernel
theorem zd_Truths_init_11 : decode prog_12_method_1_code 11 = .ok (.putfield 13, 3) := by decide +kernel
theorem zd_Truths_init_14 : decode prog_12_method_1_code 14 = .ok (.aload_n 0, 1) := by decide +kernel
theorem zd_Truths_init_15 : decode prog_12_method_1_code 15 = .ok (.aload_n 3, 1) := by decide +kernel
theorem zd_Truths_init_16 : decode prog_12_method_1_code 16 = .ok (.putfield 17, 3) := by decide +kernel
theorem zd_Truths_init_19 : decode prog_12_method_1_code 19 = .ok (.aload_n 0, 1) := by decide +kernel
theorem zd_Truths_init_20 : decode prog_12_method_1_code 20 = .ok (.sipush 240, 3) := by decide +kernel
theorem zd_Truths_init_23 : decode prog_12_method_1_code 23 = .ok (.newarray .int, 2) := by decide +kernel
theorem zd_Truths_init_25 : decode prog_12_method_1_code 25 = .ok (.putfield 23, 3) := by decide +kernel
theorem zd_Truths_init_28 : decode prog_12_method_1_code 28 = .ok (.aload_n 0, 1) := by decide +kernel
theorem zd_Truths_init_29 : decode prog_12_method_1_code 29 = .ok (.sipush 768, 3) := by decide +kernel
theorem zd_Truths_init_32 : decode prog_12_method_1_code 32 = .ok (.newarray .int, 2) := by decide +kernel
theorem zd_Truths_init_34 : decode prog_12_method_1_code 34 = .ok (.putfield 29, 3) := by decide +kernel
theorem zd_Truths_init_37 : decode prog_12_method_1_code 37 = .ok (.aload_n 0, 1) := by decide +kernel
theorem zd_Truths_init_38 : decode prog_12_method_1_code 38 = .ok (.sipush 768, 3) := by decide +kernel
theorem zd_Truths_init_41 : decode prog_12_method_1_code 41 = .ok (.newarray .int, 2) := by decide +kernel
theorem zd_Truths_init_43 : decode prog_12_method_1_code 43 = .ok (.putfield 32, 3) := by decide +kernel
theorem zd_Truths_init_46 : decode prog_12_method_1_code 46 = .ok (.aload_n 0, 1) := by decide +kernel
theorem zd_Truths_init_47 : decode prog_12_method_1_code 47 = .ok (.sipush 768, 3) := by decide +kernel
theorem zd_Truths_init_50 : decode prog_12_method_1_code 50 = .ok (.newarray .boolean, 2) := by decide +kernel
theorem zd_Truths_init_52 : decode prog_12_method_1_code 52 = .ok (.putfield 35, 3) := by decide +kernel
theorem zd_Truths_init_55 : decode prog_12_method_1_code 55 = .ok (.return_, 1) := by decide +kernel
set_option maxHeartbeats 4000000 in
set_option maxRecDepth 100000 in
theorem c_Text_init (l : Launch) (G : va_G) (K : Nat → ClassId) (h0 : Nat) (sz : Nat) : Met l zy_Text_init (Cond.code zy_Text_init prog_10_method_1_code 1 none :: zTB) { frames := 1, cells := 1, slots := 240, locals := 12 } (va_Pc [.ref h0] (zPre G K [(h0, zO 9 [.null, .int 0, .int 0, .int 0, .int 0])] sz)) (va_Qv (fun _ : Nat → Nat => True) (fun u t => zPost G K (va_A [(h0, zO 9 [.null, .int 0, .int 0, .int 0, .int 0])] sz) [(h0, zO 9 [.ref (u 0), .int 0, .int 0, .int 0, .int (-1)]), ((u 0), zC K 240 (fun _ => 0))] t) (va_A [(h0, zO 9 [.null, .int 0, .int 0, .int 0, .int 0])] sz)) 1 240 (va_A [(h0, zO 9 [.null, .int 0, .int 0, .int 0, .int 0])] sz) := by
  refine zMet (Qf := fun A => va_Qv (fun _ : Nat → Nat => True) (fun u t => zPost G K A [(h0, zO 9 [.ref (u 0), .int 0, .int 0, .int 0, .int (-1)]), ((u 0), zC K 240 (fun _ => 0))] t) A) (by decide) (Nat.le_of_ble_eq_true rfl) ?_
  intro p e s m below meth c ls A hx hb hr hml hts hown hlocks hin hA hK H locs hw hsz hl
  clear hsz
  have hown : s.vm.findClass "LassoFinder$Text" = some m.cls := hown
  have hl : lv_has ls 1 [(0, .ref h0)] := hl
  have hw : zW G A s.heap [(h0, zO 9 [.null, .int 0, .int 0, .int 0, .int 0])] H locs := hw
  refine lv_aload_n hx hb zd_Text_init_0 rfl (lv_at hl 0 rfl) ?_
  refine z_objInit hx hb hts hown hml hl.1 zm_235 zm_236 zm_237 zd_Text_init_1 (Nat.le_of_ble_eq_true rfl) (Nat.le_of_ble_eq_true rfl) ?_
  refine lv_aload_n hx hb zd_Text_init_4 rfl (lv_at hl 0 rfl) ?_
  refine lv_sipush (v := 240) hx hb zd_Text_init_5 (by decide) ?_
  refine z_newC (N' := 240) hx hb (hts _ zm_241) hK hw hA (by decide) (by decide) (Nat.le_of_ble_eq_true rfl) (Nat.le_of_ble_eq_true rfl) (Nat.le_of_ble_eq_true rfl) zd_Text_init_8 (fun q8 H hw => ?_)
  refine z_putF hx hb hts hown hin hK hw zZ9 0 rfl 0 (by decide) zm_242 rfl rfl rfl rfl (Nat.le_of_ble_eq_true rfl) zd_Text_init_10 (fun H locs hw => ?_)
  refine lv_aload_n hx hb zd_Text_init_13 rfl (lv_at hl 0 rfl) ?_
  refine lv_iconst (v := (-1)) hx hb zd_Text_init_14 (by decide) ?_
  refine z_put hx hb hts hown hK hw zZ9 0 rfl 4 (by decide) zm_243 rfl rfl rfl (Nat.le_of_ble_eq_true rfl) zd_Text_init_15 (fun H locs hw => ?_)
  have hw : zW G A s.heap [(h0, zO 9 [.ref q8, .int 0, .int 0, .int 0, .int (-1)]), (q8, zC K 240 (fun _ => 0))] H locs := hw
  exact z_vret (u := (fun k => ([q8] : List Nat).getD k 0)) hx hb hr hlocks hw [0, 1] rfl (by decide) trivial (Nat.le_of_ble_eq_true rfl) (Nat.le_of_ble_eq_true rfl) zd_Text_init_18
set_option maxHeartbeats 4000000 in
set_option maxRecDepth 100000 in
theorem c_Names_init (l : Launch) (G : va_G) (K : Nat → ClassId) (h0 : Nat) (sz : Nat) : Met l zy_Names_init (Cond.code zy_Names_init prog_6_method_1_code 1 none :: zTB) { frames := 1, cells := 4, slots := 24, locals := 12 } (va_Pc [.ref h0] (zPre G K [(h0, zO 5 [.null, .null, .null, .null, .int 0, .int 0])] sz)) (va_Qv (fun _ : Nat → Nat => True) (fun u t => zPost G K (va_A [(h0, zO 5 [.null, .null, .null, .null, .int 0, .int 0])] sz) [(h0, zO 5 [.ref (u 0), .ref (u 1), .ref (u 2), .ref (u 3), .int 0, .int 0]), ((u 0), zI K 8 (fun _ => 0)), ((u 1), zI K 8 (fun _ => 0)), ((u 2), zI K 6 (fun _ => 0)), ((u 3), zI K 2 (fun _ => 0))] t) (va_A [(h0, zO 5 [.null, .null, .null, .null, .int 0, .int 0])] sz)) 4 24 (va_A [(h0, zO 5 [.null, .null, .null, .null, .int 0, .int 0])] sz) := by
  refine zMet (Qf := fun A => va_Qv (fun _ : Nat → Nat => True) (fun u t => zPost G K A [(h0, zO 5 [.ref (u 0), .ref (u 1), .ref (u 2), .ref (u 3), .int 0, .int 0]), ((u 0), zI K 8 (fun _ => 0)), ((u 1), zI K 8 (fun _ => 0)), ((u 2), zI K 6 (fun _ => 0)), ((u 3), zI K 2 (fun _ => 0))] t) A) (by decide) (Nat.le_of_ble_eq_true rfl) ?_
  intro p e s m below meth c ls A hx hb hr hml hts hown hlocks hin hA hK H locs hw hsz hl
  clear hsz
  have hown : s.vm.findClass "LassoFinder$Names" = some m.cls := hown
  have hl : lv_has ls 1 [(0, .ref h0)] := hl
  have hw : zW G A s.heap [(h0, zO 5 [.null, .null, .null, .null, .int 0, .int 0])] H locs := hw
  refine lv_aload_n hx hb zd_Names_init_0 rfl (lv_at hl 0 rfl) ?_
  refine z_objInit hx hb hts hown hml hl.1 zm_244 zm_236 zm_237 zd_Names_init_1 (Nat.le_of_ble_eq_true rfl) (Nat.le_of_ble_eq_true rfl) ?_
  refine lv_aload_n hx hb zd_Names_init_4 rfl (lv_at hl 0 rfl) ?_
  refine lv_bipush (v := 8) hx hb zd_Names_init_5 (by decide) ?_
  refine z_newI (N' := 8) hx hb (hts _ zm_238) hK hw hA (by decide) (by decide) (Nat.le_of_ble_eq_true rfl) (Nat.le_of_ble_eq_true rfl) (Nat.le_of_ble_eq_true rfl) zd_Names_init_7 (fun q7 H hw => ?_)
  refine z_putF hx hb hts hown hin hK hw zZ5 0 rfl 0 (by decide) zm_245 rfl rfl rfl rfl (Nat.le_of_ble_eq_true rfl) zd_Names_init_9 (fun H locs hw => ?_)
  refine lv_aload_n hx hb zd_Names_init_12 rfl (lv_at hl 0 rfl) ?_
  refine lv_bipush (v := 8) hx hb zd_Names_init_13 (by decide) ?_
  refine z_newI (N' := 8) hx hb (hts _ zm_238) hK hw hA (by decide) (by decide) (Nat.le_of_ble_eq_true rfl) (Nat.le_of_ble_eq_true rfl) (Nat.le_of_ble_eq_true rfl) zd_Names_init_15 (fun q15 H hw => ?_)
  have hw : zW G A s.heap [(h0, zO 5 [.ref q7, .null, .null, .null, .int 0, .int 0]), (q7, zI K 8 (fun _ => 0)), (q15, zI K 8 (fun _ => 0))] H locs := hw
  refine z_putF hx hb hts hown hin hK hw zZ5 0 rfl 1 (by decide) zm_246 rfl rfl rfl rfl (Nat.le_of_ble_eq_true rfl) zd_Names_init_17 (fun H locs hw => ?_)
  refine lv_aload_n hx hb zd_Names_init_20 rfl (lv_at hl 0 rfl) ?_
  refine lv_bipush (v := 6) hx hb zd_Names_init_21 (by decide) ?_
  refine z_newI (N' := 6) hx hb (hts _ zm_238) hK hw hA (by decide) (by decide) (Nat.le_of_ble_eq_true rfl) (Nat.le_of_ble_eq_true rfl) (Nat.le_of_ble_eq_true rfl) zd_Names_init_23 (fun q23 H hw => ?_)
  refine z_putF hx hb hts hown hin hK hw zZ5 0 rfl 2 (by decide) zm_247 rfl rfl rfl rfl (Nat.le_of_ble_eq_true rfl) zd_Names_init_25 (fun H locs hw => ?_)
  have hw : zW G A s.heap [(h0, zO 5 [.ref q7, .ref q15, .ref q23, .null, .int 0, .int 0]), (q7, zI K 8 (fun _ => 0)), (q15, zI K 8 (fun _ => 0)), (q23, zI K 6 (fun _ => 0))] H locs := hw
  refine lv_aload_n hx hb zd_Names_init_28 rfl (lv_at hl 0 rfl) ?_
  refine lv_iconst (v := 2) hx hb zd_Names_init_29 (by decide) ?_
  refine z_newI (N' := 2) hx hb (hts _ zm_238) hK hw hA (by decide) (by decide) (Nat.le_of_ble_eq_true rfl) (Nat.le_of_ble_eq_true rfl) (Nat.le_of_ble_eq_true rfl) zd_Names_init_30 (fun q30 H hw => ?_)
  refine z_putF hx hb hts hown hin hK hw zZ5 0 rfl 3 (by decide) zm_248 rfl rfl rfl rfl (Nat.le_of_ble_eq_true rfl) zd_Names_init_32 (fun H locs hw => ?_)
  exact z_vret (u := (fun k => ([q7, q15, q23, q30] : List Nat).getD k 0)) hx hb hr hlocks hw [0, 1, 2, 3, 4] rfl (by decide) trivial (Nat.le_of_ble_eq_true rfl) (Nat.le_of_ble_eq_true rfl) zd_Names_init_35
set_option maxHeartbeats 4000000 in
set_option maxRecDepth 100000 in
theorem c_Program_init (l : Launch) (G : va_G) (K : Nat → ClassId) (h0 : Nat) (sz : Nat) : Met l zy_Program_init (Cond.code zy_Program_init prog_7_method_1_code 1 none :: zTB) { frames := 1, cells := 11, slots := 504, locals := 12 } (va_Pc [.ref h0] (zPre G K [(h0, zO 6 [.null, .null, .null, .null, .null, .null, .null, .null, .null, .null, .null, .long 0, .int 0, .int 0])] sz)) (va_Qv (fun _ : Nat → Nat => True) (fun u t => zPost G K (va_A [(h0, zO 6 [.null, .null, .null, .null, .null, .null, .null, .null, .null, .null, .null, .long 0, .int 0, .int 0])] sz) [(h0, zO 6 [.ref (u 0), .ref (u 1), .ref (u 2), .ref (u 3), .ref (u 4), .ref (u 5), .ref (u 6), .ref (u 7), .ref (u 8), .ref (u 9), .ref (u 10), .long 0, .int 0, .int 0]), ((u 0), zI K 48 (fun _ => 0)), ((u 1), zI K 48 (fun _ => 0)), ((u 2), zI K 48 (fun _ => 0)), ((u 3), zI K 48 (fun _ => 0)), ((u 4), zI K 48 (fun _ => 0)), ((u 5), zI K 48 (fun _ => 0)), ((u 6), zZ K 48 (fun _ => 0)), ((u 7), zJ K 8 (fun _ => 0)), ((u 8), zI K 4 (fun _ => 0)), ((u 9), zI K 32 (fun _ => 0)), ((u 10), zJ K 124 (fun _ => 0))] t) (va_A [(h0, zO 6 [.null, .null, .null, .null, .null, .null, .null, .null, .null, .null, .null, .long 0, .int 0, .int 0])] sz)) 11 504 (va_A [(h0, zO 6 [.null, .null, .null, .null, .null, .null, .null, .null, .null, .null, .null, .long 0, .int 0, .int 0])] sz) := by
  refine zMet (Qf := fun A => va_Qv (fun _ : Nat → Nat => True) (fun u t => zPost G K A [(h0, zO 6 [.ref (u 0), .ref (u 1), .ref (u 2), .ref (u 3), .ref (u 4), .ref (u 5), .ref (u 6), .ref (u 7), .ref (u 8), .ref (u 9), .ref (u 10), .long 0, .int 0, .int 0]), ((u 0), zI K 48 (fun _ => 0)), ((u 1), zI K 48 (fun _ => 0)), ((u 2), zI K 48 (fun _ => 0)), ((u 3), zI K 48 (fun _ => 0)), ((u 4), zI K 48 (fun _ => 0)), ((u 5), zI K 48 (fun _ => 0)), ((u 6), zZ K 48 (fun _ => 0)), ((u 7), zJ K 8 (fun _ => 0)), ((u 8), zI K 4 (fun _ => 0)), ((u 9), zI K 32 (fun _ => 0)), ((u 10), zJ K 124 (fun _ => 0))] t) A) (by decide) (Nat.le_of_ble_eq_true rfl) ?_
  intro p e s m below meth c ls A hx hb hr hml hts hown hlocks hin hA hK H locs hw hsz hl
  clear hsz
  have hown : s.vm.findClass "LassoFinder$Program" = some m.cls := hown
  have hl : lv_has ls 1 [(0, .ref h0)] := hl
  have hw : zW G A s.heap [(h0, zO 6 [.null, .null, .null, .null, .null, .null, .null, .null, .null, .null, .null, .long 0, .int 0, .int 0])] H locs := hw
  refine lv_aload_n hx hb zd_Program_init_0 rfl (lv_at hl 0 rfl) ?_
  refine z_objInit hx hb hts hown hml hl.1 zm_249 zm_236 zm_237 zd_Program_init_1 (Nat.le_of_ble_eq_true rfl) (Nat.le_of_ble_eq_true rfl) ?_
  refine lv_aload_n hx hb zd_Program_init_4 rfl (lv_at hl 0 rfl) ?_
  refine lv_bipush (v := 48) hx hb zd_Program_init_5 (by decide) ?_
  refine z_newI (N' := 48) hx hb (hts _ zm_238) hK hw hA (by decide) (by decide) (Nat.le_of_ble_eq_true rfl) (Nat.le_of_ble_eq_true rfl) (Nat.le_of_ble_eq_true rfl) zd_Program_init_7 (fun q7 H hw => ?_)
  refine z_putF hx hb hts hown hin hK hw zZ6 0 rfl 0 (by decide) zm_250 rfl rfl rfl rfl (Nat.le_of_ble_eq_true rfl) zd_Program_init_9 (fun H locs hw => ?_)
  refine lv_aload_n hx hb zd_Program_init_12 rfl (lv_at hl 0 rfl) ?_
  refine lv_bipush (v := 48) hx hb zd_Program_init_13 (by decide) ?_
  refine z_newI (N' := 48) hx hb (hts _ zm_238) hK hw hA (by decide) (by decide) (Nat.le_of_ble_eq_true rfl) (Nat.le_of_ble_eq_true rfl) (Nat.le_of_ble_eq_true rfl) zd_Program_init_15 (fun q15 H hw => ?_)
  have hw : zW G A s.heap [(h0, zO 6 [.ref q7, .null, .null, .null, .null, .null, .null, .null, .null, .null, .null, .long 0, .int 0, .int 0]), (q7, zI K 48 (fun _ => 0)), (q15, zI K 48 (fun _ => 0))] H locs := hw
  refine z_putF hx hb hts hown hin hK hw zZ6 0 rfl 1 (by decide) zm_251 rfl rfl rfl rfl (Nat.le_of_ble_eq_true rfl) zd_Program_init_17 (fun H locs hw => ?_)
  refine lv_aload_n hx hb zd_Program_init_20 rfl (lv_at hl 0 rfl) ?_
  refine lv_bipush (v := 48) hx hb zd_Program_init_21 (by decide) ?_
  refine z_newI (N' := 48) hx hb (hts _ zm_238) hK hw hA (by decide) (by decide) (Nat.le_of_ble_eq_true rfl) (Nat.le_of_ble_eq_true rfl) (Nat.le_of_ble_eq_true rfl) zd_Program_init_23 (fun q23 H hw => ?_)
  refine z_putF hx hb hts hown hin hK hw zZ6 0 rfl 2 (by decide) zm_252 rfl rfl rfl rfl (Nat.le_of_ble_eq_true rfl) zd_Program_init_25 (fun H locs hw => ?_)
  have hw : zW G A s.heap [(h0, zO 6 [.ref q7, .ref q15, .ref q23, .null, .null, .null, .null, .null, .null, .null, .null, .long 0, .int 0, .int 0]), (q7, zI K 48 (fun _ => 0)), (q15, zI K 48 (fun _ => 0)), (q23, zI K 48 (fun _ => 0))] H locs := hw
  refine lv_aload_n hx hb zd_Program_init_28 rfl (lv_at hl 0 rfl) ?_
  refine lv_bipush (v := 48) hx hb zd_Program_init_29 (by decide) ?_
  refine z_newI (N' := 48) hx hb (hts _ zm_238) hK hw hA (by decide) (by decide) (Nat.le_of_ble_eq_true rfl) (Nat.le_of_ble_eq_true rfl) (Nat.le_of_ble_eq_true rfl) zd_Program_init_31 (fun q31 H hw => ?_)
  refine z_putF hx hb hts hown hin hK hw zZ6 0 rfl 3 (by decide) zm_253 rfl rfl rfl rfl (Nat.le_of_ble_eq_true rfl) zd_Program_init_33 (fun H locs hw => ?_)
  refine lv_aload_n hx hb zd_Program_init_36 rfl (lv_at hl 0 rfl) ?_
  refine lv_bipush (v := 48) hx hb zd_Program_init_37 (by decide) ?_
  refine z_newI (N' := 48) hx hb (hts _ zm_238) hK hw hA (by decide) (by decide) (Nat.le_of_ble_eq_true rfl) (Nat.le_of_ble_eq_true rfl) (Nat.le_of_ble_eq_true rfl) zd_Program_init_39 (fun q39 H hw => ?_)
  have hw : zW G A s.heap [(h0, zO 6 [.ref q7, .ref q15, .ref q23, .ref q31, .null, .null, .null, .null, .null, .null, .null, .long 0, .int 0, .int 0]), (q7, zI K 48 (fun _ => 0)), (q15, zI K 48 (fun _ => 0)), (q23, zI K 48 (fun _ => 0)), (q31, zI K 48 (fun _ => 0)), (q39, zI K 48 (fun _ => 0))] H locs := hw
  refine z_putF hx hb hts hown hin hK hw zZ6 0 rfl 4 (by decide) zm_254 rfl rfl rfl rfl (Nat.le_of_ble_eq_true rfl) zd_Program_init_41 (fun H locs hw => ?_)
  refine lv_aload_n hx hb zd_Program_init_44 rfl (lv_at hl 0 rfl) ?_
  refine lv_bipush (v := 48) hx hb zd_Program_init_45 (by decide) ?_
  refine z_newI (N' := 48) hx hb (hts _ zm_238) hK hw hA (by decide) (by decide) (Nat.le_of_ble_eq_true rfl) (Nat.le_of_ble_eq_true rfl) (Nat.le_of_ble_eq_true rfl) zd_Program_init_47 (fun q47 H hw => ?_)
  refine z_putF hx hb hts hown hin hK hw zZ6 0 rfl 5 (by decide) zm_255 rfl rfl rfl rfl (Nat.le_of_ble_eq_true rfl) zd_Program_init_49 (fun H locs hw => ?_)
  have hw : zW G A s.heap [(h0, zO 6 [.ref q7, .ref q15, .ref q23, .ref q31, .ref q39, .ref q47, .null, .null, .null, .null, .null, .long 0, .int 0, .int 0]), (q7, zI K 48 (fun _ => 0)), (q15, zI K 48 (fun _ => 0)), (q23, zI K 48 (fun _ => 0)), (q31, zI K 48 (fun _ => 0)), (q39, zI K 48 (fun _ => 0)), (q47, zI K 48 (fun _ => 0))] H locs := hw
  refine lv_aload_n hx hb zd_Program_init_52 rfl (lv_at hl 0 rfl) ?_
  refine lv_bipush (v := 48) hx hb zd_Program_init_53 (by decide) ?_
  refine z_newZ (N' := 48) hx hb (hts _ zm_240) hK hw hA (by decide) (by decide) (Nat.le_of_ble_eq_true rfl) (Nat.le_of_ble_eq_true rfl) (Nat.le_of_ble_eq_true rfl) zd_Program_init_55 (fun q55 H hw => ?_)
  refine z_putF hx hb hts hown hin hK hw zZ6 0 rfl 6 (by decide) zm_256 rfl rfl rfl rfl (Nat.le_of_ble_eq_true rfl) zd_Program_init_57 (fun H locs hw => ?_)
  refine lv_aload_n hx hb zd_Program_init_60 rfl (lv_at hl 0 rfl) ?_
  refine lv_bipush (v := 8) hx hb zd_Program_init_61 (by decide) ?_
  refine z_newJ (N' := 8) hx hb (hts _ zm_239) hK hw hA (by decide) (by decide) (Nat.le_of_ble_eq_true rfl) (Nat.le_of_ble_eq_true rfl) (Nat.le_of_ble_eq_true rfl) zd_Program_init_63 (fun q63 H hw => ?_)
  have hw : zW G A s.heap [(h0, zO 6 [.ref q7, .ref q15, .ref q23, .ref q31, .ref q39, .ref q47, .ref q55, .null, .null, .null, .null, .long 0, .int 0, .int 0]), (q7, zI K 48 (fun _ => 0)), (q15, zI K 48 (fun _ => 0)), (q23, zI K 48 (fun _ => 0)), (q31, zI K 48 (fun _ => 0)), (q39, zI K 48 (fun _ => 0)), (q47, zI K 48 (fun _ => 0)), (q55, zZ K 48 (fun _ => 0)), (q63, zJ K 8 (fun _ => 0))] H locs := hw
  refine z_putF hx hb hts hown hin hK hw zZ6 0 rfl 7 (by decide) zm_257 rfl rfl rfl rfl (Nat.le_of_ble_eq_true rfl) zd_Program_init_65 (fun H locs hw => ?_)
  refine lv_aload_n hx hb zd_Program_init_68 rfl (lv_at hl 0 rfl) ?_
  refine lv_iconst (v := 4) hx hb zd_Program_init_69 (by decide) ?_
  refine z_newI (N' := 4) hx hb (hts _ zm_238) hK hw hA (by decide) (by decide) (Nat.le_of_ble_eq_true rfl) (Nat.le_of_ble_eq_true rfl) (Nat.le_of_ble_eq_true rfl) zd_Program_init_70 (fun q70 H hw => ?_)
  refine z_putF hx hb hts hown hin hK hw zZ6 0 rfl 8 (by decide) zm_258 rfl rfl rfl rfl (Nat.le_of_ble_eq_true rfl) zd_Program_init_72 (fun H locs hw => ?_)
  have hw : zW G A s.heap [(h0, zO 6 [.ref q7, .ref q15, .ref q23, .ref q31, .ref q39, .ref q47, .ref q55, .ref q63, .ref q70, .null, .null, .long 0, .int 0, .int 0]), (q7, zI K 48 (fun _ => 0)), (q15, zI K 48 (fun _ => 0)), (q23, zI K 48 (fun _ => 0)), (q31, zI K 48 (fun _ => 0)), (q39, zI K 48 (fun _ => 0)), (q47, zI K 48 (fun _ => 0)), (q55, zZ K 48 (fun _ => 0)), (q63, zJ K 8 (fun _ => 0)), (q70, zI K 4 (fun _ => 0))] H locs := hw
  refine lv_aload_n hx hb zd_Program_init_75 rfl (lv_at hl 0 rfl) ?_
  refine lv_bipush (v := 32) hx hb zd_Program_init_76 (by decide) ?_
  refine z_newI (N' := 32) hx hb (hts _ zm_238) hK hw hA (by decide) (by decide) (Nat.le_of_ble_eq_true rfl) (Nat.le_of_ble_eq_true rfl) (Nat.le_of_ble_eq_true rfl) zd_Program_init_78 (fun q78 H hw => ?_)
  refine z_putF hx hb hts hown hin hK hw zZ6 0 rfl 9 (by decide) zm_259 rfl rfl rfl rfl (Nat.le_of_ble_eq_true rfl) zd_Program_init_80 (fun H locs hw => ?_)
  refine lv_aload_n hx hb zd_Program_init_83 rfl (lv_at hl 0 rfl) ?_
  refine lv_bipush (v := 124) hx hb zd_Program_init_84 (by decide) ?_
  refine z_newJ (N' := 124) hx hb (hts _ zm_239) hK hw hA (by decide) (by decide) (Nat.le_of_ble_eq_true rfl) (Nat.le_of_ble_eq_true rfl) (Nat.le_of_ble_eq_true rfl) zd_Program_init_86 (fun q86 H hw => ?_)
  have hw : zW G A s.heap [(h0, zO 6 [.ref q7, .ref q15, .ref q23, .ref q31, .ref q39, .ref q47, .ref q55, .ref q63, .ref q70, .ref q78, .null, .long 0, .int 0, .int 0]), (q7, zI K 48 (fun _ => 0)), (q15, zI K 48 (fun _ => 0)), (q23, zI K 48 (fun _ => 0)), (q31, zI K 48 (fun _ => 0)), (q39, zI K 48 (fun _ => 0)), (q47, zI K 48 (fun _ => 0)), (q55, zZ K 48 (fun _ => 0)), (q63, zJ K 8 (fun _ => 0)), (q70, zI K 4 (fun _ => 0)), (q78, zI K 32 (fun _ => 0)), (q86, zJ K 124 (fun _ => 0))] H locs := hw
  refine z_putF hx hb hts hown hin hK hw zZ6 0 rfl 10 (by decide) zm_260 rfl rfl rfl rfl (Nat.le_of_ble_eq_true rfl) zd_Program_init_88 (fun H locs hw => ?_)
  exact z_vret (u := (fun k => ([q7, q15, q23, q31, q39, q47, q55, q63, q70, q78, q86] : List Nat).getD k 0)) hx hb hr hlocks hw [0, 1, 2, 3, 4, 5, 6, 7, 8, 9, 10, 11] rfl (by decide) trivial (Nat.le_of_ble_eq_true rfl) (Nat.le_of_ble_eq_true rfl) zd_Program_init_91
set_option maxHeartbeats 4000000 in
set_option maxRecDepth 100000 in
theorem c_Terms_init (l : Launch) (G : va_G) (K : Nat → ClassId) (h0 : Nat) (a1 : Nat) (a2 : Nat) (sz : Nat) : Met l zy_Terms_init (Cond.code zy_Terms_init prog_9_method_1_code 3 none :: zTB) { frames := 1, cells := 3, slots := 513, locals := 12 } (va_Pc [.ref h0, .ref a1, .ref a2] (zPre G K [(h0, zO 8 [.null, .null, .null, .int 0, .null, .int 0, .null, .int 0, .int 0, .int 0])] sz)) (va_Qv (fun _ : Nat → Nat => True) (fun u t => zPost G K (va_A [(h0, zO 8 [.null, .null, .null, .int 0, .null, .int 0, .null, .int 0, .int 0, .int 0])] sz) [(h0, zO 8 [.ref a1, .ref a2, .ref (u 0), .int 0, .ref (u 1), .int 0, .ref (u 2), .int 0, .int 0, .int 0]), ((u 0), zI K 480 (fun _ => 0)), ((u 1), zI K 20 (fun _ => 0)), ((u 2), zI K 13 (fun _ => 0))] t) (va_A [(h0, zO 8 [.null, .null, .null, .int 0, .null, .int 0, .null, .int 0, .int 0, .int 0])] sz)) 3 513 (va_A [(h0, zO 8 [.null, .null, .null, .int 0, .null, .int 0, .null, .int 0, .int 0, .int 0])] sz) := by
  refine zMet (Qf := fun A => va_Qv (fun _ : Nat → Nat => True) (fun u t => zPost G K A [(h0, zO 8 [.ref a1, .ref a2, .ref (u 0), .int 0, .ref (u 1), .int 0, .ref (u 2), .int 0, .int 0, .int 0]), ((u 0), zI K 480 (fun _ => 0)), ((u 1), zI K 20 (fun _ => 0)), ((u 2), zI K 13 (fun _ => 0))] t) A) (by decide) (Nat.le_of_ble_eq_true rfl) ?_
  intro p e s m below meth c ls A hx hb hr hml hts hown hlocks hin hA hK H locs hw hsz hl
  clear hsz
  have hown : s.vm.findClass "LassoFinder$Terms" = some m.cls := hown
  have hl : lv_has ls 3 [(0, .ref h0), (1, .ref a1), (2, .ref a2)] := hl
  have hw : zW G A s.heap [(h0, zO 8 [.null, .null, .null, .int 0, .null, .int 0, .null, .int 0, .int 0, .int 0])] H locs := hw
  refine lv_aload_n hx hb zd_Terms_init_0 rfl (lv_at hl 0 rfl) ?_
  refine z_objInit hx hb hts hown hml hl.1 zm_261 zm_236 zm_237 zd_Terms_init_1 (Nat.le_of_ble_eq_true rfl) (Nat.le_of_ble_eq_true rfl) ?_
  refine lv_aload_n hx hb zd_Terms_init_4 rfl (lv_at hl 0 rfl) ?_
  refine lv_aload_n hx hb zd_Terms_init_5 rfl (lv_at hl 1 rfl) ?_
  refine z_putF hx hb hts hown hin hK hw zZ8 0 rfl 0 (by decide) zm_262 rfl rfl rfl rfl (Nat.le_of_ble_eq_true rfl) zd_Terms_init_6 (fun H locs hw => ?_)
  refine lv_aload_n hx hb zd_Terms_init_9 rfl (lv_at hl 0 rfl) ?_
  refine lv_aload_n hx hb zd_Terms_init_10 rfl (lv_at hl 2 rfl) ?_
  refine z_putF hx hb hts hown hin hK hw zZ8 0 rfl 1 (by decide) zm_263 rfl rfl rfl rfl (Nat.le_of_ble_eq_true rfl) zd_Terms_init_11 (fun H locs hw => ?_)
  refine lv_aload_n hx hb zd_Terms_init_14 rfl (lv_at hl 0 rfl) ?_
  refine lv_sipush (v := 480) hx hb zd_Terms_init_15 (by decide) ?_
  refine z_newI (N' := 480) hx hb (hts _ zm_238) hK hw hA (by decide) (by decide) (Nat.le_of_ble_eq_true rfl) (Nat.le_of_ble_eq_true rfl) (Nat.le_of_ble_eq_true rfl) zd_Terms_init_18 (fun q18 H hw => ?_)
  have hw : zW G A s.heap [(h0, zO 8 [.ref a1, .ref a2, .null, .int 0, .null, .int 0, .null, .int 0, .int 0, .int 0]), (q18, zI K 480 (fun _ => 0))] H locs := hw
  refine z_putF hx hb hts hown hin hK hw zZ8 0 rfl 2 (by decide) zm_264 rfl rfl rfl rfl (Nat.le_of_ble_eq_true rfl) zd_Terms_init_20 (fun H locs hw => ?_)
  refine lv_aload_n hx hb zd_Terms_init_23 rfl (lv_at hl 0 rfl) ?_
  refine lv_bipush (v := 20) hx hb zd_Terms_init_24 (by decide) ?_
  refine z_newI (N' := 20) hx hb (hts _ zm_238) hK hw hA (by decide) (by decide) (Nat.le_of_ble_eq_true rfl) (Nat.le_of_ble_eq_true rfl) (Nat.le_of_ble_eq_true rfl) zd_Terms_init_26 (fun q26 H hw => ?_)
  refine z_putF hx hb hts hown hin hK hw zZ8 0 rfl 4 (by decide) zm_265 rfl rfl rfl rfl (Nat.le_of_ble_eq_true rfl) zd_Terms_init_28 (fun H locs hw => ?_)
  have hw : zW G A s.heap [(h0, zO 8 [.ref a1, .ref a2, .ref q18, .int 0, .ref q26, .int 0, .null, .int 0, .int 0, .int 0]), (q18, zI K 480 (fun _ => 0)), (q26, zI K 20 (fun _ => 0))] H locs := hw
  refine lv_aload_n hx hb zd_Terms_init_31 rfl (lv_at hl 0 rfl) ?_
  refine lv_bipush (v := 13) hx hb zd_Terms_init_32 (by decide) ?_
  refine z_newI (N' := 13) hx hb (hts _ zm_238) hK hw hA (by decide) (by decide) (Nat.le_of_ble_eq_true rfl) (Nat.le_of_ble_eq_true rfl) (Nat.le_of_ble_eq_true rfl) zd_Terms_init_34 (fun q34 H hw => ?_)
  refine z_putF hx hb hts hown hin hK hw zZ8 0 rfl 6 (by decide) zm_266 rfl rfl rfl rfl (Nat.le_of_ble_eq_true rfl) zd_Terms_init_36 (fun H locs hw => ?_)
  exact z_vret (u := (fun k => ([q18, q26, q34] : List Nat).getD k 0)) hx hb hr hlocks hw [0, 1, 2, 3] rfl (by decide) trivial (Nat.le_of_ble_eq_true rfl) (Nat.le_of_ble_eq_true rfl) zd_Terms_init_39
set_option maxHeartbeats 4000000 in
set_option maxRecDepth 100000 in
theorem c_Tree_init (l : Launch) (G : va_G) (K : Nat → ClassId) (h0 : Nat) (sz : Nat) : Met l zy_Tree_init (Cond.code zy_Tree_init prog_11_method_1_code 1 none :: zTB) { frames := 1, cells := 11, slots := 2408, locals := 12 } (va_Pc [.ref h0] (zPre G K [(h0, zO 10 [.null, .null, .null, .null, .null, .null, .null, .null, .null, .null, .null, .int 0, .int 0])] sz)) (va_Qv (fun _ : Nat → Nat => True) (fun u t => zPost G K (va_A [(h0, zO 10 [.null, .null, .null, .null, .null, .null, .null, .null, .null, .null, .null, .int 0, .int 0])] sz) [(h0, zO 10 [.ref (u 0), .ref (u 1), .ref (u 2), .ref (u 3), .ref (u 4), .ref (u 5), .ref (u 6), .ref (u 7), .ref (u 8), .ref (u 9), .ref (u 10), .int 0, .int 0]), ((u 0), zI K 240 (fun _ => 0)), ((u 1), zI K 240 (fun _ => 0)), ((u 2), zI K 240 (fun _ => 0)), ((u 3), zI K 240 (fun _ => 0)), ((u 4), zZ K 240 (fun _ => 0)), ((u 5), zI K 240 (fun _ => 0)), ((u 6), zI K 240 (fun _ => 0)), ((u 7), zI K 240 (fun _ => 0)), ((u 8), zI K 240 (fun _ => 0)), ((u 9), zI K 240 (fun _ => 0)), ((u 10), zI K 8 (fun _ => 0))] t) (va_A [(h0, zO 10 [.null, .null, .null, .null, .null, .null, .null, .null, .null, .null, .null, .int 0, .int 0])] sz)) 11 2408 (va_A [(h0, zO 10 [.null, .null, .null, .null, .null, .null, .null, .null, .null, .null, .null, .int 0, .int 0])] sz) := by
  refine zMet (Qf := fun A => va_Qv (fun _ : Nat → Nat => True) (fun u t => zPost G K A [(h0, zO 10 [.ref (u 0), .ref (u 1), .ref (u 2), .ref (u 3), .ref (u 4), .ref (u 5), .ref (u 6), .ref (u 7), .ref (u 8), .ref (u 9), .ref (u 10), .int 0, .int 0]), ((u 0), zI K 240 (fun _ => 0)), ((u 1), zI K 240 (fun _ => 0)), ((u 2), zI K 240 (fun _ => 0)), ((u 3), zI K 240 (fun _ => 0)), ((u 4), zZ K 240 (fun _ => 0)), ((u 5), zI K 240 (fun _ => 0)), ((u 6), zI K 240 (fun _ => 0)), ((u 7), zI K 240 (fun _ => 0)), ((u 8), zI K 240 (fun _ => 0)), ((u 9), zI K 240 (fun _ => 0)), ((u 10), zI K 8 (fun _ => 0))] t) A) (by decide) (Nat.le_of_ble_eq_true rfl) ?_
  intro p e s m below meth c ls A hx hb hr hml hts hown hlocks hin hA hK H locs hw hsz hl
  clear hsz
  have hown : s.vm.findClass "LassoFinder$Tree" = some m.cls := hown
  have hl : lv_has ls 1 [(0, .ref h0)] := hl
  have hw : zW G A s.heap [(h0, zO 10 [.null, .null, .null, .null, .null, .null, .null, .null, .null, .null, .null, .int 0, .int 0])] H locs := hw
  refine lv_aload_n hx hb zd_Tree_init_0 rfl (lv_at hl 0 rfl) ?_
  refine z_objInit hx hb hts hown hml hl.1 zm_267 zm_236 zm_237 zd_Tree_init_1 (Nat.le_of_ble_eq_true rfl) (Nat.le_of_ble_eq_true rfl) ?_
  refine lv_aload_n hx hb zd_Tree_init_4 rfl (lv_at hl 0 rfl) ?_
  refine lv_sipush (v := 240) hx hb zd_Tree_init_5 (by decide) ?_
  refine z_newI (N' := 240) hx hb (hts _ zm_238) hK hw hA (by decide) (by decide) (Nat.le_of_ble_eq_true rfl) (Nat.le_of_ble_eq_true rfl) (Nat.le_of_ble_eq_true rfl) zd_Tree_init_8 (fun q8 H hw => ?_)
  refine z_putF hx hb hts hown hin hK hw zZ10 0 rfl 0 (by decide) zm_268 rfl rfl rfl rfl (Nat.le_of_ble_eq_true rfl) zd_Tree_init_10 (fun H locs hw => ?_)
  refine lv_aload_n hx hb zd_Tree_init_13 rfl (lv_at hl 0 rfl) ?_
  refine lv_sipush (v := 240) hx hb zd_Tree_init_14 (by decide) ?_
  refine z_newI (N' := 240) hx hb (hts _ zm_238) hK hw hA (by decide) (by decide) (Nat.le_of_ble_eq_true rfl) (Nat.le_of_ble_eq_true rfl) (Nat.le_of_ble_eq_true rfl) zd_Tree_init_17 (fun q17 H hw => ?_)
  have hw : zW G A s.heap [(h0, zO 10 [.ref q8, .null, .null, .null, .null, .null, .null, .null, .null, .null, .null, .int 0, .int 0]), (q8, zI K 240 (fun _ => 0)), (q17, zI K 240 (fun _ => 0))] H locs := hw
  refine z_putF hx hb hts hown hin hK hw zZ10 0 rfl 1 (by decide) zm_269 rfl rfl rfl rfl (Nat.le_of_ble_eq_true rfl) zd_Tree_init_19 (fun H locs hw => ?_)
  refine lv_aload_n hx hb zd_Tree_init_22 rfl (lv_at hl 0 rfl) ?_
  refine lv_sipush (v := 240) hx hb zd_Tree_init_23 (by decide) ?_
  refine z_newI (N' := 240) hx hb (hts _ zm_238) hK hw hA (by decide) (by decide) (Nat.le_of_ble_eq_true rfl) (Nat.le_of_ble_eq_true rfl) (Nat.le_of_ble_eq_true rfl) zd_Tree_init_26 (fun q26 H hw => ?_)
  refine z_putF hx hb hts hown hin hK hw zZ10 0 rfl 2 (by decide) zm_270 rfl rfl rfl rfl (Nat.le_of_ble_eq_true rfl) zd_Tree_init_28 (fun H locs hw => ?_)
  have hw : zW G A s.heap [(h0, zO 10 [.ref q8, .ref q17, .ref q26, .null, .null, .null, .null, .null, .null, .null, .null, .int 0, .int 0]), (q8, zI K 240 (fun _ => 0)), (q17, zI K 240 (fun _ => 0)), (q26, zI K 240 (fun _ => 0))] H locs := hw
  refine lv_aload_n hx hb zd_Tree_init_31 rfl (lv_at hl 0 rfl) ?_
  refine lv_sipush (v := 240) hx hb zd_Tree_init_32 (by decide) ?_
  refine z_newI (N' := 240) hx hb (hts _ zm_238) hK hw hA (by decide) (by decide) (Nat.le_of_ble_eq_true rfl) (Nat.le_of_ble_eq_true rfl) (Nat.le_of_ble_eq_true rfl) zd_Tree_init_35 (fun q35 H hw => ?_)
  refine z_putF hx hb hts hown hin hK hw zZ10 0 rfl 3 (by decide) zm_271 rfl rfl rfl rfl (Nat.le_of_ble_eq_true rfl) zd_Tree_init_37 (fun H locs hw => ?_)
  refine lv_aload_n hx hb zd_Tree_init_40 rfl (lv_at hl 0 rfl) ?_
  refine lv_sipush (v := 240) hx hb zd_Tree_init_41 (by decide) ?_
  refine z_newZ (N' := 240) hx hb (hts _ zm_240) hK hw hA (by decide) (by decide) (Nat.le_of_ble_eq_true rfl) (Nat.le_of_ble_eq_true rfl) (Nat.le_of_ble_eq_true rfl) zd_Tree_init_44 (fun q44 H hw => ?_)
  have hw : zW G A s.heap [(h0, zO 10 [.ref q8, .ref q17, .ref q26, .ref q35, .null, .null, .null, .null, .null, .null, .null, .int 0, .int 0]), (q8, zI K 240 (fun _ => 0)), (q17, zI K 240 (fun _ => 0)), (q26, zI K 240 (fun _ => 0)), (q35, zI K 240 (fun _ => 0)), (q44, zZ K 240 (fun _ => 0))] H locs := hw
  refine z_putF hx hb hts hown hin hK hw zZ10 0 rfl 4 (by decide) zm_272 rfl rfl rfl rfl (Nat.le_of_ble_eq_true rfl) zd_Tree_init_46 (fun H locs hw => ?_)
  refine lv_aload_n hx hb zd_Tree_init_49 rfl (lv_at hl 0 rfl) ?_
  refine lv_sipush (v := 240) hx hb zd_Tree_init_50 (by decide) ?_
  refine z_newI (N' := 240) hx hb (hts _ zm_238) hK hw hA (by decide) (by decide) (Nat.le_of_ble_eq_true rfl) (Nat.le_of_ble_eq_true rfl) (Nat.le_of_ble_eq_true rfl) zd_Tree_init_53 (fun q53 H hw => ?_)
  refine z_putF hx hb hts hown hin hK hw zZ10 0 rfl 5 (by decide) zm_273 rfl rfl rfl rfl (Nat.le_of_ble_eq_true rfl) zd_Tree_init_55 (fun H locs hw => ?_)
  have hw : zW G A s.heap [(h0, zO 10 [.ref q8, .ref q17, .ref q26, .ref q35, .ref q44, .ref q53, .null, .null, .null, .null, .null, .int 0, .int 0]), (q8, zI K 240 (fun _ => 0)), (q17, zI K 240 (fun _ => 0)), (q26, zI K 240 (fun _ => 0)), (q35, zI K 240 (fun _ => 0)), (q44, zZ K 240 (fun _ => 0)), (q53, zI K 240 (fun _ => 0))] H locs := hw
  refine lv_aload_n hx hb zd_Tree_init_58 rfl (lv_at hl 0 rfl) ?_
  refine lv_sipush (v := 240) hx hb zd_Tree_init_59 (by decide) ?_
  refine z_newI (N' := 240) hx hb (hts _ zm_238) hK hw hA (by decide) (by decide) (Nat.le_of_ble_eq_true rfl) (Nat.le_of_ble_eq_true rfl) (Nat.le_of_ble_eq_true rfl) zd_Tree_init_62 (fun q62 H hw => ?_)
  refine z_putF hx hb hts hown hin hK hw zZ10 0 rfl 6 (by decide) zm_274 rfl rfl rfl rfl (Nat.le_of_ble_eq_true rfl) zd_Tree_init_64 (fun H locs hw => ?_)
  refine lv_aload_n hx hb zd_Tree_init_67 rfl (lv_at hl 0 rfl) ?_
  refine lv_sipush (v := 240) hx hb zd_Tree_init_68 (by decide) ?_
  refine z_newI (N' := 240) hx hb (hts _ zm_238) hK hw hA (by decide) (by decide) (Nat.le_of_ble_eq_true rfl) (Nat.le_of_ble_eq_true rfl) (Nat.le_of_ble_eq_true rfl) zd_Tree_init_71 (fun q71 H hw => ?_)
  have hw : zW G A s.heap [(h0, zO 10 [.ref q8, .ref q17, .ref q26, .ref q35, .ref q44, .ref q53, .ref q62, .null, .null, .null, .null, .int 0, .int 0]), (q8, zI K 240 (fun _ => 0)), (q17, zI K 240 (fun _ => 0)), (q26, zI K 240 (fun _ => 0)), (q35, zI K 240 (fun _ => 0)), (q44, zZ K 240 (fun _ => 0)), (q53, zI K 240 (fun _ => 0)), (q62, zI K 240 (fun _ => 0)), (q71, zI K 240 (fun _ => 0))] H locs := hw
  refine z_putF hx hb hts hown hin hK hw zZ10 0 rfl 7 (by decide) zm_275 rfl rfl rfl rfl (Nat.le_of_ble_eq_true rfl) zd_Tree_init_73 (fun H locs hw => ?_)
  refine lv_aload_n hx hb zd_Tree_init_76 rfl (lv_at hl 0 rfl) ?_
  refine lv_sipush (v := 240) hx hb zd_Tree_init_77 (by decide) ?_
  refine z_newI (N' := 240) hx hb (hts _ zm_238) hK hw hA (by decide) (by decide) (Nat.le_of_ble_eq_true rfl) (Nat.le_of_ble_eq_true rfl) (Nat.le_of_ble_eq_true rfl) zd_Tree_init_80 (fun q80 H hw => ?_)
  refine z_putF hx hb hts hown hin hK hw zZ10 0 rfl 8 (by decide) zm_276 rfl rfl rfl rfl (Nat.le_of_ble_eq_true rfl) zd_Tree_init_82 (fun H locs hw => ?_)
  have hw : zW G A s.heap [(h0, zO 10 [.ref q8, .ref q17, .ref q26, .ref q35, .ref q44, .ref q53, .ref q62, .ref q71, .ref q80, .null, .null, .int 0, .int 0]), (q8, zI K 240 (fun _ => 0)), (q17, zI K 240 (fun _ => 0)), (q26, zI K 240 (fun _ => 0)), (q35, zI K 240 (fun _ => 0)), (q44, zZ K 240 (fun _ => 0)), (q53, zI K 240 (fun _ => 0)), (q62, zI K 240 (fun _ => 0)), (q71, zI K 240 (fun _ => 0)), (q80, zI K 240 (fun _ => 0))] H locs := hw
  refine lv_aload_n hx hb zd_Tree_init_85 rfl (lv_at hl 0 rfl) ?_
  refine lv_sipush (v := 240) hx hb zd_Tree_init_86 (by decide) ?_
  refine z_newI (N' := 240) hx hb (hts _ zm_238) hK hw hA (by decide) (by decide) (Nat.le_of_ble_eq_true rfl) (Nat.le_of_ble_eq_true rfl) (Nat.le_of_ble_eq_true rfl) zd_Tree_init_89 (fun q89 H hw => ?_)
  refine z_putF hx hb hts hown hin hK hw zZ10 0 rfl 9 (by decide) zm_277 rfl rfl rfl rfl (Nat.le_of_ble_eq_true rfl) zd_Tree_init_91 (fun H locs hw => ?_)
  refine lv_aload_n hx hb zd_Tree_init_94 rfl (lv_at hl 0 rfl) ?_
  refine lv_bipush (v := 8) hx hb zd_Tree_init_95 (by decide) ?_
  refine z_newI (N' := 8) hx hb (hts _ zm_238) hK hw hA (by decide) (by decide) (Nat.le_of_ble_eq_true rfl) (Nat.le_of_ble_eq_true rfl) (Nat.le_of_ble_eq_true rfl) zd_Tree_init_97 (fun q97 H hw => ?_)
  have hw : zW G A s.heap [(h0, zO 10 [.ref q8, .ref q17, .ref q26, .ref q35, .ref q44, .ref q53, .ref q62, .ref q71, .ref q80, .ref q89, .null, .int 0, .int 0]), (q8, zI K 240 (fun _ => 0)), (q17, zI K 240 (fun _ => 0)), (q26, zI K 240 (fun _ => 0)), (q35, zI K 240 (fun _ => 0)), (q44, zZ K 240 (fun _ => 0)), (q53, zI K 240 (fun _ => 0)), (q62, zI K 240 (fun _ => 0)), (q71, zI K 240 (fun _ => 0)), (q80, zI K 240 (fun _ => 0)), (q89, zI K 240 (fun _ => 0)), (q97, zI K 8 (fun _ => 0))] H locs := hw
  refine z_putF hx hb hts hown hin hK hw zZ10 0 rfl 10 (by decide) zm_278 rfl rfl rfl rfl (Nat.le_of_ble_eq_true rfl) zd_Tree_init_99 (fun H locs hw => ?_)
  exact z_vret (u := (fun k => ([q8, q17, q26, q35, q44, q53, q62, q71, q80, q89, q97] : List Nat).getD k 0)) hx hb hr hlocks hw [0, 1, 2, 3, 4, 5, 6, 7, 8, 9, 10, 11] rfl (by decide) trivial (Nat.le_of_ble_eq_true rfl) (Nat.le_of_ble_eq_true rfl) zd_Tree_init_102
set_option maxHeartbeats 4000000 in
set_option maxRecDepth 100000 in
theorem c_ModelReader_init (l : Launch) (G : va_G) (K : Nat → ClassId) (h0 : Nat) (a1 : Nat) (a2 : Nat) (a3 : Nat) (a4 : Nat) (sz : Nat) : Met l zy_ModelReader_init (Cond.code zy_ModelReader_init prog_5_method_1_code 5 none :: zTB) { frames := 2, cells := 12, slots := 2421, locals := 32 } (va_Pc [.ref h0, .ref a1, .ref a2, .ref a3, .ref a4] (zPre G K [(h0, zO 4 [.null, .null, .null, .null, .null])] sz)) (va_Qv (fun _ : Nat → Nat => True) (fun u t => zPost G K (va_A [(h0, zO 4 [.null, .null, .null, .null, .null])] sz) [(h0, zO 4 [.ref a1, .ref a2, .ref a3, .ref a4, .ref (u 0)]), ((u 0), zO 10 [.ref (u 1), .ref (u 2), .ref (u 3), .ref (u 4), .ref (u 5), .ref (u 6), .ref (u 7), .ref (u 8), .ref (u 9), .ref (u 10), .ref (u 11), .int 0, .int 0]), ((u 1), zI K 240 (fun _ => 0)), ((u 2), zI K 240 (fun _ => 0)), ((u 3), zI K 240 (fun _ => 0)), ((u 4), zI K 240 (fun _ => 0)), ((u 5), zZ K 240 (fun _ => 0)), ((u 6), zI K 240 (fun _ => 0)), ((u 7), zI K 240 (fun _ => 0)), ((u 8), zI K 240 (fun _ => 0)), ((u 9), zI K 240 (fun _ => 0)), ((u 10), zI K 240 (fun _ => 0)), ((u 11), zI K 8 (fun _ => 0))] t) (va_A [(h0, zO 4 [.null, .null, .null, .null, .null])] sz)) 12 2421 (va_A [(h0, zO 4 [.null, .null, .null, .null, .null])] sz) := by
  refine zMet (Qf := fun A => va_Qv (fun _ : Nat → Nat => True) (fun u t => zPost G K A [(h0, zO 4 [.ref a1, .ref a2, .ref a3, .ref a4, .ref (u 0)]), ((u 0), zO 10 [.ref (u 1), .ref (u 2), .ref (u 3), .ref (u 4), .ref (u 5), .ref (u 6), .ref (u 7), .ref (u 8), .ref (u 9), .ref (u 10), .ref (u 11), .int 0, .int 0]), ((u 1), zI K 240 (fun _ => 0)), ((u 2), zI K 240 (fun _ => 0)), ((u 3), zI K 240 (fun _ => 0)), ((u 4), zI K 240 (fun _ => 0)), ((u 5), zZ K 240 (fun _ => 0)), ((u 6), zI K 240 (fun _ => 0)), ((u 7), zI K 240 (fun _ => 0)), ((u 8), zI K 240 (fun _ => 0)), ((u 9), zI K 240 (fun _ => 0)), ((u 10), zI K 240 (fun _ => 0)), ((u 11), zI K 8 (fun _ => 0))] t) A) (by decide) (Nat.le_of_ble_eq_true rfl) ?_
  intro p e s m below meth c ls A hx hb hr hml hts hown hlocks hin hA hK H locs hw hsz hl
  clear hsz
  have hown : s.vm.findClass "LassoFinder$ModelReader" = some m.cls := hown
  have hl : lv_has ls 5 [(0, .ref h0), (1, .ref a1), (2, .ref a2), (3, .ref a3), (4, .ref a4)] := hl
  have hw : zW G A s.heap [(h0, zO 4 [.null, .null, .null, .null, .null])] H locs := hw
  refine lv_aload_n hx hb zd_ModelReader_init_0 rfl (lv_at hl 0 rfl) ?_
  refine z_objInit hx hb hts hown hml hl.1 zm_279 zm_236 zm_237 zd_ModelReader_init_1 (Nat.le_of_ble_eq_true rfl) (Nat.le_of_ble_eq_true rfl) ?_
  refine lv_aload_n hx hb zd_ModelReader_init_4 rfl (lv_at hl 0 rfl) ?_
  refine lv_aload_n hx hb zd_ModelReader_init_5 rfl (lv_at hl 1 rfl) ?_
  refine z_putF hx hb hts hown hin hK hw zZ4 0 rfl 0 (by decide) zm_280 rfl rfl rfl rfl (Nat.le_of_ble_eq_true rfl) zd_ModelReader_init_6 (fun H locs hw => ?_)
  refine lv_aload_n hx hb zd_ModelReader_init_9 rfl (lv_at hl 0 rfl) ?_
  refine lv_aload_n hx hb zd_ModelReader_init_10 rfl (lv_at hl 2 rfl) ?_
  refine z_putF hx hb hts hown hin hK hw zZ4 0 rfl 1 (by decide) zm_281 rfl rfl rfl rfl (Nat.le_of_ble_eq_true rfl) zd_ModelReader_init_11 (fun H locs hw => ?_)
  refine lv_aload_n hx hb zd_ModelReader_init_14 rfl (lv_at hl 0 rfl) ?_
  refine lv_aload_n hx hb zd_ModelReader_init_15 rfl (lv_at hl 3 rfl) ?_
  refine z_putF hx hb hts hown hin hK hw zZ4 0 rfl 2 (by decide) zm_282 rfl rfl rfl rfl (Nat.le_of_ble_eq_true rfl) zd_ModelReader_init_16 (fun H locs hw => ?_)
  have hw : zW G A s.heap [(h0, zO 4 [.ref a1, .ref a2, .ref a3, .null, .null])] H locs := hw
  refine lv_aload_n hx hb zd_ModelReader_init_19 rfl (lv_at hl 0 rfl) ?_
  refine lv_aload hx hb zd_ModelReader_init_20 (lv_at hl 4 rfl) ?_
  refine z_putF hx hb hts hown hin hK hw zZ4 0 rfl 3 (by decide) zm_283 rfl rfl rfl rfl (Nat.le_of_ble_eq_true rfl) zd_ModelReader_init_22 (fun H locs hw => ?_)
  refine lv_aload_n hx hb zd_ModelReader_init_25 rfl (lv_at hl 0 rfl) ?_
  refine z_new (fs := [.null, .null, .null, .null, .null, .null, .null, .null, .null, .null, .null, .int 0, .int 0]) hx hb hts hown hK hw hA zZ10 zm_284 zm_20 zm_21 zD10 (Nat.le_of_ble_eq_true rfl) (Nat.le_of_ble_eq_true rfl) zd_ModelReader_init_26 (fun q26 H hw => ?_)
  refine lv_dup hx hb zd_ModelReader_init_29 rfl ?_
  have hw : zW G A s.heap [(h0, zO 4 [.ref a1, .ref a2, .ref a3, .ref a4, .null]), (q26, zO 10 [.null, .null, .null, .null, .null, .null, .null, .null, .null, .null, .null, .int 0, .int 0])] H locs := hw
  refine z_callv (w1 := fun u30 => [(q26, zO 10 [.ref (u30 0), .ref (u30 1), .ref (u30 2), .ref (u30 3), .ref (u30 4), .ref (u30 5), .ref (u30 6), .ref (u30 7), .ref (u30 8), .ref (u30 9), .ref (u30 10), .int 0, .int 0]), ((u30 0), zI K 240 (fun _ => 0)), ((u30 1), zI K 240 (fun _ => 0)), ((u30 2), zI K 240 (fun _ => 0)), ((u30 3), zI K 240 (fun _ => 0)), ((u30 4), zZ K 240 (fun _ => 0)), ((u30 5), zI K 240 (fun _ => 0)), ((u30 6), zI K 240 (fun _ => 0)), ((u30 7), zI K 240 (fun _ => 0)), ((u30 8), zI K 240 (fun _ => 0)), ((u30 9), zI K 240 (fun _ => 0)), ((u30 10), zI K 8 (fun _ => 0))]) (wr := [(h0, zO 4 [.ref a1, .ref a2, .ref a3, .ref a4, .null])]) (z_runI (wc := [(q26, zO 10 [.null, .null, .null, .null, .null, .null, .null, .null, .null, .null, .null, .int 0, .int 0])]) (As := []) (rest := [.ref q26, .ref h0]) ⟨hx, hb, hml, hown, hts⟩ (c_Tree_init l G K q26 H.size ) zf_Tree_init zm_285 ⟨Nat.le_of_ble_eq_true rfl, Nat.le_of_ble_eq_true rfl⟩ hK hw [1] rfl (by decide) rfl hl.1 rfl (Nat.le_of_ble_eq_true rfl) zd_ModelReader_init_30 ⟨Nat.le_of_ble_eq_true rfl, Nat.le_of_ble_eq_true rfl⟩) hw hA [1] [0] rfl rfl (by decide) (by decide) (fun u30 H locs hu hw => ?_)
  have hw : zW G A s.heap [(h0, zO 4 [.ref a1, .ref a2, .ref a3, .ref a4, .null]), (q26, zO 10 [.ref (u30 0), .ref (u30 1), .ref (u30 2), .ref (u30 3), .ref (u30 4), .ref (u30 5), .ref (u30 6), .ref (u30 7), .ref (u30 8), .ref (u30 9), .ref (u30 10), .int 0, .int 0]), ((u30 0), zI K 240 (fun _ => 0)), ((u30 1), zI K 240 (fun _ => 0)), ((u30 2), zI K 240 (fun _ => 0)), ((u30 3), zI K 240 (fun _ => 0)), ((u30 4), zZ K 240 (fun _ => 0)), ((u30 5), zI K 240 (fun _ => 0)), ((u30 6), zI K 240 (fun _ => 0)), ((u30 7), zI K 240 (fun _ => 0)), ((u30 8), zI K 240 (fun _ => 0)), ((u30 9), zI K 240 (fun _ => 0)), ((u30 10), zI K 8 (fun _ => 0))] H locs := hw
  refine z_putF hx hb hts hown hin hK hw zZ4 0 rfl 4 (by decide) zm_286 rfl rfl rfl rfl (Nat.le_of_ble_eq_true rfl) zd_ModelReader_init_33 (fun H locs hw => ?_)
  exact z_vret (u := (fun k => ([q26, (u30 0), (u30 1), (u30 2), (u30 3), (u30 4), (u30 5), (u30 6), (u30 7), (u30 8), (u30 9), (u30 10)] : List Nat).getD k 0)) hx hb hr hlocks hw [0, 1, 2, 3, 4, 5, 6, 7, 8, 9, 10, 11, 12] rfl (by decide) trivial (Nat.le_of_ble_eq_true rfl) (Nat.le_of_ble_eq_true rfl) zd_ModelReader_init_36
set_option maxHeartbeats 4000000 in
set_option maxRecDepth 100000 in
theorem c_Situation_init (l : Launch) (G : va_G) (K : Nat → ClassId) (h0 : Nat) (a1 : Nat) (a2 : Nat) (a3 : Nat) (sz : Nat) : Met l zy_Situation_init (Cond.code zy_Situation_init prog_8_method_1_code 4 none :: zTB) { frames := 1, cells := 3, slots := 36, locals := 12 } (va_Pc [.ref h0, .ref a1, .ref a2, .ref a3] (zPre G K [(h0, zO 7 [.null, .null, .null, .null, .null, .null, .int 0, .long 0])] sz)) (va_Qv (fun _ : Nat → Nat => True) (fun u t => zPost G K (va_A [(h0, zO 7 [.null, .null, .null, .null, .null, .null, .int 0, .long 0])] sz) [(h0, zO 7 [.ref a1, .ref a2, .ref a3, .ref (u 0), .ref (u 1), .ref (u 2), .int (-1), .long 0]), ((u 0), zI K 8 (fun _ => 0)), ((u 1), zI K 24 (fun _ => 0)), ((u 2), zI K 4 (fun _ => 0))] t) (va_A [(h0, zO 7 [.null, .null, .null, .null, .null, .null, .int 0, .long 0])] sz)) 3 36 (va_A [(h0, zO 7 [.null, .null, .null, .null, .null, .null, .int 0, .long 0])] sz) := by
  refine zMet (Qf := fun A => va_Qv (fun _ : Nat → Nat => True) (fun u t => zPost G K A [(h0, zO 7 [.ref a1, .ref a2, .ref a3, .ref (u 0), .ref (u 1), .ref (u 2), .int (-1), .long 0]), ((u 0), zI K 8 (fun _ => 0)), ((u 1), zI K 24 (fun _ => 0)), ((u 2), zI K 4 (fun _ => 0))] t) A) (by decide) (Nat.le_of_ble_eq_true rfl) ?_
  intro p e s m below meth c ls A hx hb hr hml hts hown hlocks hin hA hK H locs hw hsz hl
  clear hsz
  have hown : s.vm.findClass "LassoFinder$Situation" = some m.cls := hown
  have hl : lv_has ls 4 [(0, .ref h0), (1, .ref a1), (2, .ref a2), (3, .ref a3)] := hl
  have hw : zW G A s.heap [(h0, zO 7 [.null, .null, .null, .null, .null, .null, .int 0, .long 0])] H locs := hw
  refine lv_aload_n hx hb zd_Situation_init_0 rfl (lv_at hl 0 rfl) ?_
  refine z_objInit hx hb hts hown hml hl.1 zm_287 zm_236 zm_237 zd_Situation_init_1 (Nat.le_of_ble_eq_true rfl) (Nat.le_of_ble_eq_true rfl) ?_
  refine lv_aload_n hx hb zd_Situation_init_4 rfl (lv_at hl 0 rfl) ?_
  refine lv_aload_n hx hb zd_Situation_init_5 rfl (lv_at hl 1 rfl) ?_
  refine z_putF hx hb hts hown hin hK hw zZ7 0 rfl 0 (by decide) zm_288 rfl rfl rfl rfl (Nat.le_of_ble_eq_true rfl) zd_Situation_init_6 (fun H locs hw => ?_)
  refine lv_aload_n hx hb zd_Situation_init_9 rfl (lv_at hl 0 rfl) ?_
  refine lv_aload_n hx hb zd_Situation_init_10 rfl (lv_at hl 2 rfl) ?_
  refine z_putF hx hb hts hown hin hK hw zZ7 0 rfl 1 (by decide) zm_289 rfl rfl rfl rfl (Nat.le_of_ble_eq_true rfl) zd_Situation_init_11 (fun H locs hw => ?_)
  refine lv_aload_n hx hb zd_Situation_init_14 rfl (lv_at hl 0 rfl) ?_
  refine lv_aload_n hx hb zd_Situation_init_15 rfl (lv_at hl 3 rfl) ?_
  refine z_putF hx hb hts hown hin hK hw zZ7 0 rfl 2 (by decide) zm_290 rfl rfl rfl rfl (Nat.le_of_ble_eq_true rfl) zd_Situation_init_16 (fun H locs hw => ?_)
  have hw : zW G A s.heap [(h0, zO 7 [.ref a1, .ref a2, .ref a3, .null, .null, .null, .int 0, .long 0])] H locs := hw
  refine lv_aload_n hx hb zd_Situation_init_19 rfl (lv_at hl 0 rfl) ?_
  refine lv_bipush (v := 8) hx hb zd_Situation_init_20 (by decide) ?_
  refine z_newI (N' := 8) hx hb (hts _ zm_238) hK hw hA (by decide) (by decide) (Nat.le_of_ble_eq_true rfl) (Nat.le_of_ble_eq_true rfl) (Nat.le_of_ble_eq_true rfl) zd_Situation_init_22 (fun q22 H hw => ?_)
  refine z_putF hx hb hts hown hin hK hw zZ7 0 rfl 3 (by decide) zm_291 rfl rfl rfl rfl (Nat.le_of_ble_eq_true rfl) zd_Situation_init_24 (fun H locs hw => ?_)
  refine lv_aload_n hx hb zd_Situation_init_27 rfl (lv_at hl 0 rfl) ?_
  refine lv_bipush (v := 24) hx hb zd_Situation_init_28 (by decide) ?_
  refine z_newI (N' := 24) hx hb (hts _ zm_238) hK hw hA (by decide) (by decide) (Nat.le_of_ble_eq_true rfl) (Nat.le_of_ble_eq_true rfl) (Nat.le_of_ble_eq_true rfl) zd_Situation_init_30 (fun q30 H hw => ?_)
  have hw : zW G A s.heap [(h0, zO 7 [.ref a1, .ref a2, .ref a3, .ref q22, .null, .null, .int 0, .long 0]), (q22, zI K 8 (fun _ => 0)), (q30, zI K 24 (fun _ => 0))] H locs := hw
  refine z_putF hx hb hts hown hin hK hw zZ7 0 rfl 4 (by decide) zm_292 rfl rfl rfl rfl (Nat.le_of_ble_eq_true rfl) zd_Situation_init_32 (fun H locs hw => ?_)
  refine lv_aload_n hx hb zd_Situation_init_35 rfl (lv_at hl 0 rfl) ?_
  refine lv_iconst (v := 4) hx hb zd_Situation_init_36 (by decide) ?_
  refine z_newI (N' := 4) hx hb (hts _ zm_238) hK hw hA (by decide) (by decide) (Nat.le_of_ble_eq_true rfl) (Nat.le_of_ble_eq_true rfl) (Nat.le_of_ble_eq_true rfl) zd_Situation_init_37 (fun q37 H hw => ?_)
  refine z_putF hx hb hts hown hin hK hw zZ7 0 rfl 5 (by decide) zm_293 rfl rfl rfl rfl (Nat.le_of_ble_eq_true rfl) zd_Situation_init_39 (fun H locs hw => ?_)
  have hw : zW G A s.heap [(h0, zO 7 [.ref a1, .ref a2, .ref a3, .ref q22, .ref q30, .ref q37, .int 0, .long 0]), (q22, zI K 8 (fun _ => 0)), (q30, zI K 24 (fun _ => 0)), (q37, zI K 4 (fun _ => 0))] H locs := hw
  refine lv_aload_n hx hb zd_Situation_init_42 rfl (lv_at hl 0 rfl) ?_
  refine lv_iconst (v := (-1)) hx hb zd_Situation_init_43 (by decide) ?_
  refine z_put hx hb hts hown hK hw zZ7 0 rfl 6 (by decide) zm_294 rfl rfl rfl (Nat.le_of_ble_eq_true rfl) zd_Situation_init_44 (fun H locs hw => ?_)
  exact z_vret (u := (fun k => ([q22, q30, q37] : List Nat).getD k 0)) hx hb hr hlocks hw [0, 1, 2, 3] rfl (by decide) trivial (Nat.le_of_ble_eq_true rfl) (Nat.le_of_ble_eq_true rfl) zd_Situation_init_47
set_option maxHeartbeats 4000000 in
set_option maxRecDepth 100000 in
theorem c_Graph_init (l : Launch) (G : va_G) (K : Nat → ClassId) (h0 : Nat) (a1 : Nat) (sz : Nat) : Met l zy_Graph_init (Cond.code zy_Graph_init prog_3_method_1_code 2 none :: zTB) { frames := 1, cells := 8, slots := 2290, locals := 12 } (va_Pc [.ref h0, .ref a1] (zPre G K [(h0, zO 2 [.null, .null, .null, .null, .null, .null, .null, .null, .null, .int 0, .int 0])] sz)) (va_Qv (fun _ : Nat → Nat => True) (fun u t => zPost G K (va_A [(h0, zO 2 [.null, .null, .null, .null, .null, .null, .null, .null, .null, .int 0, .int 0])] sz) [(h0, zO 2 [.ref a1, .ref (u 0), .ref (u 1), .ref (u 2), .ref (u 3), .ref (u 4), .ref (u 5), .ref (u 6), .ref (u 7), .int 0, .int 0]), ((u 0), zJ K 96 (fun _ => 0)), ((u 1), zI K 97 (fun _ => 0)), ((u 2), zI K 400 (fun _ => 0)), ((u 3), zI K 400 (fun _ => 0)), ((u 4), zI K 400 (fun _ => 0)), ((u 5), zI K 400 (fun _ => 0)), ((u 6), zI K 97 (fun _ => 0)), ((u 7), zI K 400 (fun _ => 0))] t) (va_A [(h0, zO 2 [.null, .null, .null, .null, .null, .null, .null, .null, .null, .int 0, .int 0])] sz)) 8 2290 (va_A [(h0, zO 2 [.null, .null, .null, .null, .null, .null, .null, .null, .null, .int 0, .int 0])] sz) := by
  refine zMet (Qf := fun A => va_Qv (fun _ : Nat → Nat => True) (fun u t => zPost G K A [(h0, zO 2 [.ref a1, .ref (u 0), .ref (u 1), .ref (u 2), .ref (u 3), .ref (u 4), .ref (u 5), .ref (u 6), .ref (u 7), .int 0, .int 0]), ((u 0), zJ K 96 (fun _ => 0)), ((u 1), zI K 97 (fun _ => 0)), ((u 2), zI K 400 (fun _ => 0)), ((u 3), zI K 400 (fun _ => 0)), ((u 4), zI K 400 (fun _ => 0)), ((u 5), zI K 400 (fun _ => 0)), ((u 6), zI K 97 (fun _ => 0)), ((u 7), zI K 400 (fun _ => 0))] t) A) (by decide) (Nat.le_of_ble_eq_true rfl) ?_
  intro p e s m below meth c ls A hx hb hr hml hts hown hlocks hin hA hK H locs hw hsz hl
  clear hsz
  have hown : s.vm.findClass "LassoFinder$Graph" = some m.cls := hown
  have hl : lv_has ls 2 [(0, .ref h0), (1, .ref a1)] := hl
  have hw : zW G A s.heap [(h0, zO 2 [.null, .null, .null, .null, .null, .null, .null, .null, .null, .int 0, .int 0])] H locs := hw
  refine lv_aload_n hx hb zd_Graph_init_0 rfl (lv_at hl 0 rfl) ?_
  refine z_objInit hx hb hts hown hml hl.1 zm_295 zm_236 zm_237 zd_Graph_init_1 (Nat.le_of_ble_eq_true rfl) (Nat.le_of_ble_eq_true rfl) ?_
  refine lv_aload_n hx hb zd_Graph_init_4 rfl (lv_at hl 0 rfl) ?_
  refine lv_aload_n hx hb zd_Graph_init_5 rfl (lv_at hl 1 rfl) ?_
  refine z_putF hx hb hts hown hin hK hw zZ2 0 rfl 0 (by decide) zm_296 rfl rfl rfl rfl (Nat.le_of_ble_eq_true rfl) zd_Graph_init_6 (fun H locs hw => ?_)
  refine lv_aload_n hx hb zd_Graph_init_9 rfl (lv_at hl 0 rfl) ?_
  refine lv_bipush (v := 96) hx hb zd_Graph_init_10 (by decide) ?_
  refine z_newJ (N' := 96) hx hb (hts _ zm_239) hK hw hA (by decide) (by decide) (Nat.le_of_ble_eq_true rfl) (Nat.le_of_ble_eq_true rfl) (Nat.le_of_ble_eq_true rfl) zd_Graph_init_12 (fun q12 H hw => ?_)
  refine z_putF hx hb hts hown hin hK hw zZ2 0 rfl 1 (by decide) zm_297 rfl rfl rfl rfl (Nat.le_of_ble_eq_true rfl) zd_Graph_init_14 (fun H locs hw => ?_)
  have hw : zW G A s.heap [(h0, zO 2 [.ref a1, .ref q12, .null, .null, .null, .null, .null, .null, .null, .int 0, .int 0]), (q12, zJ K 96 (fun _ => 0))] H locs := hw
  refine lv_aload_n hx hb zd_Graph_init_17 rfl (lv_at hl 0 rfl) ?_
  refine lv_bipush (v := 97) hx hb zd_Graph_init_18 (by decide) ?_
  refine z_newI (N' := 97) hx hb (hts _ zm_238) hK hw hA (by decide) (by decide) (Nat.le_of_ble_eq_true rfl) (Nat.le_of_ble_eq_true rfl) (Nat.le_of_ble_eq_true rfl) zd_Graph_init_20 (fun q20 H hw => ?_)
  refine z_putF hx hb hts hown hin hK hw zZ2 0 rfl 2 (by decide) zm_298 rfl rfl rfl rfl (Nat.le_of_ble_eq_true rfl) zd_Graph_init_22 (fun H locs hw => ?_)
  refine lv_aload_n hx hb zd_Graph_init_25 rfl (lv_at hl 0 rfl) ?_
  refine lv_sipush (v := 400) hx hb zd_Graph_init_26 (by decide) ?_
  refine z_newI (N' := 400) hx hb (hts _ zm_238) hK hw hA (by decide) (by decide) (Nat.le_of_ble_eq_true rfl) (Nat.le_of_ble_eq_true rfl) (Nat.le_of_ble_eq_true rfl) zd_Graph_init_29 (fun q29 H hw => ?_)
  have hw : zW G A s.heap [(h0, zO 2 [.ref a1, .ref q12, .ref q20, .null, .null, .null, .null, .null, .null, .int 0, .int 0]), (q12, zJ K 96 (fun _ => 0)), (q20, zI K 97 (fun _ => 0)), (q29, zI K 400 (fun _ => 0))] H locs := hw
  refine z_putF hx hb hts hown hin hK hw zZ2 0 rfl 3 (by decide) zm_299 rfl rfl rfl rfl (Nat.le_of_ble_eq_true rfl) zd_Graph_init_31 (fun H locs hw => ?_)
  refine lv_aload_n hx hb zd_Graph_init_34 rfl (lv_at hl 0 rfl) ?_
  refine lv_sipush (v := 400) hx hb zd_Graph_init_35 (by decide) ?_
  refine z_newI (N' := 400) hx hb (hts _ zm_238) hK hw hA (by decide) (by decide) (Nat.le_of_ble_eq_true rfl) (Nat.le_of_ble_eq_true rfl) (Nat.le_of_ble_eq_true rfl) zd_Graph_init_38 (fun q38 H hw => ?_)
  refine z_putF hx hb hts hown hin hK hw zZ2 0 rfl 4 (by decide) zm_300 rfl rfl rfl rfl (Nat.le_of_ble_eq_true rfl) zd_Graph_init_40 (fun H locs hw => ?_)
  have hw : zW G A s.heap [(h0, zO 2 [.ref a1, .ref q12, .ref q20, .ref q29, .ref q38, .null, .null, .null, .null, .int 0, .int 0]), (q12, zJ K 96 (fun _ => 0)), (q20, zI K 97 (fun _ => 0)), (q29, zI K 400 (fun _ => 0)), (q38, zI K 400 (fun _ => 0))] H locs := hw
  refine lv_aload_n hx hb zd_Graph_init_43 rfl (lv_at hl 0 rfl) ?_
  refine lv_sipush (v := 400) hx hb zd_Graph_init_44 (by decide) ?_
  refine z_newI (N' := 400) hx hb (hts _ zm_238) hK hw hA (by decide) (by decide) (Nat.le_of_ble_eq_true rfl) (Nat.le_of_ble_eq_true rfl) (Nat.le_of_ble_eq_true rfl) zd_Graph_init_47 (fun q47 H hw => ?_)
  refine z_putF hx hb hts hown hin hK hw zZ2 0 rfl 5 (by decide) zm_301 rfl rfl rfl rfl (Nat.le_of_ble_eq_true rfl) zd_Graph_init_49 (fun H locs hw => ?_)
  refine lv_aload_n hx hb zd_Graph_init_52 rfl (lv_at hl 0 rfl) ?_
  refine lv_sipush (v := 400) hx hb zd_Graph_init_53 (by decide) ?_
  refine z_newI (N' := 400) hx hb (hts _ zm_238) hK hw hA (by decide) (by decide) (Nat.le_of_ble_eq_true rfl) (Nat.le_of_ble_eq_true rfl) (Nat.le_of_ble_eq_true rfl) zd_Graph_init_56 (fun q56 H hw => ?_)
  have hw : zW G A s.heap [(h0, zO 2 [.ref a1, .ref q12, .ref q20, .ref q29, .ref q38, .ref q47, .null, .null, .null, .int 0, .int 0]), (q12, zJ K 96 (fun _ => 0)), (q20, zI K 97 (fun _ => 0)), (q29, zI K 400 (fun _ => 0)), (q38, zI K 400 (fun _ => 0)), (q47, zI K 400 (fun _ => 0)), (q56, zI K 400 (fun _ => 0))] H locs := hw
  refine z_putF hx hb hts hown hin hK hw zZ2 0 rfl 6 (by decide) zm_302 rfl rfl rfl rfl (Nat.le_of_ble_eq_true rfl) zd_Graph_init_58 (fun H locs hw => ?_)
  refine lv_aload_n hx hb zd_Graph_init_61 rfl (lv_at hl 0 rfl) ?_
  refine lv_bipush (v := 97) hx hb zd_Graph_init_62 (by decide) ?_
  refine z_newI (N' := 97) hx hb (hts _ zm_238) hK hw hA (by decide) (by decide) (Nat.le_of_ble_eq_true rfl) (Nat.le_of_ble_eq_true rfl) (Nat.le_of_ble_eq_true rfl) zd_Graph_init_64 (fun q64 H hw => ?_)
  refine z_putF hx hb hts hown hin hK hw zZ2 0 rfl 7 (by decide) zm_303 rfl rfl rfl rfl (Nat.le_of_ble_eq_true rfl) zd_Graph_init_66 (fun H locs hw => ?_)
  have hw : zW G A s.heap [(h0, zO 2 [.ref a1, .ref q12, .ref q20, .ref q29, .ref q38, .ref q47, .ref q56, .ref q64, .null, .int 0, .int 0]), (q12, zJ K 96 (fun _ => 0)), (q20, zI K 97 (fun _ => 0)), (q29, zI K 400 (fun _ => 0)), (q38, zI K 400 (fun _ => 0)), (q47, zI K 400 (fun _ => 0)), (q56, zI K 400 (fun _ => 0)), (q64, zI K 97 (fun _ => 0))] H locs := hw
  refine lv_aload_n hx hb zd_Graph_init_69 rfl (lv_at hl 0 rfl) ?_
  refine lv_sipush (v := 400) hx hb zd_Graph_init_70 (by decide) ?_
  refine z_newI (N' := 400) hx hb (hts _ zm_238) hK hw hA (by decide) (by decide) (Nat.le_of_ble_eq_true rfl) (Nat.le_of_ble_eq_true rfl) (Nat.le_of_ble_eq_true rfl) zd_Graph_init_73 (fun q73 H hw => ?_)
  refine z_putF hx hb hts hown hin hK hw zZ2 0 rfl 8 (by decide) zm_304 rfl rfl rfl rfl (Nat.le_of_ble_eq_true rfl) zd_Graph_init_75 (fun H locs hw => ?_)
  exact z_vret (u := (fun k => ([q12, q20, q29, q38, q47, q56, q64, q73] : List Nat).getD k 0)) hx hb hr hlocks hw [0, 1, 2, 3, 4, 5, 6, 7, 8] rfl (by decide) trivial (Nat.le_of_ble_eq_true rfl) (Nat.le_of_ble_eq_true rfl) zd_Graph_init_78
set_option maxHeartbeats 4000000 in
set_option maxRecDepth 100000 in
theorem c_Formula_init (l : Launch) (G : va_G) (K : Nat → ClassId) (h0 : Nat) (a1 : Nat) (a2 : Nat) (a3 : Nat) (sz : Nat) : Met l zy_Formula_init (Cond.code zy_Formula_init prog_2_method_1_code 4 none :: zTB) { frames := 2, cells := 8, slots := 1246, locals := 34 } (va_Pc [.ref h0, .ref a1, .ref a2, .ref a3] (zPre G K [(h0, zO 1 [.null, .null, .null, .null, .null, .null, .null, .int 0, .int 0, .int 0, .int 0])] sz)) (va_Qv (fun _ : Nat → Nat => True) (fun u t => zPost G K (va_A [(h0, zO 1 [.null, .null, .null, .null, .null, .null, .null, .int 0, .int 0, .int 0, .int 0])] sz) [(h0, zO 1 [.ref a1, .ref a3, .ref (u 0), .ref (u 4), .ref (u 5), .ref (u 6), .ref (u 7), .int 0, .int 0, .int 0, .int 0]), ((u 0), zO 8 [.ref a1, .ref a2, .ref (u 1), .int 0, .ref (u 2), .int 0, .ref (u 3), .int 0, .int 0, .int 0]), ((u 1), zI K 480 (fun _ => 0)), ((u 2), zI K 20 (fun _ => 0)), ((u 3), zI K 13 (fun _ => 0)), ((u 4), zI K 240 (fun _ => 0)), ((u 5), zI K 240 (fun _ => 0)), ((u 6), zI K 240 (fun _ => 0)), ((u 7), zI K 3 (fun _ => 0))] t) (va_A [(h0, zO 1 [.null, .null, .null, .null, .null, .null, .null, .int 0, .int 0, .int 0, .int 0])] sz)) 8 1246 (va_A [(h0, zO 1 [.null, .null, .null, .null, .null, .null, .null, .int 0, .int 0, .int 0, .int 0])] sz) := by
  refine zMet (Qf := fun A => va_Qv (fun _ : Nat → Nat => True) (fun u t => zPost G K A [(h0, zO 1 [.ref a1, .ref a3, .ref (u 0), .ref (u 4), .ref (u 5), .ref (u 6), .ref (u 7), .int 0, .int 0, .int 0, .int 0]), ((u 0), zO 8 [.ref a1, .ref a2, .ref (u 1), .int 0, .ref (u 2), .int 0, .ref (u 3), .int 0, .int 0, .int 0]), ((u 1), zI K 480 (fun _ => 0)), ((u 2), zI K 20 (fun _ => 0)), ((u 3), zI K 13 (fun _ => 0)), ((u 4), zI K 240 (fun _ => 0)), ((u 5), zI K 240 (fun _ => 0)), ((u 6), zI K 240 (fun _ => 0)), ((u 7), zI K 3 (fun _ => 0))] t) A) (by decide) (Nat.le_of_ble_eq_true rfl) ?_
  intro p e s m below meth c ls A hx hb hr hml hts hown hlocks hin hA hK H locs hw hsz hl
  clear hsz
  have hown : s.vm.findClass "LassoFinder$Formula" = some m.cls := hown
  have hl : lv_has ls 4 [(0, .ref h0), (1, .ref a1), (2, .ref a2), (3, .ref a3)] := hl
  have hw : zW G A s.heap [(h0, zO 1 [.null, .null, .null, .null, .null, .null, .null, .int 0, .int 0, .int 0, .int 0])] H locs := hw
  refine lv_aload_n hx hb zd_Formula_init_0 rfl (lv_at hl 0 rfl) ?_
  refine z_objInit hx hb hts hown hml hl.1 zm_305 zm_236 zm_237 zd_Formula_init_1 (Nat.le_of_ble_eq_true rfl) (Nat.le_of_ble_eq_true rfl) ?_
  refine lv_aload_n hx hb zd_Formula_init_4 rfl (lv_at hl 0 rfl) ?_
  refine lv_aload_n hx hb zd_Formula_init_5 rfl (lv_at hl 1 rfl) ?_
  refine z_putF hx hb hts hown hin hK hw zZ1 0 rfl 0 (by decide) zm_306 rfl rfl rfl rfl (Nat.le_of_ble_eq_true rfl) zd_Formula_init_6 (fun H locs hw => ?_)
  refine lv_aload_n hx hb zd_Formula_init_9 rfl (lv_at hl 0 rfl) ?_
  refine lv_aload_n hx hb zd_Formula_init_10 rfl (lv_at hl 3 rfl) ?_
  refine z_putF hx hb hts hown hin hK hw zZ1 0 rfl 1 (by decide) zm_307 rfl rfl rfl rfl (Nat.le_of_ble_eq_true rfl) zd_Formula_init_11 (fun H locs hw => ?_)
  refine lv_aload_n hx hb zd_Formula_init_14 rfl (lv_at hl 0 rfl) ?_
  refine z_new (fs := [.null, .null, .null, .int 0, .null, .int 0, .null, .int 0, .int 0, .int 0]) hx hb hts hown hK hw hA zZ8 zm_308 zm_16 zm_17 zD8 (Nat.le_of_ble_eq_true rfl) (Nat.le_of_ble_eq_true rfl) zd_Formula_init_15 (fun q15 H hw => ?_)
  have hw : zW G A s.heap [(h0, zO 1 [.ref a1, .ref a3, .null, .null, .null, .null, .null, .int 0, .int 0, .int 0, .int 0]), (q15, zO 8 [.null, .null, .null, .int 0, .null, .int 0, .null, .int 0, .int 0, .int 0])] H locs := hw
  refine lv_dup hx hb zd_Formula_init_18 rfl ?_
  refine lv_aload_n hx hb zd_Formula_init_19 rfl (lv_at hl 1 rfl) ?_
  refine lv_aload_n hx hb zd_Formula_init_20 rfl (lv_at hl 2 rfl) ?_
  refine z_callv (w1 := fun u21 => [(q15, zO 8 [.ref a1, .ref a2, .ref (u21 0), .int 0, .ref (u21 1), .int 0, .ref (u21 2), .int 0, .int 0, .int 0]), ((u21 0), zI K 480 (fun _ => 0)), ((u21 1), zI K 20 (fun _ => 0)), ((u21 2), zI K 13 (fun _ => 0))]) (wr := [(h0, zO 1 [.ref a1, .ref a3, .null, .null, .null, .null, .null, .int 0, .int 0, .int 0, .int 0])]) (z_runI (wc := [(q15, zO 8 [.null, .null, .null, .int 0, .null, .int 0, .null, .int 0, .int 0, .int 0])]) (As := [.ref a1, .ref a2]) (rest := [.ref q15, .ref h0]) ⟨hx, hb, hml, hown, hts⟩ (c_Terms_init l G K q15 a1 a2 H.size ) zf_Terms_init zm_309 ⟨Nat.le_of_ble_eq_true rfl, Nat.le_of_ble_eq_true rfl⟩ hK hw [1] rfl (by decide) rfl hl.1 rfl (Nat.le_of_ble_eq_true rfl) zd_Formula_init_21 ⟨Nat.le_of_ble_eq_true rfl, Nat.le_of_ble_eq_true rfl⟩) hw hA [1] [0] rfl rfl (by decide) (by decide) (fun u21 H locs hu hw => ?_)
  have hw : zW G A s.heap [(h0, zO 1 [.ref a1, .ref a3, .null, .null, .null, .null, .null, .int 0, .int 0, .int 0, .int 0]), (q15, zO 8 [.ref a1, .ref a2, .ref (u21 0), .int 0, .ref (u21 1), .int 0, .ref (u21 2), .int 0, .int 0, .int 0]), ((u21 0), zI K 480 (fun _ => 0)), ((u21 1), zI K 20 (fun _ => 0)), ((u21 2), zI K 13 (fun _ => 0))] H locs := hw
  refine z_putF hx hb hts hown hin hK hw zZ1 0 rfl 2 (by decide) zm_310 rfl rfl rfl rfl (Nat.le_of_ble_eq_true rfl) zd_Formula_init_24 (fun H locs hw => ?_)
  refine lv_aload_n hx hb zd_Formula_init_27 rfl (lv_at hl 0 rfl) ?_
  refine lv_sipush (v := 240) hx hb zd_Formula_init_28 (by decide) ?_
  refine z_newI (N' := 240) hx hb (hts _ zm_238) hK hw hA (by decide) (by decide) (Nat.le_of_ble_eq_true rfl) (Nat.le_of_ble_eq_true rfl) (Nat.le_of_ble_eq_true rfl) zd_Formula_init_31 (fun q31 H hw => ?_)
  refine z_putF hx hb hts hown hin hK hw zZ1 0 rfl 3 (by decide) zm_311 rfl rfl rfl rfl (Nat.le_of_ble_eq_true rfl) zd_Formula_init_33 (fun H locs hw => ?_)
  have hw : zW G A s.heap [(h0, zO 1 [.ref a1, .ref a3, .ref q15, .ref q31, .null, .null, .null, .int 0, .int 0, .int 0, .int 0]), (q15, zO 8 [.ref a1, .ref a2, .ref (u21 0), .int 0, .ref (u21 1), .int 0, .ref (u21 2), .int 0, .int 0, .int 0]), ((u21 0), zI K 480 (fun _ => 0)), ((u21 1), zI K 20 (fun _ => 0)), ((u21 2), zI K 13 (fun _ => 0)), (q31, zI K 240 (fun _ => 0))] H locs := hw
  refine lv_aload_n hx hb zd_Formula_init_36 rfl (lv_at hl 0 rfl) ?_
  refine lv_sipush (v := 240) hx hb zd_Formula_init_37 (by decide) ?_
  refine z_newI (N' := 240) hx hb (hts _ zm_238) hK hw hA (by decide) (by decide) (Nat.le_of_ble_eq_true rfl) (Nat.le_of_ble_eq_true rfl) (Nat.le_of_ble_eq_true rfl) zd_Formula_init_40 (fun q40 H hw => ?_)
  refine z_putF hx hb hts hown hin hK hw zZ1 0 rfl 4 (by decide) zm_312 rfl rfl rfl rfl (Nat.le_of_ble_eq_true rfl) zd_Formula_init_42 (fun H locs hw => ?_)
  refine lv_aload_n hx hb zd_Formula_init_45 rfl (lv_at hl 0 rfl) ?_
  refine lv_sipush (v := 240) hx hb zd_Formula_init_46 (by decide) ?_
  refine z_newI (N' := 240) hx hb (hts _ zm_238) hK hw hA (by decide) (by decide) (Nat.le_of_ble_eq_true rfl) (Nat.le_of_ble_eq_true rfl) (Nat.le_of_ble_eq_true rfl) zd_Formula_init_49 (fun q49 H hw => ?_)
  have hw : zW G A s.heap [(h0, zO 1 [.ref a1, .ref a3, .ref q15, .ref q31, .ref q40, .null, .null, .int 0, .int 0, .int 0, .int 0]), (q15, zO 8 [.ref a1, .ref a2, .ref (u21 0), .int 0, .ref (u21 1), .int 0, .ref (u21 2), .int 0, .int 0, .int 0]), ((u21 0), zI K 480 (fun _ => 0)), ((u21 1), zI K 20 (fun _ => 0)), ((u21 2), zI K 13 (fun _ => 0)), (q31, zI K 240 (fun _ => 0)), (q40, zI K 240 (fun _ => 0)), (q49, zI K 240 (fun _ => 0))] H locs := hw
  refine z_putF hx hb hts hown hin hK hw zZ1 0 rfl 5 (by decide) zm_313 rfl rfl rfl rfl (Nat.le_of_ble_eq_true rfl) zd_Formula_init_51 (fun H locs hw => ?_)
  refine lv_aload_n hx hb zd_Formula_init_54 rfl (lv_at hl 0 rfl) ?_
  refine lv_iconst (v := 3) hx hb zd_Formula_init_55 (by decide) ?_
  refine z_newI (N' := 3) hx hb (hts _ zm_238) hK hw hA (by decide) (by decide) (Nat.le_of_ble_eq_true rfl) (Nat.le_of_ble_eq_true rfl) (Nat.le_of_ble_eq_true rfl) zd_Formula_init_56 (fun q56 H hw => ?_)
  refine z_putF hx hb hts hown hin hK hw zZ1 0 rfl 6 (by decide) zm_314 rfl rfl rfl rfl (Nat.le_of_ble_eq_true rfl) zd_Formula_init_58 (fun H locs hw => ?_)
  have hw : zW G A s.heap [(h0, zO 1 [.ref a1, .ref a3, .ref q15, .ref q31, .ref q40, .ref q49, .ref q56, .int 0, .int 0, .int 0, .int 0]), (q15, zO 8 [.ref a1, .ref a2, .ref (u21 0), .int 0, .ref (u21 1), .int 0, .ref (u21 2), .int 0, .int 0, .int 0]), ((u21 0), zI K 480 (fun _ => 0)), ((u21 1), zI K 20 (fun _ => 0)), ((u21 2), zI K 13 (fun _ => 0)), (q31, zI K 240 (fun _ => 0)), (q40, zI K 240 (fun _ => 0)), (q49, zI K 240 (fun _ => 0)), (q56, zI K 3 (fun _ => 0))] H locs := hw
  exact z_vret (u := (fun k => ([q15, (u21 0), (u21 1), (u21 2), q31, q40, q49, q56] : List Nat).getD k 0)) hx hb hr hlocks hw [0, 1, 2, 3, 4, 5, 6, 7, 8] rfl (by decide) trivial (Nat.le_of_ble_eq_true rfl) (Nat.le_of_ble_eq_true rfl) zd_Formula_init_61
set_option maxHeartbeats 4000000 in
set_option maxRecDepth 100000 in
theorem c_Truths_init (l : Launch) (G : va_G) (K : Nat → ClassId) (h0 : Nat) (a1 : Nat) (a2 : Nat) (a3 : Nat) (sz : Nat) : Met l zy_Truths_init (Cond.code zy_Truths_init prog_12_method_1_code 4 none :: zTB) { frames := 1, cells := 4, slots := 2544, locals := 12 } (va_Pc [.ref h0, .ref a1, .ref a2, .ref a3] (zPre G K [(h0, zO 11 [.null, .null, .null, .null, .null, .null, .null, .int 0, .int 0])] sz)) (va_Qv (fun _ : Nat → Nat => True) (fun u t => zPost G K (va_A [(h0, zO 11 [.null, .null, .null, .null, .null, .null, .null, .int 0, .int 0])] sz) [(h0, zO 11 [.ref a1, .ref a2, .ref a3, .ref (u 0), .ref (u 1), .ref (u 2), .ref (u 3), .int 0, .int 0]), ((u 0), zI K 240 (fun _ => 0)), ((u 1), zI K 768 (fun _ => 0)), ((u 2), zI K 768 (fun _ => 0)), ((u 3), zZ K 768 (fun _ => 0))] t) (va_A [(h0, zO 11 [.null, .null, .null, .null, .null, .null, .null, .int 0, .int 0])] sz)) 4 2544 (va_A [(h0, zO 11 [.null, .null, .null, .null, .null, .null, .null, .int 0, .int 0])] sz) := by
  refine zMet (Qf := fun A => va_Qv (fun _ : Nat → Nat => True) (fun u t => zPost G K A [(h0, zO 11 [.ref a1, .ref a2, .ref a3, .ref (u 0), .ref (u 1), .ref (u 2), .ref (u 3), .int 0, .int 0]), ((u 0), zI K 240 (fun _ => 0)), ((u 1), zI K 768 (fun _ => 0)), ((u 2), zI K 768 (fun _ => 0)), ((u 3), zZ K 768 (fun _ => 0))] t) A) (by decide) (Nat.le_of_ble_eq_true rfl) ?_
  intro p e s m below meth c ls A hx hb hr hml hts hown hlocks hin hA hK H locs hw hsz hl
  clear hsz
  have hown : s.vm.findClass "LassoFinder$Truths" = some m.cls := hown
  have hl : lv_has ls 4 [(0, .ref h0), (1, .ref a1), (2, .ref a2), (3, .ref a3)] := hl
  have hw : zW G A s.heap [(h0, zO 11 [.null, .null, .null, .null, .null, .null, .null, .int 0, .int 0])] H locs := hw
  refine lv_aload_n hx hb zd_Truths_init_0 rfl (lv_at hl 0 rfl) ?_
  refine z_objInit hx hb hts hown hml hl.1 zm_315 zm_236 zm_237 zd_Truths_init_1 (Nat.le_of_ble_eq_true rfl) (Nat.le_of_ble_eq_true rfl) ?_
  refine lv_aload_n hx hb zd_Truths_init_4 rfl (lv_at hl 0 rfl) ?_
  refine lv_aload_n hx hb zd_Truths_init_5 rfl (lv_at hl 1 rfl) ?_
  refine z_putF hx hb hts hown hin hK hw zZ11 0 rfl 0 (by decide) zm_316 rfl rfl rfl rfl (Nat.le_of_ble_eq_true rfl) zd_Truths_init_6 (fun H locs hw => ?_)
  refine lv_aload_n hx hb zd_Truths_init_9 rfl (lv_at hl 0 rfl) ?_
  refine lv_aload_n hx hb zd_Truths_init_10 rfl (lv_at hl 2 rfl) ?_
  refine z_putF hx hb hts hown hin hK hw zZ11 0 rfl 1 (by decide) zm_317 rfl rfl rfl rfl (Nat.le_of_ble_eq_true rfl) zd_Truths_init_11 (fun H locs hw => ?_)
  refine lv_aload_n hx hb zd_Truths_init_14 rfl (lv_at hl 0 rfl) ?_
  refine lv_aload_n hx hb zd_Truths_init_15 rfl (lv_at hl 3 rfl) ?_
  refine z_putF hx hb hts hown hin hK hw zZ11 0 rfl 2 (by decide) zm_318 rfl rfl rfl rfl (Nat.le_of_ble_eq_true rfl) zd_Truths_init_16 (fun H locs hw => ?_)
  have hw : zW G A s.heap [(h0, zO 11 [.ref a1, .ref a2, .ref a3, .null, .null, .null, .null, .int 0, .int 0])] H locs := hw
  refine lv_aload_n hx hb zd_Truths_init_19 rfl (lv_at hl 0 rfl) ?_
  refine lv_sipush (v := 240) hx hb zd_Truths_init_20 (by decide) ?_
  refine z_newI (N' := 240) hx hb (hts _ zm_238) hK hw hA (by decide) (by decide) (Nat.le_of_ble_eq_true rfl) (Nat.le_of_ble_eq_true rfl) (Nat.le_of_ble_eq_true rfl) zd_Truths_init_23 (fun q23 H hw => ?_)
  refine z_putF hx hb hts hown hin hK hw zZ11 0 rfl 3 (by decide) zm_319 rfl rfl rfl rfl (Nat.le_of_ble_eq_true rfl) zd_Truths_init_25 (fun H locs hw => ?_)
  refine lv_aload_n hx hb zd_Truths_init_28 rfl (lv_at hl 0 rfl) ?_
  refine lv_sipush (v := 768) hx hb zd_Truths_init_29 (by decide) ?_
  refine z_newI (N' := 768) hx hb (hts _ zm_238) hK hw hA (by decide) (by decide) (Nat.le_of_ble_eq_true rfl) (Nat.le_of_ble_eq_true rfl) (Nat.le_of_ble_eq_true rfl) zd_Truths_init_32 (fun q32 H hw => ?_)
  have hw : zW G A s.heap [(h0, zO 11 [.ref a1, .ref a2, .ref a3, .ref q23, .null, .null, .null, .int 0, .int 0]), (q23, zI K 240 (fun _ => 0)), (q32, zI K 768 (fun _ => 0))] H locs := hw
  refine z_putF hx hb hts hown hin hK hw zZ11 0 rfl 4 (by decide) zm_320 rfl rfl rfl rfl (Nat.le_of_ble_eq_true rfl) zd_Truths_init_34 (fun H locs hw => ?_)
  refine lv_aload_n hx hb zd_Truths_init_37 rfl (lv_at hl 0 rfl) ?_
  refine lv_sipush (v := 768) hx hb zd_Truths_init_38 (by decide) ?_
  refine z_newI (N' := 768) hx hb (hts _ zm_238) hK hw hA (by decide) (by decide) (Nat.le_of_ble_eq_true rfl) (Nat.le_of_ble_eq_true rfl) (Nat.le_of_ble_eq_true rfl) zd_Truths_init_41 (fun q41 H hw => ?_)
  refine z_putF hx hb hts hown hin hK hw zZ11 0 rfl 5 (by decide) zm_321 rfl rfl rfl rfl (Nat.le_of_ble_eq_true rfl) zd_Truths_init_43 (fun H locs hw => ?_)
  have hw : zW G A s.heap [(h0, zO 11 [.ref a1, .ref a2, .ref a3, .ref q23, .ref q32, .ref q41, .null, .int 0, .int 0]), (q23, zI K 240 (fun _ => 0)), (q32, zI K 768 (fun _ => 0)), (q41, zI K 768 (fun _ => 0))] H locs := hw
  refine lv_aload_n hx hb zd_Truths_init_46 rfl (lv_at hl 0 rfl) ?_
  refine lv_sipush (v := 768) hx hb zd_Truths_init_47 (by decide) ?_
  refine z_newZ (N' := 768) hx hb (hts _ zm_240) hK hw hA (by decide) (by decide) (Nat.le_of_ble_eq_true rfl) (Nat.le_of_ble_eq_true rfl) (Nat.le_of_ble_eq_true rfl) zd_Truths_init_50 (fun q50 H hw => ?_)
  refine z_putF hx hb hts hown hin hK hw zZ11 0 rfl 6 (by decide) zm_322 rfl rfl rfl rfl (Nat.le_of_ble_eq_true rfl) zd_Truths_init_52 (fun H locs hw => ?_)
  exact z_vret (u := (fun k => ([q23, q32, q41, q50] : List Nat).getD k 0)) hx hb hr hlocks hw [0, 1, 2, 3, 4] rfl (by decide) trivial (Nat.le_of_ble_eq_true rfl) (Nat.le_of_ble_eq_true rfl) zd_Truths_init_55
end
section
abbrev zy_LassoFinder_init : MethodName := ⟨"LassoFinder", "<init>", "()V"⟩
theorem zm_327 : Cond.methodLink "LassoFinder" 1 ⟨"java/lang/Object", "<init>", "()V"⟩ ∈ zTB := z_in (zt_1 _ (List.mem_of_getElem? (i := 29) rfl)) rfl
theorem zm_328 : Cond.classLink "LassoFinder" 7 "LassoFinder$Text" ∈ zTB := z_in (zt_1 _ (List.mem_of_getElem? (i := 32) rfl)) rfl
theorem zm_329 : Cond.methodLink "LassoFinder" 9 ⟨"LassoFinder$Text", "<init>", "()V"⟩ ∈ zTB := z_in (zt_1 _ (List.mem_of_getElem? (i := 34) rfl)) rfl
theorem zm_330 : Cond.fieldLink "LassoFinder" 10 "LassoFinder" "text" "LLassoFinder$Text;" ∈ zTB := z_in (zt_2 _ (List.mem_of_getElem? (i := 218) rfl)) rfl
theorem zm_331 : Cond.classLink "LassoFinder" 16 "LassoFinder$Names" ∈ zTB := z_in (zt_1 _ (List.mem_of_getElem? (i := 56) rfl)) rfl
theorem zm_332 : Cond.methodLink "LassoFinder" 18 ⟨"LassoFinder$Names", "<init>", "()V"⟩ ∈ zTB := z_in (zt_1 _ (List.mem_of_getElem? (i := 58) rfl)) rfl
theorem zm_333 : Cond.fieldLink "LassoFinder" 19 "LassoFinder" "names" "LLassoFinder$Names;" ∈ zTB := z_in (zt_2 _ (List.mem_of_getElem? (i := 219) rfl)) rfl
theorem zm_334 : Cond.classLink "LassoFinder" 23 "LassoFinder$Program" ∈ zTB := z_in (zt_1 _ (List.mem_of_getElem? (i := 90) rfl)) rfl
theorem zm_335 : Cond.methodLink "LassoFinder" 25 ⟨"LassoFinder$Program", "<init>", "()V"⟩ ∈ zTB := z_in (zt_1 _ (List.mem_of_getElem? (i := 92) rfl)) rfl
theorem zm_336 : Cond.fieldLink "LassoFinder" 26 "LassoFinder" "program" "LLassoFinder$Program;" ∈ zTB := z_in (zt_2 _ (List.mem_of_getElem? (i := 220) rfl)) rfl
theorem zm_337 : Cond.classLink "LassoFinder" 30 "LassoFinder$Terms" ∈ zTB := z_in (zt_1 _ (List.mem_of_getElem? (i := 159) rfl)) rfl
theorem zm_338 : Cond.methodLink "LassoFinder" 32 ⟨"LassoFinder$Terms", "<init>", "(LLassoFinder$Text;LLassoFinder$Names;)V"⟩ ∈ zTB := z_in (zt_1 _ (List.mem_of_getElem? (i := 161) rfl)) rfl
theorem zm_339 : Cond.classLink "LassoFinder" 35 "LassoFinder$ModelReader" ∈ zTB := z_in (zt_1 _ (List.mem_of_getElem? (i := 196) rfl)) rfl
theorem zm_340 : Cond.methodLink "LassoFinder" 37 ⟨"LassoFinder$ModelReader", "<init>", "(LLassoFinder$Text;LLassoFinder$Names;LLassoFinder$Terms;LLassoFinder$Program;)V"⟩ ∈ zTB := z_in (zt_1 _ (List.mem_of_getElem? (i := 198) rfl)) rfl
theorem zm_341 : Cond.fieldLink "LassoFinder" 40 "LassoFinder" "reader" "LLassoFinder$ModelReader;" ∈ zTB := z_in (zt_2 _ (List.mem_of_getElem? (i := 221) rfl)) rfl
theorem zm_342 : Cond.classLink "LassoFinder" 44 "LassoFinder$Situation" ∈ zTB := z_in (zt_2 _ (List.mem_of_getElem? (i := 38) rfl)) rfl
theorem zm_343 : Cond.methodLink "LassoFinder" 46 ⟨"LassoFinder$Situation", "<init>", "(LLassoFinder$Names;LLassoFinder$Terms;LLassoFinder$Program;)V"⟩ ∈ zTB := z_in (zt_2 _ (List.mem_of_getElem? (i := 40) rfl)) rfl
theorem zm_344 : Cond.fieldLink "LassoFinder" 49 "LassoFinder" "situation" "LLassoFinder$Situation;" ∈ zTB := z_in (zt_2 _ (List.mem_of_getElem? (i := 222) rfl)) rfl
theorem zm_345 : Cond.classLink "LassoFinder" 53 "LassoFinder$Graph" ∈ zTB := z_in (zt_2 _ (List.mem_of_getElem? (i := 74) rfl)) rfl
theorem zm_346 : Cond.methodLink "LassoFinder" 55 ⟨"LassoFinder$Graph", "<init>", "(LLassoFinder$Situation;)V"⟩ ∈ zTB := z_in (zt_2 _ (List.mem_of_getElem? (i := 76) rfl)) rfl
theorem zm_347 : Cond.fieldLink "LassoFinder" 58 "LassoFinder" "graph" "LLassoFinder$Graph;" ∈ zTB := z_in (zt_2 _ (List.mem_of_getElem? (i := 223) rfl)) rfl
theorem zm_348 : Cond.classLink "LassoFinder" 62 "LassoFinder$Formula" ∈ zTB := z_in (zt_2 _ (List.mem_of_getElem? (i := 130) rfl)) rfl
theorem zm_349 : Cond.methodLink "LassoFinder" 64 ⟨"LassoFinder$Formula", "<init>", "(LLassoFinder$Text;LLassoFinder$Names;LLassoFinder$Program;)V"⟩ ∈ zTB := z_in (zt_2 _ (List.mem_of_getElem? (i := 132) rfl)) rfl
theorem zm_350 : Cond.fieldLink "LassoFinder" 67 "LassoFinder" "asked" "LLassoFinder$Formula;" ∈ zTB := z_in (zt_2 _ (List.mem_of_getElem? (i := 224) rfl)) rfl
theorem zm_351 : Cond.classLink "LassoFinder" 71 "LassoFinder$Truths" ∈ zTB := z_in (zt_2 _ (List.mem_of_getElem? (i := 180) rfl)) rfl
theorem zm_352 : Cond.methodLink "LassoFinder" 73 ⟨"LassoFinder$Truths", "<init>", "(LLassoFinder$Graph;LLassoFinder$Situation;LLassoFinder$Formula;)V"⟩ ∈ zTB := z_in (zt_2 _ (List.mem_of_getElem? (i := 182) rfl)) rfl
theorem zm_353 : Cond.fieldLink "LassoFinder" 76 "LassoFinder" "truths" "LLassoFinder$Truths;" ∈ zTB := z_in (zt_2 _ (List.mem_of_getElem? (i := 225) rfl)) rfl
theorem zm_354 : Cond.fieldLink "LassoFinder" 80 "LassoFinder" "walked" "[I" ∈ zTB := z_in (zt_2 _ (List.mem_of_getElem? (i := 227) rfl)) rfl
theorem zm_355 : Cond.fieldLink "LassoFinder" 84 "LassoFinder" "walkLength" "I" ∈ zTB := z_in (zt_2 _ (List.mem_of_getElem? (i := 228) rfl)) rfl
theorem zm_356 : Cond.code ⟨"LassoFinder$Text", "<init>", "()V"⟩ prog_10_method_1_code 1 none ∈ zTB := z_in (zt_1 _ (List.mem_of_getElem? (i := 36) rfl)) rfl
theorem zm_357 : Cond.instanceMethod ⟨"LassoFinder$Text", "<init>", "()V"⟩ ∈ zTB := z_in (zt_1 _ (List.mem_of_getElem? (i := 35) rfl)) rfl
theorem zm_358 : Cond.code ⟨"LassoFinder$Names", "<init>", "()V"⟩ prog_6_method_1_code 1 none ∈ zTB := z_in (zt_1 _ (List.mem_of_getElem? (i := 60) rfl)) rfl
theorem zm_359 : Cond.instanceMethod ⟨"LassoFinder$Names", "<init>", "()V"⟩ ∈ zTB := z_in (zt_1 _ (List.mem_of_getElem? (i := 59) rfl)) rfl
theorem zm_360 : Cond.code ⟨"LassoFinder$Program", "<init>", "()V"⟩ prog_7_method_1_code 1 none ∈ zTB := z_in (zt_1 _ (List.mem_of_getElem? (i := 94) rfl)) rfl
theorem zm_361 : Cond.instanceMethod ⟨"LassoFinder$Program", "<init>", "()V"⟩ ∈ zTB := z_in (zt_1 _ (List.mem_of_getElem? (i := 93) rfl)) rfl
theorem zm_362 : Cond.code ⟨"LassoFinder$ModelReader", "<init>", "(LLassoFinder$Text;LLassoFinder$Names;LLassoFinder$Terms;LLassoFinder$Program;)V"⟩ prog_5_method_1_code 5 none ∈ zTB := z_in (zt_1 _ (List.mem_of_getElem? (i := 200) rfl)) rfl
theorem zm_363 : Cond.instanceMethod ⟨"LassoFinder$ModelReader", "<init>", "(LLassoFinder$Text;LLassoFinder$Names;LLassoFinder$Terms;LLassoFinder$Program;)V"⟩ ∈ zTB := z_in (zt_1 _ (List.mem_of_getElem? (i := 199) rfl)) rfl
theorem zm_364 : Cond.code ⟨"LassoFinder$Situation", "<init>", "(LLassoFinder$Names;LLassoFinder$Terms;LLassoFinder$Program;)V"⟩ prog_8_method_1_code 4 none ∈ zTB := z_in (zt_2 _ (List.mem_of_getElem? (i := 42) rfl)) rfl
theorem zm_365 : Cond.instanceMethod ⟨"LassoFinder$Situation", "<init>", "(LLassoFinder$Names;LLassoFinder$Terms;LLassoFinder$Program;)V"⟩ ∈ zTB := z_in (zt_2 _ (List.mem_of_getElem? (i := 41) rfl)) rfl
theorem zm_366 : Cond.code ⟨"LassoFinder$Graph", "<init>", "(LLassoFinder$Situation;)V"⟩ prog_3_method_1_code 2 none ∈ zTB := z_in (zt_2 _ (List.mem_of_getElem? (i := 78) rfl)) rfl
theorem zm_367 : Cond.instanceMethod ⟨"LassoFinder$Graph", "<init>", "(LLassoFinder$Situation;)V"⟩ ∈ zTB := z_in (zt_2 _ (List.mem_of_getElem? (i := 77) rfl)) rfl
theorem zm_368 : Cond.code ⟨"LassoFinder$Formula", "<init>", "(LLassoFinder$Text;LLassoFinder$Names;LLassoFinder$Program;)V"⟩ prog_2_method_1_code 4 none ∈ zTB := z_in (zt_2 _ (List.mem_of_getElem? (i := 134) rfl)) rfl
theorem zm_369 : Cond.instanceMethod ⟨"LassoFinder$Formula", "<init>", "(LLassoFinder$Text;LLassoFinder$Names;LLassoFinder$Program;)V"⟩ ∈ zTB := z_in (zt_2 _ (List.mem_of_getElem? (i := 133) rfl)) rfl
theorem zm_370 : Cond.code ⟨"LassoFinder$Truths", "<init>", "(LLassoFinder$Graph;LLassoFinder$Situation;LLassoFinder$Formula;)V"⟩ prog_12_method_1_code 4 none ∈ zTB := z_in (zt_2 _ (List.mem_of_getElem? (i := 184) rfl)) rfl
theorem zm_371 : Cond.instanceMethod ⟨"LassoFinder$Truths", "<init>", "(LLassoFinder$Graph;LLassoFinder$Situation;LLassoFinder$Formula;)V"⟩ ∈ zTB := z_in (zt_2 _ (List.mem_of_getElem? (i := 183) rfl)) rfl
theorem zf_Text_init : zFaceI zy_Text_init prog_10_method_1_code 1 0 := ⟨zm_357, rfl, zm_19, zm_356, by decide +kernel, by decide +kernel, by decide +kernel⟩
theorem zf_Names_init : zFaceI zy_Names_init prog_6_method_1_code 1 0 := ⟨zm_359, rfl, zm_11, zm_358, by decide +kernel, by decide +kernel, by decide +kernel⟩
theorem zf_Program_init : zFaceI zy_Program_init prog_7_method_1_code 1 0 := ⟨zm_361, rfl, zm_13, zm_360, by decide +kernel, by decide +kernel, by decide +kernel⟩
theorem zf_ModelReader_init : zFaceI zy_ModelReader_init prog_5_method_1_code 5 4 := ⟨zm_363, rfl, zm_9, zm_362, by decide +kernel, by decide +kernel, by decide +kernel⟩
theorem zf_Situation_init : zFaceI zy_Situation_init prog_8_method_1_code 4 3 := ⟨zm_365, rfl, zm_15, zm_364, by decide +kernel, by decide +kernel, by decide +kernel⟩
theorem zf_Graph_init : zFaceI zy_Graph_init prog_3_method_1_code 2 1 := ⟨zm_367, rfl, zm_5, zm_366, by decide +kernel, by decide +kernel, by decide +kernel⟩
theorem zf_Formula_init : zFaceI zy_Formula_init prog_2_method_1_code 4 3 := ⟨zm_369, rfl, zm_3, zm_368, by decide +kernel, by decide +kernel, by decide +kernel⟩
theorem zf_Truths_init : zFaceI zy_Truths_init prog_12_method_1_code 4 3 := ⟨zm_371, rfl, zm_23, zm_370, by decide +kernel, by decide +kernel, by decide +kernel⟩
theorem zd_LassoFinder_init_0 : decode prog_1_method_1_code 0 = .ok (.aload_n 0, 1) := by decide +kernel
theorem zd_LassoFinder_init_1 : decode prog_1_method_1_code 1 = .ok (.invokespecial 1, 3) := by decide +kernel
theorem zd_LassoFinder_init_4 : decode prog_1_method_1_code 4 = .ok (.aload_n 0, 1) := by decide +kernel
theorem zd_LassoFinder_init_5 : decode prog_1_method_1_code 5 = .ok (.new 7, 3) := by decide +kernel
theorem zd_LassoFinder_init_8 : decode prog_1_method_1_code 8 = .ok (.dup, 1) := by decide +kernel
theorem zd_LassoFinder_init_9 : decode prog_1_method_1_code 9 = .ok (.invokespecial 9, 3) := by decide +kernel
theorem zd_LassoFinder_init_12 : decode prog_1_method_1_code 12 = .ok (.putfield 10, 3) := by decide +kernel
theorem zd_LassoFinder_init_15 : decode prog_1_method_1_code 15 = .ok (.aload_n 0, 1) := by decide +kernel
theorem zd_LassoFinder_init_16 : decode prog_1_method_1_code 16 = .ok (.new 16, 3) := by decide +kernel
theorem zd_LassoFinder_init_19 : decode prog_1_method_1_code 19 = .ok (.dup, 1) := by decide +kernel
theorem zd_LassoFinder_init_20 : decode prog_1_method_1_code 20 = .ok (.invokespecial 18, 3) := by decide +kernel
theorem zd_LassoFinder_init_23 : decode prog_1_method_1_code 23 = .ok (.putfield 19, 3) := by decide +kernel
theorem zd_LassoFinder_init_26 : decode prog_1_method_1_code 26 = .ok (.aload_n 0, 1) := by decide +kernel
theorem zd_LassoFinder_init_27 : decode prog_1_method_1_code 27 = .ok (.new 23, 3) := by decide +kernel
theorem zd_LassoFinder_init_30 : decode prog_1_method_1_code 30 = .ok (.dup, 1) := by decide +kernel
theorem zd_LassoFinder_init_31 : decode prog_1_method_1_code 31 = .ok (.invokespecial 25, 3) := by decide +kernel
theorem zd_LassoFinder_init_34 : decode prog_1_method_1_code 34 = .ok (.putfield 26, 3) := by decide +kernel
theorem zd_LassoFinder_init_37 : decode prog_1_method_1_code 37 = .ok (.new 30, 3) := by decide +kernel
theorem zd_LassoFinder_init_40 : decode prog_1_method_1_code 40 = .ok (.dup, 1) := by decide +kernel
theorem zd_LassoFinder_init_41 : decode prog_1_method_1_code 41 = .ok (.aload_n 0, 1) := by decide +kernel
theorem zd_LassoFinder_init_42 : decode prog_1_method_1_code 42 = .ok (.getfield 10, 3) := by decide +kernel
theorem zd_LassoFinder_init_45 : decode prog_1_method_1_code 45 = .ok (.aload_n 0, 1) := by decide +kernel
theorem zd_LassoFinder_init_46 : decode prog_1_method_1_code 46 = .ok (.getfield 19, 3) := by decide +kernel
theorem zd_LassoFinder_init_49 : decode prog_1_method_1_code 49 = .ok (.invokespecial 32, 3) := by decide +kernel
theorem zd_LassoFinder_init_52 : decode prog_1_method_1_code 52 = .ok (.astore_n 1, 1) := by decide +kernel
theorem zd_LassoFinder_init_53 : decode prog_1_method_1_code 53 = .ok (.aload_n 0, 1) := by decide +kernel
theorem zd_LassoFinder_init_54 : decode prog_1_method_1_code 54 = .ok (.new 35, 3) := by decide +kernel
theorem zd_LassoFinder_init_57 : decode prog_1_method_1_code 57 = .ok (.dup, 1) := by decide +kernel
theorem zd_LassoFinder_init_58 : decode prog_1_method_1_code 58 = .ok (.aload_n 0, 1) := by decide +kernel
theorem zd_LassoFinder_init_59 : decode prog_1_method_1_code 59 = .ok (.getfield 10, 3) := by decide +kernel
theorem zd_LassoFinder_init_62 : decode prog_1_method_1_code 62 = .ok (.aload_n 0, 1) := by decide +kernel
theorem zd_LassoFinder_init_63 : decode prog_1_method_1_code 63 = .ok (.getfield 19, 3) := by decide +kernel
theorem zd_LassoFinder_init_66 : decode prog_1_method_1_code 66 = .ok (.aload_n 1, 1) := by decide +kernel
theorem zd_LassoFinder_init_67 : decode prog_1_method_1_code 67 = .ok (.aload_n 0, 1) := by decide +kernel
theorem zd_LassoFinder_init_68 : decode prog_1_method_1_code 68 = .ok (.getfield 26, 3) := by decide +kernel
theorem zd_LassoFinder_init_71 : decode prog_1_method_1_code 71 = .ok (.invokespecial 37, 3) := by decide +kernel
theorem zd_LassoFinder_init_74 : decode prog_1_method_1_code 74 = .ok (.putfield 40, 3) := by decide +kernel
theorem zd_LassoFinder_init_77 : decode prog_1_method_1_code 77 = .ok (.aload_n 0, 1) := by decide +kernel
theorem zd_LassoFinder_init_78 : decode prog_1_method_1_code 78 = .ok (.new 44, 3) := by decide +kernel
theorem zd_LassoFinder_init_81 : decode prog_1_method_1_code 81 = .ok (.dup, 1) := by decide +kernel
theorem zd_LassoFinder_init_82 : decode prog_1_method_1_code 82 = .ok (.aload_n 0, 1) := by decide +kernel
theorem zd_LassoFinder_init_83 : decode prog_1_method_1_code 83 = .ok (.getfield 19, 3) := by decide +kernel
theorem zd_LassoFinder_init_86 : decode prog_1_method_1_code 86 = .ok (.aload_n 1, 1) := by decide +kernel
theorem zd_LassoFinder_init_87 : decode prog_1_method_1_code 87 = .ok (.aload_n 0, 1) := by decide +kernel
theorem zd_LassoFinder_init_88 : decode prog_1_method_1_code 88 = .ok (.getfield 26, 3) := by decide +kernel
theorem zd_LassoFinder_init_91 : decode prog_1_method_1_code 91 = .ok (.invokespecial 46, 3) := by decide +kernel
theorem zd_LassoFinder_init_94 : decode prog_1_method_1_code 94 = .ok (.putfield 49, 3) := by decide +kernel
theorem zd_LassoFinder_init_97 : decode prog_1_method_1_code 97 = .ok (.aload_n 0, 1) := by decide +kernel
theorem zd_LassoFinder_init_98 : decode prog_1_method_1_code 98 = .ok (.new 53, 3) := by decide +kernel
theorem zd_LassoFinder_init_101 : decode prog_1_method_1_code 101 = .ok (.dup, 1) := by decide +kernel
theorem zd_LassoFinder_init_102 : decode prog_1_method_1_code 102 = .ok (.aload_n 0, 1) := by decide +kernel
theorem zd_LassoFinder_init_103 : decode prog_1_method_1_code 103 = .ok (.getfield 49, 3) := by decide +kernel
theorem zd_LassoFinder_init_106 : decode prog_1_method_1_code 106 = .ok (.invokespecial 55, 3) := by decide +kernel
theorem zd_LassoFinder_init_109 : decode prog_1_method_1_code 109 = .ok (.putfield 58, 3) := by decide +kernel
theorem zd_LassoFinder_init_112 : decode prog_1_method_1_code 112 = .ok (.aload_n 0, 1) := by decide +kernel
theorem zd_LassoFinder_init_113 : decode prog_1_method_1_code 113 = .ok (.new 62, 3) := by decide +kernel
theorem zd_LassoFinder_init_116 : decode prog_1_method_1_code 116 = .ok (.dup, 1) := by decide +kernel
theorem zd_LassoFinder_init_117 : decode prog_1_method_1_code 117 = .ok (.aload_n 0, 1) := by decide +kernel
theorem zd_LassoFinder_init_118 : decode prog_1_method_1_code 118 = .ok (.getfield 10, 3) := by decide +kernel
theorem zd_LassoFinder_init_121 : decode prog_1_method_1_code 121 = .ok (.aload_n 0, 1) := by decide +kernel
theorem zd_LassoFinder_init_122 : decode prog_1_method_1_code 122 = .ok (.getfield 19, 3) := by decide +kernel
theorem zd_LassoFinder_init_125 : decode prog_1_method_1_code 125 = .ok (.aload_n 0, 1) := by decide +kernel
theorem zd_LassoFinder_init_126 : decode prog_1_method_1_code 126 = .ok (.getfield 26, 3) := by decide +kernel
theorem zd_LassoFinder_init_129 : decode prog_1_method_1_code 129 = .ok (.invokespecial 64, 3) := by decide +kernel
theorem zd_LassoFinder_init_132 : decode prog_1_method_1_code 132 = .ok (.putfield 67, 3) := by decide +kernel
theorem zd_LassoFinder_init_135 : decode prog_1_method_1_code 135 = .ok (.aload_n 0, 1) := by decide +kernel
theorem zd_LassoFinder_init_136 : decode prog_1_method_1_code 136 = .ok (.new 71, 3) := by decide +kernel
theorem zd_LassoFinder_init_139 : decode prog_1_method_1_code 139 = .ok (.dup, 1) := by decide +kernel
theorem zd_LassoFinder_init_140 : decode prog_1_method_1_code 140 = .ok (.aload_n 0, 1) := by decide +kernel
theorem zd_LassoFinder_init_141 : decode prog_1_method_1_code 141 = .ok (.getfield 58, 3) := by decide +kernel
theorem zd_LassoFinder_init_144 : decode prog_1_method_1_code 144 = .ok (.aload_n 0, 1) := by decide +kernel
theorem zd_LassoFinder_init_145 : decode prog_1_method_1_code 145 = .ok (.getfield 49, 3) := by decide +kernel
theorem zd_LassoFinder_init_148 : decode prog_1_method_1_code 148 = .ok (.aload_n 0, 1) := by decide +kernel
theorem zd_LassoFinder_init_149 : decode prog_1_method_1_code 149 = .ok (.getfield 67, 3) := by decide +kernel
theorem zd_LassoFinder_init_152 : decode prog_1_method_1_code 152 = .ok (.invokespecial 73, 3) := by decide +kernel
theorem zd_LassoFinder_init_155 : decode prog_1_method_1_code 155 = .ok (.putfield 76, 3) := by decide +kernel
theorem zd_LassoFinder_init_158 : decode prog_1_method_1_code 158 = .ok (.aload_n 0, 1) := by decide +kernel
theorem zd_LassoFinder_init_159 : decode prog_1_method_1_code 159 = .ok (.bipush 61, 2) := by decide +kernel
theorem zd_LassoFinder_init_161 : decode prog_1_method_1_code 161 = .ok (.newarray .int, 2) := by decide +kernel
theorem zd_LassoFinder_init_163 : decode prog_1_method_1_code 163 = .ok (.putfield 80, 3) := by decide +kernel
theorem zd_LassoFinder_init_166 : decode prog_1_method_1_code 166 = .ok (.aload_n 0, 1) := by decide +kernel
theorem zd_LassoFinder_init_167 : decode prog_1_method_1_code 167 = .ok (.iconst (-1), 1) := by decide +kernel
theorem zd_LassoFinder_init_168 : decode prog_1_method_1_code 168 = .ok (.putfield 84, 3) := by decide +kernel
theorem zd_LassoFinder_init_171 : decode prog_1_method_1_code 171 = .ok (.return_, 1) := by decide +kernel
set_option maxHeartbeats 4000000 in
set_option maxRecDepth 100000 in
theorem c_LassoFinder_init (l : Launch) (G : va_G) (K : Nat → ClassId) (h0 : Nat) (sz : Nat) : Met l zy_LassoFinder_init (Cond.code zy_LassoFinder_init prog_1_method_1_code 2 none :: zTB) { frames := 3, cells := 64, slots := 9958, locals := 57 } (va_Pc [.ref h0] (zPre G K [(h0, zO 0 [.null, .null, .null, .null, .null, .null, .null, .null, .null, .null, .int 0, .int 0, .int 0])] sz)) (va_Qv (fun _ : Nat → Nat => True) (fun u t => zPost G K (va_A [(h0, zO 0 [.null, .null, .null, .null, .null, .null, .null, .null, .null, .null, .int 0, .int 0, .int 0])] sz) [(h0, zO 0 [.ref (u 0), .ref (u 2), .ref (u 7), .ref (u 23), .ref (u 36), .ref (u 40), .ref (u 49), .ref (u 58), .null, .ref (u 63), .int (-1), .int 0, .int 0]), ((u 0), zO 9 [.ref (u 1), .int 0, .int 0, .int 0, .int (-1)]), ((u 1), zC K 240 (fun _ => 0)), ((u 2), zO 5 [.ref (u 3), .ref (u 4), .ref (u 5), .ref (u 6), .int 0, .int 0]), ((u 3), zI K 8 (fun _ => 0)), ((u 4), zI K 8 (fun _ => 0)), ((u 5), zI K 6 (fun _ => 0)), ((u 6), zI K 2 (fun _ => 0)), ((u 7), zO 6 [.ref (u 8), .ref (u 9), .ref (u 10), .ref (u 11), .ref (u 12), .ref (u 13), .ref (u 14), .ref (u 15), .ref (u 16), .ref (u 17), .ref (u 18), .long 0, .int 0, .int 0]), ((u 8), zI K 48 (fun _ => 0)), ((u 9), zI K 48 (fun _ => 0)), ((u 10), zI K 48 (fun _ => 0)), ((u 11), zI K 48 (fun _ => 0)), ((u 12), zI K 48 (fun _ => 0)), ((u 13), zI K 48 (fun _ => 0)), ((u 14), zZ K 48 (fun _ => 0)), ((u 15), zJ K 8 (fun _ => 0)), ((u 16), zI K 4 (fun _ => 0)), ((u 17), zI K 32 (fun _ => 0)), ((u 18), zJ K 124 (fun _ => 0)), ((u 19), zO 8 [.ref (u 0), .ref (u 2), .ref (u 20), .int 0, .ref (u 21), .int 0, .ref (u 22), .int 0, .int 0, .int 0]), ((u 20), zI K 480 (fun _ => 0)), ((u 21), zI K 20 (fun _ => 0)), ((u 22), zI K 13 (fun _ => 0)), ((u 23), zO 4 [.ref (u 0), .ref (u 2), .ref (u 19), .ref (u 7), .ref (u 24)]), ((u 24), zO 10 [.ref (u 25), .ref (u 26), .ref (u 27), .ref (u 28), .ref (u 29), .ref (u 30), .ref (u 31), .ref (u 32), .ref (u 33), .ref (u 34), .ref (u 35), .int 0, .int 0]), ((u 25), zI K 240 (fun _ => 0)), ((u 26), zI K 240 (fun _ => 0)), ((u 27), zI K 240 (fun _ => 0)), ((u 28), zI K 240 (fun _ => 0)), ((u 29), zZ K 240 (fun _ => 0)), ((u 30), zI K 240 (fun _ => 0)), ((u 31), zI K 240 (fun _ => 0)), ((u 32), zI K 240 (fun _ => 0)), ((u 33), zI K 240 (fun _ => 0)), ((u 34), zI K 240 (fun _ => 0)), ((u 35), zI K 8 (fun _ => 0)), ((u 36), zO 7 [.ref (u 2), .ref (u 19), .ref (u 7), .ref (u 37), .ref (u 38), .ref (u 39), .int (-1), .long 0]), ((u 37), zI K 8 (fun _ => 0)), ((u 38), zI K 24 (fun _ => 0)), ((u 39), zI K 4 (fun _ => 0)), ((u 40), zO 2 [.ref (u 36), .ref (u 41), .ref (u 42), .ref (u 43), .ref (u 44), .ref (u 45), .ref (u 46), .ref (u 47), .ref (u 48), .int 0, .int 0]), ((u 41), zJ K 96 (fun _ => 0)), ((u 42), zI K 97 (fun _ => 0)), ((u 43), zI K 400 (fun _ => 0)), ((u 44), zI K 400 (fun _ => 0)), ((u 45), zI K 400 (fun _ => 0)), ((u 46), zI K 400 (fun _ => 0)), ((u 47), zI K 97 (fun _ => 0)), ((u 48), zI K 400 (fun _ => 0)), ((u 49), zO 1 [.ref (u 0), .ref (u 7), .ref (u 50), .ref (u 54), .ref (u 55), .ref (u 56), .ref (u 57), .int 0, .int 0, .int 0, .int 0]), ((u 50), zO 8 [.ref (u 0), .ref (u 2), .ref (u 51), .int 0, .ref (u 52), .int 0, .ref (u 53), .int 0, .int 0, .int 0]), ((u 51), zI K 480 (fun _ => 0)), ((u 52), zI K 20 (fun _ => 0)), ((u 53), zI K 13 (fun _ => 0)), ((u 54), zI K 240 (fun _ => 0)), ((u 55), zI K 240 (fun _ => 0)), ((u 56), zI K 240 (fun _ => 0)), ((u 57), zI K 3 (fun _ => 0)), ((u 58), zO 11 [.ref (u 40), .ref (u 36), .ref (u 49), .ref (u 59), .ref (u 60), .ref (u 61), .ref (u 62), .int 0, .int 0]), ((u 59), zI K 240 (fun _ => 0)), ((u 60), zI K 768 (fun _ => 0)), ((u 61), zI K 768 (fun _ => 0)), ((u 62), zZ K 768 (fun _ => 0)), ((u 63), zI K 61 (fun _ => 0))] t) (va_A [(h0, zO 0 [.null, .null, .null, .null, .null, .null, .null, .null, .null, .null, .int 0, .int 0, .int 0])] sz)) 64 9958 (va_A [(h0, zO 0 [.null, .null, .null, .null, .null, .null, .null, .null, .null, .null, .int 0, .int 0, .int 0])] sz) := by
  refine zMet (Qf := fun A => va_Qv (fun _ : Nat → Nat => True) (fun u t => zPost G K A [(h0, zO 0 [.ref (u 0), .ref (u 2), .ref (u 7), .ref (u 23), .ref (u 36), .ref (u 40), .ref (u 49), .ref (u 58), .null, .ref (u 63), .int (-1), .int 0, .int 0]), ((u 0), zO 9 [.ref (u 1), .int 0, .int 0, .int 0, .int (-1)]), ((u 1), zC K 240 (fun _ => 0)), ((u 2), zO 5 [.ref (u 3), .ref (u 4), .ref (u 5), .ref (u 6), .int 0, .int 0]), ((u 3), zI K 8 (fun _ => 0)), ((u 4), zI K 8 (fun _ => 0)), ((u 5), zI K 6 (fun _ => 0)), ((u 6), zI K 2 (fun _ => 0)), ((u 7), zO 6 [.ref (u 8), .ref (u 9), .ref (u 10), .ref (u 11), .ref (u 12), .ref (u 13), .ref (u 14), .ref (u 15), .ref (u 16), .ref (u 17), .ref (u 18), .long 0, .int 0, .int 0]), ((u 8), zI K 48 (fun _ => 0)), ((u 9), zI K 48 (fun _ => 0)), ((u 10), zI K 48 (fun _ => 0)), ((u 11), zI K 48 (fun _ => 0)), ((u 12), zI K 48 (fun _ => 0)), ((u 13), zI K 48 (fun _ => 0)), ((u 14), zZ K 48 (fun _ => 0)), ((u 15), zJ K 8 (fun _ => 0)), ((u 16), zI K 4 (fun _ => 0)), ((u 17), zI K 32 (fun _ => 0)), ((u 18), zJ K 124 (fun _ => 0)), ((u 19), zO 8 [.ref (u 0), .ref (u 2), .ref (u 20), .int 0, .ref (u 21), .int 0, .ref (u 22), .int 0, .int 0, .int 0]), ((u 20), zI K 480 (fun _ => 0)), ((u 21), zI K 20 (fun _ => 0)), ((u 22), zI K 13 (fun _ => 0)), ((u 23), zO 4 [.ref (u 0), .ref (u 2), .ref (u 19), .ref (u 7), .ref (u 24)]), ((u 24), zO 10 [.ref (u 25), .ref (u 26), .ref (u 27), .ref (u 28), .ref (u 29), .ref (u 30), .ref (u 31), .ref (u 32), .ref (u 33), .ref (u 34), .ref (u 35), .int 0, .int 0]), ((u 25), zI K 240 (fun _ => 0)), ((u 26), zI K 240 (fun _ => 0)), ((u 27), zI K 240 (fun _ => 0)), ((u 28), zI K 240 (fun _ => 0)), ((u 29), zZ K 240 (fun _ => 0)), ((u 30), zI K 240 (fun _ => 0)), ((u 31), zI K 240 (fun _ => 0)), ((u 32), zI K 240 (fun _ => 0)), ((u 33), zI K 240 (fun _ => 0)), ((u 34), zI K 240 (fun _ => 0)), ((u 35), zI K 8 (fun _ => 0)), ((u 36), zO 7 [.ref (u 2), .ref (u 19), .ref (u 7), .ref (u 37), .ref (u 38), .ref (u 39), .int (-1), .long 0]), ((u 37), zI K 8 (fun _ => 0)), ((u 38), zI K 24 (fun _ => 0)), ((u 39), zI K 4 (fun _ => 0)), ((u 40), zO 2 [.ref (u 36), .ref (u 41), .ref (u 42), .ref (u 43), .ref (u 44), .ref (u 45), .ref (u 46), .ref (u 47), .ref (u 48), .int 0, .int 0]), ((u 41), zJ K 96 (fun _ => 0)), ((u 42), zI K 97 (fun _ => 0)), ((u 43), zI K 400 (fun _ => 0)), ((u 44), zI K 400 (fun _ => 0)), ((u 45), zI K 400 (fun _ => 0)), ((u 46), zI K 400 (fun _ => 0)), ((u 47), zI K 97 (fun _ => 0)), ((u 48), zI K 400 (fun _ => 0)), ((u 49), zO 1 [.ref (u 0), .ref (u 7), .ref (u 50), .ref (u 54), .ref (u 55), .ref (u 56), .ref (u 57), .int 0, .int 0, .int 0, .int 0]), ((u 50), zO 8 [.ref (u 0), .ref (u 2), .ref (u 51), .int 0, .ref (u 52), .int 0, .ref (u 53), .int 0, .int 0, .int 0]), ((u 51), zI K 480 (fun _ => 0)), ((u 52), zI K 20 (fun _ => 0)), ((u 53), zI K 13 (fun _ => 0)), ((u 54), zI K 240 (fun _ => 0)), ((u 55), zI K 240 (fun _ => 0)), ((u 56), zI K 240 (fun _ => 0)), ((u 57), zI K 3 (fun _ => 0)), ((u 58), zO 11 [.ref (u 40), .ref (u 36), .ref (u 49), .ref (u 59), .ref (u 60), .ref (u 61), .ref (u 62), .int 0, .int 0]), ((u 59), zI K 240 (fun _ => 0)), ((u 60), zI K 768 (fun _ => 0)), ((u 61), zI K 768 (fun _ => 0)), ((u 62), zZ K 768 (fun _ => 0)), ((u 63), zI K 61 (fun _ => 0))] t) A) (by decide) (Nat.le_of_ble_eq_true rfl) ?_
  intro p e s m below meth c ls A hx hb hr hml hts hown hlocks hin hA hK H locs hw hsz hl
  clear hsz
  have hown : s.vm.findClass "LassoFinder" = some m.cls := hown
  have hl : lv_has ls 2 [(0, .ref h0)] := hl
  have hw : zW G A s.heap [(h0, zO 0 [.null, .null, .null, .null, .null, .null, .null, .null, .null, .null, .int 0, .int 0, .int 0])] H locs := hw
  refine lv_aload_n hx hb zd_LassoFinder_init_0 rfl (lv_at hl 0 rfl) ?_
  refine z_objInit hx hb hts hown hml hl.1 zm_327 zm_236 zm_237 zd_LassoFinder_init_1 (Nat.le_of_ble_eq_true rfl) (Nat.le_of_ble_eq_true rfl) ?_
  refine lv_aload_n hx hb zd_LassoFinder_init_4 rfl (lv_at hl 0 rfl) ?_
  refine z_new (fs := [.null, .int 0, .int 0, .int 0, .int 0]) hx hb hts hown hK hw hA zZ9 zm_328 zm_18 zm_19 zD9 (Nat.le_of_ble_eq_true rfl) (Nat.le_of_ble_eq_true rfl) zd_LassoFinder_init_5 (fun q5 H hw => ?_)
  refine lv_dup hx hb zd_LassoFinder_init_8 rfl ?_
  have hw : zW G A s.heap [(h0, zO 0 [.null, .null, .null, .null, .null, .null, .null, .null, .null, .null, .int 0, .int 0, .int 0]), (q5, zO 9 [.null, .int 0, .int 0, .int 0, .int 0])] H locs := hw
  refine z_callv (w1 := fun u9 => [(q5, zO 9 [.ref (u9 0), .int 0, .int 0, .int 0, .int (-1)]), ((u9 0), zC K 240 (fun _ => 0))]) (wr := [(h0, zO 0 [.null, .null, .null, .null, .null, .null, .null, .null, .null, .null, .int 0, .int 0, .int 0])]) (z_runI (wc := [(q5, zO 9 [.null, .int 0, .int 0, .int 0, .int 0])]) (As := []) (rest := [.ref q5, .ref h0]) ⟨hx, hb, hml, hown, hts⟩ (c_Text_init l G K q5 H.size ) zf_Text_init zm_329 ⟨Nat.le_of_ble_eq_true rfl, Nat.le_of_ble_eq_true rfl⟩ hK hw [1] rfl (by decide) rfl hl.1 rfl (Nat.le_of_ble_eq_true rfl) zd_LassoFinder_init_9 ⟨Nat.le_of_ble_eq_true rfl, Nat.le_of_ble_eq_true rfl⟩) hw hA [1] [0] rfl rfl (by decide) (by decide) (fun u9 H locs hu hw => ?_)
  have hw : zW G A s.heap [(h0, zO 0 [.null, .null, .null, .null, .null, .null, .null, .null, .null, .null, .int 0, .int 0, .int 0]), (q5, zO 9 [.ref (u9 0), .int 0, .int 0, .int 0, .int (-1)]), ((u9 0), zC K 240 (fun _ => 0))] H locs := hw
  refine z_putF hx hb hts hown hin hK hw zZ0 0 rfl 0 (by decide) zm_330 rfl rfl rfl rfl (Nat.le_of_ble_eq_true rfl) zd_LassoFinder_init_12 (fun H locs hw => ?_)
  refine lv_aload_n hx hb zd_LassoFinder_init_15 rfl (lv_at hl 0 rfl) ?_
  refine z_new (fs := [.null, .null, .null, .null, .int 0, .int 0]) hx hb hts hown hK hw hA zZ5 zm_331 zm_10 zm_11 zD5 (Nat.le_of_ble_eq_true rfl) (Nat.le_of_ble_eq_true rfl) zd_LassoFinder_init_16 (fun q16 H hw => ?_)
  refine lv_dup hx hb zd_LassoFinder_init_19 rfl ?_
  have hw : zW G A s.heap [(h0, zO 0 [.ref q5, .null, .null, .null, .null, .null, .null, .null, .null, .null, .int 0, .int 0, .int 0]), (q5, zO 9 [.ref (u9 0), .int 0, .int 0, .int 0, .int (-1)]), ((u9 0), zC K 240 (fun _ => 0)), (q16, zO 5 [.null, .null, .null, .null, .int 0, .int 0])] H locs := hw
  refine z_callv (w1 := fun u20 => [(q16, zO 5 [.ref (u20 0), .ref (u20 1), .ref (u20 2), .ref (u20 3), .int 0, .int 0]), ((u20 0), zI K 8 (fun _ => 0)), ((u20 1), zI K 8 (fun _ => 0)), ((u20 2), zI K 6 (fun _ => 0)), ((u20 3), zI K 2 (fun _ => 0))]) (wr := [(h0, zO 0 [.ref q5, .null, .null, .null, .null, .null, .null, .null, .null, .null, .int 0, .int 0, .int 0]), (q5, zO 9 [.ref (u9 0), .int 0, .int 0, .int 0, .int (-1)]), ((u9 0), zC K 240 (fun _ => 0))]) (z_runI (wc := [(q16, zO 5 [.null, .null, .null, .null, .int 0, .int 0])]) (As := []) (rest := [.ref q16, .ref h0]) ⟨hx, hb, hml, hown, hts⟩ (c_Names_init l G K q16 H.size ) zf_Names_init zm_332 ⟨Nat.le_of_ble_eq_true rfl, Nat.le_of_ble_eq_true rfl⟩ hK hw [3] rfl (by decide) rfl hl.1 rfl (Nat.le_of_ble_eq_true rfl) zd_LassoFinder_init_20 ⟨Nat.le_of_ble_eq_true rfl, Nat.le_of_ble_eq_true rfl⟩) hw hA [3] [0, 1, 2] rfl rfl (by decide) (by decide) (fun u20 H locs hu hw => ?_)
  have hw : zW G A s.heap [(h0, zO 0 [.ref q5, .null, .null, .null, .null, .null, .null, .null, .null, .null, .int 0, .int 0, .int 0]), (q5, zO 9 [.ref (u9 0), .int 0, .int 0, .int 0, .int (-1)]), ((u9 0), zC K 240 (fun _ => 0)), (q16, zO 5 [.ref (u20 0), .ref (u20 1), .ref (u20 2), .ref (u20 3), .int 0, .int 0]), ((u20 0), zI K 8 (fun _ => 0)), ((u20 1), zI K 8 (fun _ => 0)), ((u20 2), zI K 6 (fun _ => 0)), ((u20 3), zI K 2 (fun _ => 0))] H locs := hw
  refine z_putF hx hb hts hown hin hK hw zZ0 0 rfl 1 (by decide) zm_333 rfl rfl rfl rfl (Nat.le_of_ble_eq_true rfl) zd_LassoFinder_init_23 (fun H locs hw => ?_)
  refine lv_aload_n hx hb zd_LassoFinder_init_26 rfl (lv_at hl 0 rfl) ?_
  refine z_new (fs := [.null, .null, .null, .null, .null, .null, .null, .null, .null, .null, .null, .long 0, .int 0, .int 0]) hx hb hts hown hK hw hA zZ6 zm_334 zm_12 zm_13 zD6 (Nat.le_of_ble_eq_true rfl) (Nat.le_of_ble_eq_true rfl) zd_LassoFinder_init_27 (fun q27 H hw => ?_)
  refine lv_dup hx hb zd_LassoFinder_init_30 rfl ?_
  have hw : zW G A s.heap [(h0, zO 0 [.ref q5, .ref q16, .null, .null, .null, .null, .null, .null, .null, .null, .int 0, .int 0, .int 0]), (q5, zO 9 [.ref (u9 0), .int 0, .int 0, .int 0, .int (-1)]), ((u9 0), zC K 240 (fun _ => 0)), (q16, zO 5 [.ref (u20 0), .ref (u20 1), .ref (u20 2), .ref (u20 3), .int 0, .int 0]), ((u20 0), zI K 8 (fun _ => 0)), ((u20 1), zI K 8 (fun _ => 0)), ((u20 2), zI K 6 (fun _ => 0)), ((u20 3), zI K 2 (fun _ => 0)), (q27, zO 6 [.null, .null, .null, .null, .null, .null, .null, .null, .null, .null, .null, .long 0, .int 0, .int 0])] H locs := hw
  refine z_callv (w1 := fun u31 => [(q27, zO 6 [.ref (u31 0), .ref (u31 1), .ref (u31 2), .ref (u31 3), .ref (u31 4), .ref (u31 5), .ref (u31 6), .ref (u31 7), .ref (u31 8), .ref (u31 9), .ref (u31 10), .long 0, .int 0, .int 0]), ((u31 0), zI K 48 (fun _ => 0)), ((u31 1), zI K 48 (fun _ => 0)), ((u31 2), zI K 48 (fun _ => 0)), ((u31 3), zI K 48 (fun _ => 0)), ((u31 4), zI K 48 (fun _ => 0)), ((u31 5), zI K 48 (fun _ => 0)), ((u31 6), zZ K 48 (fun _ => 0)), ((u31 7), zJ K 8 (fun _ => 0)), ((u31 8), zI K 4 (fun _ => 0)), ((u31 9), zI K 32 (fun _ => 0)), ((u31 10), zJ K 124 (fun _ => 0))]) (wr := [(h0, zO 0 [.ref q5, .ref q16, .null, .null, .null, .null, .null, .null, .null, .null, .int 0, .int 0, .int 0]), (q5, zO 9 [.ref (u9 0), .int 0, .int 0, .int 0, .int (-1)]), ((u9 0), zC K 240 (fun _ => 0)), (q16, zO 5 [.ref (u20 0), .ref (u20 1), .ref (u20 2), .ref (u20 3), .int 0, .int 0]), ((u20 0), zI K 8 (fun _ => 0)), ((u20 1), zI K 8 (fun _ => 0)), ((u20 2), zI K 6 (fun _ => 0)), ((u20 3), zI K 2 (fun _ => 0))]) (z_runI (wc := [(q27, zO 6 [.null, .null, .null, .null, .null, .null, .null, .null, .null, .null, .null, .long 0, .int 0, .int 0])]) (As := []) (rest := [.ref q27, .ref h0]) ⟨hx, hb, hml, hown, hts⟩ (c_Program_init l G K q27 H.size ) zf_Program_init zm_335 ⟨Nat.le_of_ble_eq_true rfl, Nat.le_of_ble_eq_true rfl⟩ hK hw [8] rfl (by decide) rfl hl.1 rfl (Nat.le_of_ble_eq_true rfl) zd_LassoFinder_init_31 ⟨Nat.le_of_ble_eq_true rfl, Nat.le_of_ble_eq_true rfl⟩) hw hA [8] [0, 1, 2, 3, 4, 5, 6, 7] rfl rfl (by decide) (by decide) (fun u31 H locs hu hw => ?_)
  have hw : zW G A s.heap [(h0, zO 0 [.ref q5, .ref q16, .null, .null, .null, .null, .null, .null, .null, .null, .int 0, .int 0, .int 0]), (q5, zO 9 [.ref (u9 0), .int 0, .int 0, .int 0, .int (-1)]), ((u9 0), zC K 240 (fun _ => 0)), (q16, zO 5 [.ref (u20 0), .ref (u20 1), .ref (u20 2), .ref (u20 3), .int 0, .int 0]), ((u20 0), zI K 8 (fun _ => 0)), ((u20 1), zI K 8 (fun _ => 0)), ((u20 2), zI K 6 (fun _ => 0)), ((u20 3), zI K 2 (fun _ => 0)), (q27, zO 6 [.ref (u31 0), .ref (u31 1), .ref (u31 2), .ref (u31 3), .ref (u31 4), .ref (u31 5), .ref (u31 6), .ref (u31 7), .ref (u31 8), .ref (u31 9), .ref (u31 10), .long 0, .int 0, .int 0]), ((u31 0), zI K 48 (fun _ => 0)), ((u31 1), zI K 48 (fun _ => 0)), ((u31 2), zI K 48 (fun _ => 0)), ((u31 3), zI K 48 (fun _ => 0)), ((u31 4), zI K 48 (fun _ => 0)), ((u31 5), zI K 48 (fun _ => 0)), ((u31 6), zZ K 48 (fun _ => 0)), ((u31 7), zJ K 8 (fun _ => 0)), ((u31 8), zI K 4 (fun _ => 0)), ((u31 9), zI K 32 (fun _ => 0)), ((u31 10), zJ K 124 (fun _ => 0))] H locs := hw
  refine z_putF hx hb hts hown hin hK hw zZ0 0 rfl 2 (by decide) zm_336 rfl rfl rfl rfl (Nat.le_of_ble_eq_true rfl) zd_LassoFinder_init_34 (fun H locs hw => ?_)
  refine z_new (fs := [.null, .null, .null, .int 0, .null, .int 0, .null, .int 0, .int 0, .int 0]) hx hb hts hown hK hw hA zZ8 zm_337 zm_16 zm_17 zD8 (Nat.le_of_ble_eq_true rfl) (Nat.le_of_ble_eq_true rfl) zd_LassoFinder_init_37 (fun q37 H hw => ?_)
  refine lv_dup hx hb zd_LassoFinder_init_40 rfl ?_
  refine lv_aload_n hx hb zd_LassoFinder_init_41 rfl (lv_at hl 0 rfl) ?_
  refine z_get hx hb hts hown hK hw zZ0 0 rfl 0 (by decide) zm_330 rfl zd_LassoFinder_init_42 ?_
  refine lv_aload_n hx hb zd_LassoFinder_init_45 rfl (lv_at hl 0 rfl) ?_
  refine z_get hx hb hts hown hK hw zZ0 0 rfl 1 (by decide) zm_333 rfl zd_LassoFinder_init_46 ?_
  have hw : zW G A s.heap [(h0, zO 0 [.ref q5, .ref q16, .ref q27, .null, .null, .null, .null, .null, .null, .null, .int 0, .int 0, .int 0]), (q5, zO 9 [.ref (u9 0), .int 0, .int 0, .int 0, .int (-1)]), ((u9 0), zC K 240 (fun _ => 0)), (q16, zO 5 [.ref (u20 0), .ref (u20 1), .ref (u20 2), .ref (u20 3), .int 0, .int 0]), ((u20 0), zI K 8 (fun _ => 0)), ((u20 1), zI K 8 (fun _ => 0)), ((u20 2), zI K 6 (fun _ => 0)), ((u20 3), zI K 2 (fun _ => 0)), (q27, zO 6 [.ref (u31 0), .ref (u31 1), .ref (u31 2), .ref (u31 3), .ref (u31 4), .ref (u31 5), .ref (u31 6), .ref (u31 7), .ref (u31 8), .ref (u31 9), .ref (u31 10), .long 0, .int 0, .int 0]), ((u31 0), zI K 48 (fun _ => 0)), ((u31 1), zI K 48 (fun _ => 0)), ((u31 2), zI K 48 (fun _ => 0)), ((u31 3), zI K 48 (fun _ => 0)), ((u31 4), zI K 48 (fun _ => 0)), ((u31 5), zI K 48 (fun _ => 0)), ((u31 6), zZ K 48 (fun _ => 0)), ((u31 7), zJ K 8 (fun _ => 0)), ((u31 8), zI K 4 (fun _ => 0)), ((u31 9), zI K 32 (fun _ => 0)), ((u31 10), zJ K 124 (fun _ => 0)), (q37, zO 8 [.null, .null, .null, .int 0, .null, .int 0, .null, .int 0, .int 0, .int 0])] H locs := hw
  refine z_callv (w1 := fun u49 => [(q37, zO 8 [.ref q5, .ref q16, .ref (u49 0), .int 0, .ref (u49 1), .int 0, .ref (u49 2), .int 0, .int 0, .int 0]), ((u49 0), zI K 480 (fun _ => 0)), ((u49 1), zI K 20 (fun _ => 0)), ((u49 2), zI K 13 (fun _ => 0))]) (wr := [(h0, zO 0 [.ref q5, .ref q16, .ref q27, .null, .null, .null, .null, .null, .null, .null, .int 0, .int 0, .int 0]), (q5, zO 9 [.ref (u9 0), .int 0, .int 0, .int 0, .int (-1)]), ((u9 0), zC K 240 (fun _ => 0)), (q16, zO 5 [.ref (u20 0), .ref (u20 1), .ref (u20 2), .ref (u20 3), .int 0, .int 0]), ((u20 0), zI K 8 (fun _ => 0)), ((u20 1), zI K 8 (fun _ => 0)), ((u20 2), zI K 6 (fun _ => 0)), ((u20 3), zI K 2 (fun _ => 0)), (q27, zO 6 [.ref (u31 0), .ref (u31 1), .ref (u31 2), .ref (u31 3), .ref (u31 4), .ref (u31 5), .ref (u31 6), .ref (u31 7), .ref (u31 8), .ref (u31 9), .ref (u31 10), .long 0, .int 0, .int 0]), ((u31 0), zI K 48 (fun _ => 0)), ((u31 1), zI K 48 (fun _ => 0)), ((u31 2), zI K 48 (fun _ => 0)), ((u31 3), zI K 48 (fun _ => 0)), ((u31 4), zI K 48 (fun _ => 0)), ((u31 5), zI K 48 (fun _ => 0)), ((u31 6), zZ K 48 (fun _ => 0)), ((u31 7), zJ K 8 (fun _ => 0)), ((u31 8), zI K 4 (fun _ => 0)), ((u31 9), zI K 32 (fun _ => 0)), ((u31 10), zJ K 124 (fun _ => 0))]) (z_runI (wc := [(q37, zO 8 [.null, .null, .null, .int 0, .null, .int 0, .null, .int 0, .int 0, .int 0])]) (As := [.ref q5, .ref q16]) (rest := [.ref q37]) ⟨hx, hb, hml, hown, hts⟩ (c_Terms_init l G K q37 q5 q16 H.size ) zf_Terms_init zm_338 ⟨Nat.le_of_ble_eq_true rfl, Nat.le_of_ble_eq_true rfl⟩ hK hw [20] rfl (by decide) rfl hl.1 rfl (Nat.le_of_ble_eq_true rfl) zd_LassoFinder_init_49 ⟨Nat.le_of_ble_eq_true rfl, Nat.le_of_ble_eq_true rfl⟩) hw hA [20] [0, 1, 2, 3, 4, 5, 6, 7, 8, 9, 10, 11, 12, 13, 14, 15, 16, 17, 18, 19] rfl rfl (by decide) (by decide) (fun u49 H locs hu hw => ?_)
  have hw : zW G A s.heap [(h0, zO 0 [.ref q5, .ref q16, .ref q27, .null, .null, .null, .null, .null, .null, .null, .int 0, .int 0, .int 0]), (q5, zO 9 [.ref (u9 0), .int 0, .int 0, .int 0, .int (-1)]), ((u9 0), zC K 240 (fun _ => 0)), (q16, zO 5 [.ref (u20 0), .ref (u20 1), .ref (u20 2), .ref (u20 3), .int 0, .int 0]), ((u20 0), zI K 8 (fun _ => 0)), ((u20 1), zI K 8 (fun _ => 0)), ((u20 2), zI K 6 (fun _ => 0)), ((u20 3), zI K 2 (fun _ => 0)), (q27, zO 6 [.ref (u31 0), .ref (u31 1), .ref (u31 2), .ref (u31 3), .ref (u31 4), .ref (u31 5), .ref (u31 6), .ref (u31 7), .ref (u31 8), .ref (u31 9), .ref (u31 10), .long 0, .int 0, .int 0]), ((u31 0), zI K 48 (fun _ => 0)), ((u31 1), zI K 48 (fun _ => 0)), ((u31 2), zI K 48 (fun _ => 0)), ((u31 3), zI K 48 (fun _ => 0)), ((u31 4), zI K 48 (fun _ => 0)), ((u31 5), zI K 48 (fun _ => 0)), ((u31 6), zZ K 48 (fun _ => 0)), ((u31 7), zJ K 8 (fun _ => 0)), ((u31 8), zI K 4 (fun _ => 0)), ((u31 9), zI K 32 (fun _ => 0)), ((u31 10), zJ K 124 (fun _ => 0)), (q37, zO 8 [.ref q5, .ref q16, .ref (u49 0), .int 0, .ref (u49 1), .int 0, .ref (u49 2), .int 0, .int 0, .int 0]), ((u49 0), zI K 480 (fun _ => 0)), ((u49 1), zI K 20 (fun _ => 0)), ((u49 2), zI K 13 (fun _ => 0))] H locs := hw
  refine lv_astore_n hx hb zd_LassoFinder_init_52 rfl hl (by decide) rfl (fun ls hl => ?_)
  have hl : lv_has ls 2 [(1, .ref q37), (0, .ref h0)] := hl
  refine lv_aload_n hx hb zd_LassoFinder_init_53 rfl (lv_at hl 1 rfl) ?_
  refine z_new (fs := [.null, .null, .null, .null, .null]) hx hb hts hown hK hw hA zZ4 zm_339 zm_8 zm_9 zD4 (Nat.le_of_ble_eq_true rfl) (Nat.le_of_ble_eq_true rfl) zd_LassoFinder_init_54 (fun q54 H hw => ?_)
  refine lv_dup hx hb zd_LassoFinder_init_57 rfl ?_
  refine lv_aload_n hx hb zd_LassoFinder_init_58 rfl (lv_at hl 1 rfl) ?_
  refine z_get hx hb hts hown hK hw zZ0 0 rfl 0 (by decide) zm_330 rfl zd_LassoFinder_init_59 ?_
  refine lv_aload_n hx hb zd_LassoFinder_init_62 rfl (lv_at hl 1 rfl) ?_
  refine z_get hx hb hts hown hK hw zZ0 0 rfl 1 (by decide) zm_333 rfl zd_LassoFinder_init_63 ?_
  refine lv_aload_n hx hb zd_LassoFinder_init_66 rfl (lv_at hl 0 rfl) ?_
  refine lv_aload_n hx hb zd_LassoFinder_init_67 rfl (lv_at hl 1 rfl) ?_
  refine z_get hx hb hts hown hK hw zZ0 0 rfl 2 (by decide) zm_336 rfl zd_LassoFinder_init_68 ?_
  have hw : zW G A s.heap [(h0, zO 0 [.ref q5, .ref q16, .ref q27, .null, .null, .null, .null, .null, .null, .null, .int 0, .int 0, .int 0]), (q5, zO 9 [.ref (u9 0), .int 0, .int 0, .int 0, .int (-1)]), ((u9 0), zC K 240 (fun _ => 0)), (q16, zO 5 [.ref (u20 0), .ref (u20 1), .ref (u20 2), .ref (u20 3), .int 0, .int 0]), ((u20 0), zI K 8 (fun _ => 0)), ((u20 1), zI K 8 (fun _ => 0)), ((u20 2), zI K 6 (fun _ => 0)), ((u20 3), zI K 2 (fun _ => 0)), (q27, zO 6 [.ref (u31 0), .ref (u31 1), .ref (u31 2), .ref (u31 3), .ref (u31 4), .ref (u31 5), .ref (u31 6), .ref (u31 7), .ref (u31 8), .ref (u31 9), .ref (u31 10), .long 0, .int 0, .int 0]), ((u31 0), zI K 48 (fun _ => 0)), ((u31 1), zI K 48 (fun _ => 0)), ((u31 2), zI K 48 (fun _ => 0)), ((u31 3), zI K 48 (fun _ => 0)), ((u31 4), zI K 48 (fun _ => 0)), ((u31 5), zI K 48 (fun _ => 0)), ((u31 6), zZ K 48 (fun _ => 0)), ((u31 7), zJ K 8 (fun _ => 0)), ((u31 8), zI K 4 (fun _ => 0)), ((u31 9), zI K 32 (fun _ => 0)), ((u31 10), zJ K 124 (fun _ => 0)), (q37, zO 8 [.ref q5, .ref q16, .ref (u49 0), .int 0, .ref (u49 1), .int 0, .ref (u49 2), .int 0, .int 0, .int 0]), ((u49 0), zI K 480 (fun _ => 0)), ((u49 1), zI K 20 (fun _ => 0)), ((u49 2), zI K 13 (fun _ => 0)), (q54, zO 4 [.null, .null, .null, .null, .null])] H locs := hw
  refine z_callv (w1 := fun u71 => [(q54, zO 4 [.ref q5, .ref q16, .ref q37, .ref q27, .ref (u71 0)]), ((u71 0), zO 10 [.ref (u71 1), .ref (u71 2), .ref (u71 3), .ref (u71 4), .ref (u71 5), .ref (u71 6), .ref (u71 7), .ref (u71 8), .ref (u71 9), .ref (u71 10), .ref (u71 11), .int 0, .int 0]), ((u71 1), zI K 240 (fun _ => 0)), ((u71 2), zI K 240 (fun _ => 0)), ((u71 3), zI K 240 (fun _ => 0)), ((u71 4), zI K 240 (fun _ => 0)), ((u71 5), zZ K 240 (fun _ => 0)), ((u71 6), zI K 240 (fun _ => 0)), ((u71 7), zI K 240 (fun _ => 0)), ((u71 8), zI K 240 (fun _ => 0)), ((u71 9), zI K 240 (fun _ => 0)), ((u71 10), zI K 240 (fun _ => 0)), ((u71 11), zI K 8 (fun _ => 0))]) (wr := [(h0, zO 0 [.ref q5, .ref q16, .ref q27, .null, .null, .null, .null, .null, .null, .null, .int 0, .int 0, .int 0]), (q5, zO 9 [.ref (u9 0), .int 0, .int 0, .int 0, .int (-1)]), ((u9 0), zC K 240 (fun _ => 0)), (q16, zO 5 [.ref (u20 0), .ref (u20 1), .ref (u20 2), .ref (u20 3), .int 0, .int 0]), ((u20 0), zI K 8 (fun _ => 0)), ((u20 1), zI K 8 (fun _ => 0)), ((u20 2), zI K 6 (fun _ => 0)), ((u20 3), zI K 2 (fun _ => 0)), (q27, zO 6 [.ref (u31 0), .ref (u31 1), .ref (u31 2), .ref (u31 3), .ref (u31 4), .ref (u31 5), .ref (u31 6), .ref (u31 7), .ref (u31 8), .ref (u31 9), .ref (u31 10), .long 0, .int 0, .int 0]), ((u31 0), zI K 48 (fun _ => 0)), ((u31 1), zI K 48 (fun _ => 0)), ((u31 2), zI K 48 (fun _ => 0)), ((u31 3), zI K 48 (fun _ => 0)), ((u31 4), zI K 48 (fun _ => 0)), ((u31 5), zI K 48 (fun _ => 0)), ((u31 6), zZ K 48 (fun _ => 0)), ((u31 7), zJ K 8 (fun _ => 0)), ((u31 8), zI K 4 (fun _ => 0)), ((u31 9), zI K 32 (fun _ => 0)), ((u31 10), zJ K 124 (fun _ => 0)), (q37, zO 8 [.ref q5, .ref q16, .ref (u49 0), .int 0, .ref (u49 1), .int 0, .ref (u49 2), .int 0, .int 0, .int 0]), ((u49 0), zI K 480 (fun _ => 0)), ((u49 1), zI K 20 (fun _ => 0)), ((u49 2), zI K 13 (fun _ => 0))]) (z_runI (wc := [(q54, zO 4 [.null, .null, .null, .null, .null])]) (As := [.ref q5, .ref q16, .ref q37, .ref q27]) (rest := [.ref q54, .ref h0]) ⟨hx, hb, hml, hown, hts⟩ (c_ModelReader_init l G K q54 q5 q16 q37 q27 H.size ) zf_ModelReader_init zm_340 ⟨Nat.le_of_ble_eq_true rfl, Nat.le_of_ble_eq_true rfl⟩ hK hw [24] rfl (by decide) rfl hl.1 rfl (Nat.le_of_ble_eq_true rfl) zd_LassoFinder_init_71 ⟨Nat.le_of_ble_eq_true rfl, Nat.le_of_ble_eq_true rfl⟩) hw hA [24] [0, 1, 2, 3, 4, 5, 6, 7, 8, 9, 10, 11, 12, 13, 14, 15, 16, 17, 18, 19, 20, 21, 22, 23] rfl rfl (by decide) (by decide) (fun u71 H locs hu hw => ?_)
  have hw : zW G A s.heap [(h0, zO 0 [.ref q5, .ref q16, .ref q27, .null, .null, .null, .null, .null, .null, .null, .int 0, .int 0, .int 0]), (q5, zO 9 [.ref (u9 0), .int 0, .int 0, .int 0, .int (-1)]), ((u9 0), zC K 240 (fun _ => 0)), (q16, zO 5 [.ref (u20 0), .ref (u20 1), .ref (u20 2), .ref (u20 3), .int 0, .int 0]), ((u20 0), zI K 8 (fun _ => 0)), ((u20 1), zI K 8 (fun _ => 0)), ((u20 2), zI K 6 (fun _ => 0)), ((u20 3), zI K 2 (fun _ => 0)), (q27, zO 6 [.ref (u31 0), .ref (u31 1), .ref (u31 2), .ref (u31 3), .ref (u31 4), .ref (u31 5), .ref (u31 6), .ref (u31 7), .ref (u31 8), .ref (u31 9), .ref (u31 10), .long 0, .int 0, .int 0]), ((u31 0), zI K 48 (fun _ => 0)), ((u31 1), zI K 48 (fun _ => 0)), ((u31 2), zI K 48 (fun _ => 0)), ((u31 3), zI K 48 (fun _ => 0)), ((u31 4), zI K 48 (fun _ => 0)), ((u31 5), zI K 48 (fun _ => 0)), ((u31 6), zZ K 48 (fun _ => 0)), ((u31 7), zJ K 8 (fun _ => 0)), ((u31 8), zI K 4 (fun _ => 0)), ((u31 9), zI K 32 (fun _ => 0)), ((u31 10), zJ K 124 (fun _ => 0)), (q37, zO 8 [.ref q5, .ref q16, .ref (u49 0), .int 0, .ref (u49 1), .int 0, .ref (u49 2), .int 0, .int 0, .int 0]), ((u49 0), zI K 480 (fun _ => 0)), ((u49 1), zI K 20 (fun _ => 0)), ((u49 2), zI K 13 (fun _ => 0)), (q54, zO 4 [.ref q5, .ref q16, .ref q37, .ref q27, .ref (u71 0)]), ((u71 0), zO 10 [.ref (u71 1), .ref (u71 2), .ref (u71 3), .ref (u71 4), .ref (u71 5), .ref (u71 6), .ref (u71 7), .ref (u71 8), .ref (u71 9), .ref (u71 10), .ref (u71 11), .int 0, .int 0]), ((u71 1), zI K 240 (fun _ => 0)), ((u71 2), zI K 240 (fun _ => 0)), ((u71 3), zI K 240 (fun _ => 0)), ((u71 4), zI K 240 (fun _ => 0)), ((u71 5), zZ K 240 (fun _ => 0)), ((u71 6), zI K 240 (fun _ => 0)), ((u71 7), zI K 240 (fun _ => 0)), ((u71 8), zI K 240 (fun _ => 0)), ((u71 9), zI K 240 (fun _ => 0)), ((u71 10), zI K 240 (fun _ => 0)), ((u71 11), zI K 8 (fun _ => 0))] H locs := hw
  refine z_putF hx hb hts hown hin hK hw zZ0 0 rfl 3 (by decide) zm_341 rfl rfl rfl rfl (Nat.le_of_ble_eq_true rfl) zd_LassoFinder_init_74 (fun H locs hw => ?_)
  refine lv_aload_n hx hb zd_LassoFinder_init_77 rfl (lv_at hl 1 rfl) ?_
  refine z_new (fs := [.null, .null, .null, .null, .null, .null, .int 0, .long 0]) hx hb hts hown hK hw hA zZ7 zm_342 zm_14 zm_15 zD7 (Nat.le_of_ble_eq_true rfl) (Nat.le_of_ble_eq_true rfl) zd_LassoFinder_init_78 (fun q78 H hw => ?_)
  refine lv_dup hx hb zd_LassoFinder_init_81 rfl ?_
  refine lv_aload_n hx hb zd_LassoFinder_init_82 rfl (lv_at hl 1 rfl) ?_
  refine z_get hx hb hts hown hK hw zZ0 0 rfl 1 (by decide) zm_333 rfl zd_LassoFinder_init_83 ?_
  refine lv_aload_n hx hb zd_LassoFinder_init_86 rfl (lv_at hl 0 rfl) ?_
  refine lv_aload_n hx hb zd_LassoFinder_init_87 rfl (lv_at hl 1 rfl) ?_
  refine z_get hx hb hts hown hK hw zZ0 0 rfl 2 (by decide) zm_336 rfl zd_LassoFinder_init_88 ?_
  have hw : zW G A s.heap [(h0, zO 0 [.ref q5, .ref q16, .ref q27, .ref q54, .null, .null, .null, .null, .null, .null, .int 0, .int 0, .int 0]), (q5, zO 9 [.ref (u9 0), .int 0, .int 0, .int 0, .int (-1)]), ((u9 0), zC K 240 (fun _ => 0)), (q16, zO 5 [.ref (u20 0), .ref (u20 1), .ref (u20 2), .ref (u20 3), .int 0, .int 0]), ((u20 0), zI K 8 (fun _ => 0)), ((u20 1), zI K 8 (fun _ => 0)), ((u20 2), zI K 6 (fun _ => 0)), ((u20 3), zI K 2 (fun _ => 0)), (q27, zO 6 [.ref (u31 0), .ref (u31 1), .ref (u31 2), .ref (u31 3), .ref (u31 4), .ref (u31 5), .ref (u31 6), .ref (u31 7), .ref (u31 8), .ref (u31 9), .ref (u31 10), .long 0, .int 0, .int 0]), ((u31 0), zI K 48 (fun _ => 0)), ((u31 1), zI K 48 (fun _ => 0)), ((u31 2), zI K 48 (fun _ => 0)), ((u31 3), zI K 48 (fun _ => 0)), ((u31 4), zI K 48 (fun _ => 0)), ((u31 5), zI K 48 (fun _ => 0)), ((u31 6), zZ K 48 (fun _ => 0)), ((u31 7), zJ K 8 (fun _ => 0)), ((u31 8), zI K 4 (fun _ => 0)), ((u31 9), zI K 32 (fun _ => 0)), ((u31 10), zJ K 124 (fun _ => 0)), (q37, zO 8 [.ref q5, .ref q16, .ref (u49 0), .int 0, .ref (u49 1), .int 0, .ref (u49 2), .int 0, .int 0, .int 0]), ((u49 0), zI K 480 (fun _ => 0)), ((u49 1), zI K 20 (fun _ => 0)), ((u49 2), zI K 13 (fun _ => 0)), (q54, zO 4 [.ref q5, .ref q16, .ref q37, .ref q27, .ref (u71 0)]), ((u71 0), zO 10 [.ref (u71 1), .ref (u71 2), .ref (u71 3), .ref (u71 4), .ref (u71 5), .ref (u71 6), .ref (u71 7), .ref (u71 8), .ref (u71 9), .ref (u71 10), .ref (u71 11), .int 0, .int 0]), ((u71 1), zI K 240 (fun _ => 0)), ((u71 2), zI K 240 (fun _ => 0)), ((u71 3), zI K 240 (fun _ => 0)), ((u71 4), zI K 240 (fun _ => 0)), ((u71 5), zZ K 240 (fun _ => 0)), ((u71 6), zI K 240 (fun _ => 0)), ((u71 7), zI K 240 (fun _ => 0)), ((u71 8), zI K 240 (fun _ => 0)), ((u71 9), zI K 240 (fun _ => 0)), ((u71 10), zI K 240 (fun _ => 0)), ((u71 11), zI K 8 (fun _ => 0)), (q78, zO 7 [.null, .null, .null, .null, .null, .null, .int 0, .long 0])] H locs := hw
  refine z_callv (w1 := fun u91 => [(q78, zO 7 [.ref q16, .ref q37, .ref q27, .ref (u91 0), .ref (u91 1), .ref (u91 2), .int (-1), .long 0]), ((u91 0), zI K 8 (fun _ => 0)), ((u91 1), zI K 24 (fun _ => 0)), ((u91 2), zI K 4 (fun _ => 0))]) (wr := [(h0, zO 0 [.ref q5, .ref q16, .ref q27, .ref q54, .null, .null, .null, .null, .null, .null, .int 0, .int 0, .int 0]), (q5, zO 9 [.ref (u9 0), .int 0, .int 0, .int 0, .int (-1)]), ((u9 0), zC K 240 (fun _ => 0)), (q16, zO 5 [.ref (u20 0), .ref (u20 1), .ref (u20 2), .ref (u20 3), .int 0, .int 0]), ((u20 0), zI K 8 (fun _ => 0)), ((u20 1), zI K 8 (fun _ => 0)), ((u20 2), zI K 6 (fun _ => 0)), ((u20 3), zI K 2 (fun _ => 0)), (q27, zO 6 [.ref (u31 0), .ref (u31 1), .ref (u31 2), .ref (u31 3), .ref (u31 4), .ref (u31 5), .ref (u31 6), .ref (u31 7), .ref (u31 8), .ref (u31 9), .ref (u31 10), .long 0, .int 0, .int 0]), ((u31 0), zI K 48 (fun _ => 0)), ((u31 1), zI K 48 (fun _ => 0)), ((u31 2), zI K 48 (fun _ => 0)), ((u31 3), zI K 48 (fun _ => 0)), ((u31 4), zI K 48 (fun _ => 0)), ((u31 5), zI K 48 (fun _ => 0)), ((u31 6), zZ K 48 (fun _ => 0)), ((u31 7), zJ K 8 (fun _ => 0)), ((u31 8), zI K 4 (fun _ => 0)), ((u31 9), zI K 32 (fun _ => 0)), ((u31 10), zJ K 124 (fun _ => 0)), (q37, zO 8 [.ref q5, .ref q16, .ref (u49 0), .int 0, .ref (u49 1), .int 0, .ref (u49 2), .int 0, .int 0, .int 0]), ((u49 0), zI K 480 (fun _ => 0)), ((u49 1), zI K 20 (fun _ => 0)), ((u49 2), zI K 13 (fun _ => 0)), (q54, zO 4 [.ref q5, .ref q16, .ref q37, .ref q27, .ref (u71 0)]), ((u71 0), zO 10 [.ref (u71 1), .ref (u71 2), .ref (u71 3), .ref (u71 4), .ref (u71 5), .ref (u71 6), .ref (u71 7), .ref (u71 8), .ref (u71 9), .ref (u71 10), .ref (u71 11), .int 0, .int 0]), ((u71 1), zI K 240 (fun _ => 0)), ((u71 2), zI K 240 (fun _ => 0)), ((u71 3), zI K 240 (fun _ => 0)), ((u71 4), zI K 240 (fun _ => 0)), ((u71 5), zZ K 240 (fun _ => 0)), ((u71 6), zI K 240 (fun _ => 0)), ((u71 7), zI K 240 (fun _ => 0)), ((u71 8), zI K 240 (fun _ => 0)), ((u71 9), zI K 240 (fun _ => 0)), ((u71 10), zI K 240 (fun _ => 0)), ((u71 11), zI K 8 (fun _ => 0))]) (z_runI (wc := [(q78, zO 7 [.null, .null, .null, .null, .null, .null, .int 0, .long 0])]) (As := [.ref q16, .ref q37, .ref q27]) (rest := [.ref q78, .ref h0]) ⟨hx, hb, hml, hown, hts⟩ (c_Situation_init l G K q78 q16 q37 q27 H.size ) zf_Situation_init zm_343 ⟨Nat.le_of_ble_eq_true rfl, Nat.le_of_ble_eq_true rfl⟩ hK hw [37] rfl (by decide) rfl hl.1 rfl (Nat.le_of_ble_eq_true rfl) zd_LassoFinder_init_91 ⟨Nat.le_of_ble_eq_true rfl, Nat.le_of_ble_eq_true rfl⟩) hw hA [37] [0, 1, 2, 3, 4, 5, 6, 7, 8, 9, 10, 11, 12, 13, 14, 15, 16, 17, 18, 19, 20, 21, 22, 23, 24, 25, 26, 27, 28, 29, 30, 31, 32, 33, 34, 35, 36] rfl rfl (by decide) (by decide) (fun u91 H locs hu hw => ?_)
  have hw : zW G A s.heap [(h0, zO 0 [.ref q5, .ref q16, .ref q27, .ref q54, .null, .null, .null, .null, .null, .null, .int 0, .int 0, .int 0]), (q5, zO 9 [.ref (u9 0), .int 0, .int 0, .int 0, .int (-1)]), ((u9 0), zC K 240 (fun _ => 0)), (q16, zO 5 [.ref (u20 0), .ref (u20 1), .ref (u20 2), .ref (u20 3), .int 0, .int 0]), ((u20 0), zI K 8 (fun _ => 0)), ((u20 1), zI K 8 (fun _ => 0)), ((u20 2), zI K 6 (fun _ => 0)), ((u20 3), zI K 2 (fun _ => 0)), (q27, zO 6 [.ref (u31 0), .ref (u31 1), .ref (u31 2), .ref (u31 3), .ref (u31 4), .ref (u31 5), .ref (u31 6), .ref (u31 7), .ref (u31 8), .ref (u31 9), .ref (u31 10), .long 0, .int 0, .int 0]), ((u31 0), zI K 48 (fun _ => 0)), ((u31 1), zI K 48 (fun _ => 0)), ((u31 2), zI K 48 (fun _ => 0)), ((u31 3), zI K 48 (fun _ => 0)), ((u31 4), zI K 48 (fun _ => 0)), ((u31 5), zI K 48 (fun _ => 0)), ((u31 6), zZ K 48 (fun _ => 0)), ((u31 7), zJ K 8 (fun _ => 0)), ((u31 8), zI K 4 (fun _ => 0)), ((u31 9), zI K 32 (fun _ => 0)), ((u31 10), zJ K 124 (fun _ => 0)), (q37, zO 8 [.ref q5, .ref q16, .ref (u49 0), .int 0, .ref (u49 1), .int 0, .ref (u49 2), .int 0, .int 0, .int 0]), ((u49 0), zI K 480 (fun _ => 0)), ((u49 1), zI K 20 (fun _ => 0)), ((u49 2), zI K 13 (fun _ => 0)), (q54, zO 4 [.ref q5, .ref q16, .ref q37, .ref q27, .ref (u71 0)]), ((u71 0), zO 10 [.ref (u71 1), .ref (u71 2), .ref (u71 3), .ref (u71 4), .ref (u71 5), .ref (u71 6), .ref (u71 7), .ref (u71 8), .ref (u71 9), .ref (u71 10), .ref (u71 11), .int 0, .int 0]), ((u71 1), zI K 240 (fun _ => 0)), ((u71 2), zI K 240 (fun _ => 0)), ((u71 3), zI K 240 (fun _ => 0)), ((u71 4), zI K 240 (fun _ => 0)), ((u71 5), zZ K 240 (fun _ => 0)), ((u71 6), zI K 240 (fun _ => 0)), ((u71 7), zI K 240 (fun _ => 0)), ((u71 8), zI K 240 (fun _ => 0)), ((u71 9), zI K 240 (fun _ => 0)), ((u71 10), zI K 240 (fun _ => 0)), ((u71 11), zI K 8 (fun _ => 0)), (q78, zO 7 [.ref q16, .ref q37, .ref q27, .ref (u91 0), .ref (u91 1), .ref (u91 2), .int (-1), .long 0]), ((u91 0), zI K 8 (fun _ => 0)), ((u91 1), zI K 24 (fun _ => 0)), ((u91 2), zI K 4 (fun _ => 0))] H locs := hw
  refine z_putF hx hb hts hown hin hK hw zZ0 0 rfl 4 (by decide) zm_344 rfl rfl rfl rfl (Nat.le_of_ble_eq_true rfl) zd_LassoFinder_init_94 (fun H locs hw => ?_)
  refine lv_aload_n hx hb zd_LassoFinder_init_97 rfl (lv_at hl 1 rfl) ?_
  refine z_new (fs := [.null, .null, .null, .null, .null, .null, .null, .null, .null, .int 0, .int 0]) hx hb hts hown hK hw hA zZ2 zm_345 zm_4 zm_5 zD2 (Nat.le_of_ble_eq_true rfl) (Nat.le_of_ble_eq_true rfl) zd_LassoFinder_init_98 (fun q98 H hw => ?_)
  refine lv_dup hx hb zd_LassoFinder_init_101 rfl ?_
  refine lv_aload_n hx hb zd_LassoFinder_init_102 rfl (lv_at hl 1 rfl) ?_
  refine z_get hx hb hts hown hK hw zZ0 0 rfl 4 (by decide) zm_344 rfl zd_LassoFinder_init_103 ?_
  have hw : zW G A s.heap [(h0, zO 0 [.ref q5, .ref q16, .ref q27, .ref q54, .ref q78, .null, .null, .null, .null, .null, .int 0, .int 0, .int 0]), (q5, zO 9 [.ref (u9 0), .int 0, .int 0, .int 0, .int (-1)]), ((u9 0), zC K 240 (fun _ => 0)), (q16, zO 5 [.ref (u20 0), .ref (u20 1), .ref (u20 2), .ref (u20 3), .int 0, .int 0]), ((u20 0), zI K 8 (fun _ => 0)), ((u20 1), zI K 8 (fun _ => 0)), ((u20 2), zI K 6 (fun _ => 0)), ((u20 3), zI K 2 (fun _ => 0)), (q27, zO 6 [.ref (u31 0), .ref (u31 1), .ref (u31 2), .ref (u31 3), .ref (u31 4), .ref (u31 5), .ref (u31 6), .ref (u31 7), .ref (u31 8), .ref (u31 9), .ref (u31 10), .long 0, .int 0, .int 0]), ((u31 0), zI K 48 (fun _ => 0)), ((u31 1), zI K 48 (fun _ => 0)), ((u31 2), zI K 48 (fun _ => 0)), ((u31 3), zI K 48 (fun _ => 0)), ((u31 4), zI K 48 (fun _ => 0)), ((u31 5), zI K 48 (fun _ => 0)), ((u31 6), zZ K 48 (fun _ => 0)), ((u31 7), zJ K 8 (fun _ => 0)), ((u31 8), zI K 4 (fun _ => 0)), ((u31 9), zI K 32 (fun _ => 0)), ((u31 10), zJ K 124 (fun _ => 0)), (q37, zO 8 [.ref q5, .ref q16, .ref (u49 0), .int 0, .ref (u49 1), .int 0, .ref (u49 2), .int 0, .int 0, .int 0]), ((u49 0), zI K 480 (fun _ => 0)), ((u49 1), zI K 20 (fun _ => 0)), ((u49 2), zI K 13 (fun _ => 0)), (q54, zO 4 [.ref q5, .ref q16, .ref q37, .ref q27, .ref (u71 0)]), ((u71 0), zO 10 [.ref (u71 1), .ref (u71 2), .ref (u71 3), .ref (u71 4), .ref (u71 5), .ref (u71 6), .ref (u71 7), .ref (u71 8), .ref (u71 9), .ref (u71 10), .ref (u71 11), .int 0, .int 0]), ((u71 1), zI K 240 (fun _ => 0)), ((u71 2), zI K 240 (fun _ => 0)), ((u71 3), zI K 240 (fun _ => 0)), ((u71 4), zI K 240 (fun _ => 0)), ((u71 5), zZ K 240 (fun _ => 0)), ((u71 6), zI K 240 (fun _ => 0)), ((u71 7), zI K 240 (fun _ => 0)), ((u71 8), zI K 240 (fun _ => 0)), ((u71 9), zI K 240 (fun _ => 0)), ((u71 10), zI K 240 (fun _ => 0)), ((u71 11), zI K 8 (fun _ => 0)), (q78, zO 7 [.ref q16, .ref q37, .ref q27, .ref (u91 0), .ref (u91 1), .ref (u91 2), .int (-1), .long 0]), ((u91 0), zI K 8 (fun _ => 0)), ((u91 1), zI K 24 (fun _ => 0)), ((u91 2), zI K 4 (fun _ => 0)), (q98, zO 2 [.null, .null, .null, .null, .null, .null, .null, .null, .null, .int 0, .int 0])] H locs := hw
  refine z_callv (w1 := fun u106 => [(q98, zO 2 [.ref q78, .ref (u106 0), .ref (u106 1), .ref (u106 2), .ref (u106 3), .ref (u106 4), .ref (u106 5), .ref (u106 6), .ref (u106 7), .int 0, .int 0]), ((u106 0), zJ K 96 (fun _ => 0)), ((u106 1), zI K 97 (fun _ => 0)), ((u106 2), zI K 400 (fun _ => 0)), ((u106 3), zI K 400 (fun _ => 0)), ((u106 4), zI K 400 (fun _ => 0)), ((u106 5), zI K 400 (fun _ => 0)), ((u106 6), zI K 97 (fun _ => 0)), ((u106 7), zI K 400 (fun _ => 0))]) (wr := [(h0, zO 0 [.ref q5, .ref q16, .ref q27, .ref q54, .ref q78, .null, .null, .null, .null, .null, .int 0, .int 0, .int 0]), (q5, zO 9 [.ref (u9 0), .int 0, .int 0, .int 0, .int (-1)]), ((u9 0), zC K 240 (fun _ => 0)), (q16, zO 5 [.ref (u20 0), .ref (u20 1), .ref (u20 2), .ref (u20 3), .int 0, .int 0]), ((u20 0), zI K 8 (fun _ => 0)), ((u20 1), zI K 8 (fun _ => 0)), ((u20 2), zI K 6 (fun _ => 0)), ((u20 3), zI K 2 (fun _ => 0)), (q27, zO 6 [.ref (u31 0), .ref (u31 1), .ref (u31 2), .ref (u31 3), .ref (u31 4), .ref (u31 5), .ref (u31 6), .ref (u31 7), .ref (u31 8), .ref (u31 9), .ref (u31 10), .long 0, .int 0, .int 0]), ((u31 0), zI K 48 (fun _ => 0)), ((u31 1), zI K 48 (fun _ => 0)), ((u31 2), zI K 48 (fun _ => 0)), ((u31 3), zI K 48 (fun _ => 0)), ((u31 4), zI K 48 (fun _ => 0)), ((u31 5), zI K 48 (fun _ => 0)), ((u31 6), zZ K 48 (fun _ => 0)), ((u31 7), zJ K 8 (fun _ => 0)), ((u31 8), zI K 4 (fun _ => 0)), ((u31 9), zI K 32 (fun _ => 0)), ((u31 10), zJ K 124 (fun _ => 0)), (q37, zO 8 [.ref q5, .ref q16, .ref (u49 0), .int 0, .ref (u49 1), .int 0, .ref (u49 2), .int 0, .int 0, .int 0]), ((u49 0), zI K 480 (fun _ => 0)), ((u49 1), zI K 20 (fun _ => 0)), ((u49 2), zI K 13 (fun _ => 0)), (q54, zO 4 [.ref q5, .ref q16, .ref q37, .ref q27, .ref (u71 0)]), ((u71 0), zO 10 [.ref (u71 1), .ref (u71 2), .ref (u71 3), .ref (u71 4), .ref (u71 5), .ref (u71 6), .ref (u71 7), .ref (u71 8), .ref (u71 9), .ref (u71 10), .ref (u71 11), .int 0, .int 0]), ((u71 1), zI K 240 (fun _ => 0)), ((u71 2), zI K 240 (fun _ => 0)), ((u71 3), zI K 240 (fun _ => 0)), ((u71 4), zI K 240 (fun _ => 0)), ((u71 5), zZ K 240 (fun _ => 0)), ((u71 6), zI K 240 (fun _ => 0)), ((u71 7), zI K 240 (fun _ => 0)), ((u71 8), zI K 240 (fun _ => 0)), ((u71 9), zI K 240 (fun _ => 0)), ((u71 10), zI K 240 (fun _ => 0)), ((u71 11), zI K 8 (fun _ => 0)), (q78, zO 7 [.ref q16, .ref q37, .ref q27, .ref (u91 0), .ref (u91 1), .ref (u91 2), .int (-1), .long 0]), ((u91 0), zI K 8 (fun _ => 0)), ((u91 1), zI K 24 (fun _ => 0)), ((u91 2), zI K 4 (fun _ => 0))]) (z_runI (wc := [(q98, zO 2 [.null, .null, .null, .null, .null, .null, .null, .null, .null, .int 0, .int 0])]) (As := [.ref q78]) (rest := [.ref q98, .ref h0]) ⟨hx, hb, hml, hown, hts⟩ (c_Graph_init l G K q98 q78 H.size ) zf_Graph_init zm_346 ⟨Nat.le_of_ble_eq_true rfl, Nat.le_of_ble_eq_true rfl⟩ hK hw [41] rfl (by decide) rfl hl.1 rfl (Nat.le_of_ble_eq_true rfl) zd_LassoFinder_init_106 ⟨Nat.le_of_ble_eq_true rfl, Nat.le_of_ble_eq_true rfl⟩) hw hA [41] [0, 1, 2, 3, 4, 5, 6, 7, 8, 9, 10, 11, 12, 13, 14, 15, 16, 17, 18, 19, 20, 21, 22, 23, 24, 25, 26, 27, 28, 29, 30, 31, 32, 33, 34, 35, 36, 37, 38, 39, 40] rfl rfl (by decide) (by decide) (fun u106 H locs hu hw => ?_)
  have hw : zW G A s.heap [(h0, zO 0 [.ref q5, .ref q16, .ref q27, .ref q54, .ref q78, .null, .null, .null, .null, .null, .int 0, .int 0, .int 0]), (q5, zO 9 [.ref (u9 0), .int 0, .int 0, .int 0, .int (-1)]), ((u9 0), zC K 240 (fun _ => 0)), (q16, zO 5 [.ref (u20 0), .ref (u20 1), .ref (u20 2), .ref (u20 3), .int 0, .int 0]), ((u20 0), zI K 8 (fun _ => 0)), ((u20 1), zI K 8 (fun _ => 0)), ((u20 2), zI K 6 (fun _ => 0)), ((u20 3), zI K 2 (fun _ => 0)), (q27, zO 6 [.ref (u31 0), .ref (u31 1), .ref (u31 2), .ref (u31 3), .ref (u31 4), .ref (u31 5), .ref (u31 6), .ref (u31 7), .ref (u31 8), .ref (u31 9), .ref (u31 10), .long 0, .int 0, .int 0]), ((u31 0), zI K 48 (fun _ => 0)), ((u31 1), zI K 48 (fun _ => 0)), ((u31 2), zI K 48 (fun _ => 0)), ((u31 3), zI K 48 (fun _ => 0)), ((u31 4), zI K 48 (fun _ => 0)), ((u31 5), zI K 48 (fun _ => 0)), ((u31 6), zZ K 48 (fun _ => 0)), ((u31 7), zJ K 8 (fun _ => 0)), ((u31 8), zI K 4 (fun _ => 0)), ((u31 9), zI K 32 (fun _ => 0)), ((u31 10), zJ K 124 (fun _ => 0)), (q37, zO 8 [.ref q5, .ref q16, .ref (u49 0), .int 0, .ref (u49 1), .int 0, .ref (u49 2), .int 0, .int 0, .int 0]), ((u49 0), zI K 480 (fun _ => 0)), ((u49 1), zI K 20 (fun _ => 0)), ((u49 2), zI K 13 (fun _ => 0)), (q54, zO 4 [.ref q5, .ref q16, .ref q37, .ref q27, .ref (u71 0)]), ((u71 0), zO 10 [.ref (u71 1), .ref (u71 2), .ref (u71 3), .ref (u71 4), .ref (u71 5), .ref (u71 6), .ref (u71 7), .ref (u71 8), .ref (u71 9), .ref (u71 10), .ref (u71 11), .int 0, .int 0]), ((u71 1), zI K 240 (fun _ => 0)), ((u71 2), zI K 240 (fun _ => 0)), ((u71 3), zI K 240 (fun _ => 0)), ((u71 4), zI K 240 (fun _ => 0)), ((u71 5), zZ K 240 (fun _ => 0)), ((u71 6), zI K 240 (fun _ => 0)), ((u71 7), zI K 240 (fun _ => 0)), ((u71 8), zI K 240 (fun _ => 0)), ((u71 9), zI K 240 (fun _ => 0)), ((u71 10), zI K 240 (fun _ => 0)), ((u71 11), zI K 8 (fun _ => 0)), (q78, zO 7 [.ref q16, .ref q37, .ref q27, .ref (u91 0), .ref (u91 1), .ref (u91 2), .int (-1), .long 0]), ((u91 0), zI K 8 (fun _ => 0)), ((u91 1), zI K 24 (fun _ => 0)), ((u91 2), zI K 4 (fun _ => 0)), (q98, zO 2 [.ref q78, .ref (u106 0), .ref (u106 1), .ref (u106 2), .ref (u106 3), .ref (u106 4), .ref (u106 5), .ref (u106 6), .ref (u106 7), .int 0, .int 0]), ((u106 0), zJ K 96 (fun _ => 0)), ((u106 1), zI K 97 (fun _ => 0)), ((u106 2), zI K 400 (fun _ => 0)), ((u106 3), zI K 400 (fun _ => 0)), ((u106 4), zI K 400 (fun _ => 0)), ((u106 5), zI K 400 (fun _ => 0)), ((u106 6), zI K 97 (fun _ => 0)), ((u106 7), zI K 400 (fun _ => 0))] H locs := hw
  refine z_putF hx hb hts hown hin hK hw zZ0 0 rfl 5 (by decide) zm_347 rfl rfl rfl rfl (Nat.le_of_ble_eq_true rfl) zd_LassoFinder_init_109 (fun H locs hw => ?_)
  refine lv_aload_n hx hb zd_LassoFinder_init_112 rfl (lv_at hl 1 rfl) ?_
  refine z_new (fs := [.null, .null, .null, .null, .null, .null, .null, .int 0, .int 0, .int 0, .int 0]) hx hb hts hown hK hw hA zZ1 zm_348 zm_2 zm_3 zD1 (Nat.le_of_ble_eq_true rfl) (Nat.le_of_ble_eq_true rfl) zd_LassoFinder_init_113 (fun q113 H hw => ?_)
  refine lv_dup hx hb zd_LassoFinder_init_116 rfl ?_
  refine lv_aload_n hx hb zd_LassoFinder_init_117 rfl (lv_at hl 1 rfl) ?_
  refine z_get hx hb hts hown hK hw zZ0 0 rfl 0 (by decide) zm_330 rfl zd_LassoFinder_init_118 ?_
  refine lv_aload_n hx hb zd_LassoFinder_init_121 rfl (lv_at hl 1 rfl) ?_
  refine z_get hx hb hts hown hK hw zZ0 0 rfl 1 (by decide) zm_333 rfl zd_LassoFinder_init_122 ?_
  refine lv_aload_n hx hb zd_LassoFinder_init_125 rfl (lv_at hl 1 rfl) ?_
  refine z_get hx hb hts hown hK hw zZ0 0 rfl 2 (by decide) zm_336 rfl zd_LassoFinder_init_126 ?_
  have hw : zW G A s.heap [(h0, zO 0 [.ref q5, .ref q16, .ref q27, .ref q54, .ref q78, .ref q98, .null, .null, .null, .null, .int 0, .int 0, .int 0]), (q5, zO 9 [.ref (u9 0), .int 0, .int 0, .int 0, .int (-1)]), ((u9 0), zC K 240 (fun _ => 0)), (q16, zO 5 [.ref (u20 0), .ref (u20 1), .ref (u20 2), .ref (u20 3), .int 0, .int 0]), ((u20 0), zI K 8 (fun _ => 0)), ((u20 1), zI K 8 (fun _ => 0)), ((u20 2), zI K 6 (fun _ => 0)), ((u20 3), zI K 2 (fun _ => 0)), (q27, zO 6 [.ref (u31 0), .ref (u31 1), .ref (u31 2), .ref (u31 3), .ref (u31 4), .ref (u31 5), .ref (u31 6), .ref (u31 7), .ref (u31 8), .ref (u31 9), .ref (u31 10), .long 0, .int 0, .int 0]), ((u31 0), zI K 48 (fun _ => 0)), ((u31 1), zI K 48 (fun _ => 0)), ((u31 2), zI K 48 (fun _ => 0)), ((u31 3), zI K 48 (fun _ => 0)), ((u31 4), zI K 48 (fun _ => 0)), ((u31 5), zI K 48 (fun _ => 0)), ((u31 6), zZ K 48 (fun _ => 0)), ((u31 7), zJ K 8 (fun _ => 0)), ((u31 8), zI K 4 (fun _ => 0)), ((u31 9), zI K 32 (fun _ => 0)), ((u31 10), zJ K 124 (fun _ => 0)), (q37, zO 8 [.ref q5, .ref q16, .ref (u49 0), .int 0, .ref (u49 1), .int 0, .ref (u49 2), .int 0, .int 0, .int 0]), ((u49 0), zI K 480 (fun _ => 0)), ((u49 1), zI K 20 (fun _ => 0)), ((u49 2), zI K 13 (fun _ => 0)), (q54, zO 4 [.ref q5, .ref q16, .ref q37, .ref q27, .ref (u71 0)]), ((u71 0), zO 10 [.ref (u71 1), .ref (u71 2), .ref (u71 3), .ref (u71 4), .ref (u71 5), .ref (u71 6), .ref (u71 7), .ref (u71 8), .ref (u71 9), .ref (u71 10), .ref (u71 11), .int 0, .int 0]), ((u71 1), zI K 240 (fun _ => 0)), ((u71 2), zI K 240 (fun _ => 0)), ((u71 3), zI K 240 (fun _ => 0)), ((u71 4), zI K 240 (fun _ => 0)), ((u71 5), zZ K 240 (fun _ => 0)), ((u71 6), zI K 240 (fun _ => 0)), ((u71 7), zI K 240 (fun _ => 0)), ((u71 8), zI K 240 (fun _ => 0)), ((u71 9), zI K 240 (fun _ => 0)), ((u71 10), zI K 240 (fun _ => 0)), ((u71 11), zI K 8 (fun _ => 0)), (q78, zO 7 [.ref q16, .ref q37, .ref q27, .ref (u91 0), .ref (u91 1), .ref (u91 2), .int (-1), .long 0]), ((u91 0), zI K 8 (fun _ => 0)), ((u91 1), zI K 24 (fun _ => 0)), ((u91 2), zI K 4 (fun _ => 0)), (q98, zO 2 [.ref q78, .ref (u106 0), .ref (u106 1), .ref (u106 2), .ref (u106 3), .ref (u106 4), .ref (u106 5), .ref (u106 6), .ref (u106 7), .int 0, .int 0]), ((u106 0), zJ K 96 (fun _ => 0)), ((u106 1), zI K 97 (fun _ => 0)), ((u106 2), zI K 400 (fun _ => 0)), ((u106 3), zI K 400 (fun _ => 0)), ((u106 4), zI K 400 (fun _ => 0)), ((u106 5), zI K 400 (fun _ => 0)), ((u106 6), zI K 97 (fun _ => 0)), ((u106 7), zI K 400 (fun _ => 0)), (q113, zO 1 [.null, .null, .null, .null, .null, .null, .null, .int 0, .int 0, .int 0, .int 0])] H locs := hw
  refine z_callv (w1 := fun u129 => [(q113, zO 1 [.ref q5, .ref q27, .ref (u129 0), .ref (u129 4), .ref (u129 5), .ref (u129 6), .ref (u129 7), .int 0, .int 0, .int 0, .int 0]), ((u129 0), zO 8 [.ref q5, .ref q16, .ref (u129 1), .int 0, .ref (u129 2), .int 0, .ref (u129 3), .int 0, .int 0, .int 0]), ((u129 1), zI K 480 (fun _ => 0)), ((u129 2), zI K 20 (fun _ => 0)), ((u129 3), zI K 13 (fun _ => 0)), ((u129 4), zI K 240 (fun _ => 0)), ((u129 5), zI K 240 (fun _ => 0)), ((u129 6), zI K 240 (fun _ => 0)), ((u129 7), zI K 3 (fun _ => 0))]) (wr := [(h0, zO 0 [.ref q5, .ref q16, .ref q27, .ref q54, .ref q78, .ref q98, .null, .null, .null, .null, .int 0, .int 0, .int 0]), (q5, zO 9 [.ref (u9 0), .int 0, .int 0, .int 0, .int (-1)]), ((u9 0), zC K 240 (fun _ => 0)), (q16, zO 5 [.ref (u20 0), .ref (u20 1), .ref (u20 2), .ref (u20 3), .int 0, .int 0]), ((u20 0), zI K 8 (fun _ => 0)), ((u20 1), zI K 8 (fun _ => 0)), ((u20 2), zI K 6 (fun _ => 0)), ((u20 3), zI K 2 (fun _ => 0)), (q27, zO 6 [.ref (u31 0), .ref (u31 1), .ref (u31 2), .ref (u31 3), .ref (u31 4), .ref (u31 5), .ref (u31 6), .ref (u31 7), .ref (u31 8), .ref (u31 9), .ref (u31 10), .long 0, .int 0, .int 0]), ((u31 0), zI K 48 (fun _ => 0)), ((u31 1), zI K 48 (fun _ => 0)), ((u31 2), zI K 48 (fun _ => 0)), ((u31 3), zI K 48 (fun _ => 0)), ((u31 4), zI K 48 (fun _ => 0)), ((u31 5), zI K 48 (fun _ => 0)), ((u31 6), zZ K 48 (fun _ => 0)), ((u31 7), zJ K 8 (fun _ => 0)), ((u31 8), zI K 4 (fun _ => 0)), ((u31 9), zI K 32 (fun _ => 0)), ((u31 10), zJ K 124 (fun _ => 0)), (q37, zO 8 [.ref q5, .ref q16, .ref (u49 0), .int 0, .ref (u49 1), .int 0, .ref (u49 2), .int 0, .int 0, .int 0]), ((u49 0), zI K 480 (fun _ => 0)), ((u49 1), zI K 20 (fun _ => 0)), ((u49 2), zI K 13 (fun _ => 0)), (q54, zO 4 [.ref q5, .ref q16, .ref q37, .ref q27, .ref (u71 0)]), ((u71 0), zO 10 [.ref (u71 1), .ref (u71 2), .ref (u71 3), .ref (u71 4), .ref (u71 5), .ref (u71 6), .ref (u71 7), .ref (u71 8), .ref (u71 9), .ref (u71 10), .ref (u71 11), .int 0, .int 0]), ((u71 1), zI K 240 (fun _ => 0)), ((u71 2), zI K 240 (fun _ => 0)), ((u71 3), zI K 240 (fun _ => 0)), ((u71 4), zI K 240 (fun _ => 0)), ((u71 5), zZ K 240 (fun _ => 0)), ((u71 6), zI K 240 (fun _ => 0)), ((u71 7), zI K 240 (fun _ => 0)), ((u71 8), zI K 240 (fun _ => 0)), ((u71 9), zI K 240 (fun _ => 0)), ((u71 10), zI K 240 (fun _ => 0)), ((u71 11), zI K 8 (fun _ => 0)), (q78, zO 7 [.ref q16, .ref q37, .ref q27, .ref (u91 0), .ref (u91 1), .ref (u91 2), .int (-1), .long 0]), ((u91 0), zI K 8 (fun _ => 0)), ((u91 1), zI K 24 (fun _ => 0)), ((u91 2), zI K 4 (fun _ => 0)), (q98, zO 2 [.ref q78, .ref (u106 0), .ref (u106 1), .ref (u106 2), .ref (u106 3), .ref (u106 4), .ref (u106 5), .ref (u106 6), .ref (u106 7), .int 0, .int 0]), ((u106 0), zJ K 96 (fun _ => 0)), ((u106 1), zI K 97 (fun _ => 0)), ((u106 2), zI K 400 (fun _ => 0)), ((u106 3), zI K 400 (fun _ => 0)), ((u106 4), zI K 400 (fun _ => 0)), ((u106 5), zI K 400 (fun _ => 0)), ((u106 6), zI K 97 (fun _ => 0)), ((u106 7), zI K 400 (fun _ => 0))]) (z_runI (wc := [(q113, zO 1 [.null, .null, .null, .null, .null, .null, .null, .int 0, .int 0, .int 0, .int 0])]) (As := [.ref q5, .ref q16, .ref q27]) (rest := [.ref q113, .ref h0]) ⟨hx, hb, hml, hown, hts⟩ (c_Formula_init l G K q113 q5 q16 q27 H.size ) zf_Formula_init zm_349 ⟨Nat.le_of_ble_eq_true rfl, Nat.le_of_ble_eq_true rfl⟩ hK hw [50] rfl (by decide) rfl hl.1 rfl (Nat.le_of_ble_eq_true rfl) zd_LassoFinder_init_129 ⟨Nat.le_of_ble_eq_true rfl, Nat.le_of_ble_eq_true rfl⟩) hw hA [50] [0, 1, 2, 3, 4, 5, 6, 7, 8, 9, 10, 11, 12, 13, 14, 15, 16, 17, 18, 19, 20, 21, 22, 23, 24, 25, 26, 27, 28, 29, 30, 31, 32, 33, 34, 35, 36, 37, 38, 39, 40, 41, 42, 43, 44, 45, 46, 47, 48, 49] rfl rfl (by decide) (by decide) (fun u129 H locs hu hw => ?_)
  have hw : zW G A s.heap [(h0, zO 0 [.ref q5, .ref q16, .ref q27, .ref q54, .ref q78, .ref q98, .null, .null, .null, .null, .int 0, .int 0, .int 0]), (q5, zO 9 [.ref (u9 0), .int 0, .int 0, .int 0, .int (-1)]), ((u9 0), zC K 240 (fun _ => 0)), (q16, zO 5 [.ref (u20 0), .ref (u20 1), .ref (u20 2), .ref (u20 3), .int 0, .int 0]), ((u20 0), zI K 8 (fun _ => 0)), ((u20 1), zI K 8 (fun _ => 0)), ((u20 2), zI K 6 (fun _ => 0)), ((u20 3), zI K 2 (fun _ => 0)), (q27, zO 6 [.ref (u31 0), .ref (u31 1), .ref (u31 2), .ref (u31 3), .ref (u31 4), .ref (u31 5), .ref (u31 6), .ref (u31 7), .ref (u31 8), .ref (u31 9), .ref (u31 10), .long 0, .int 0, .int 0]), ((u31 0), zI K 48 (fun _ => 0)), ((u31 1), zI K 48 (fun _ => 0)), ((u31 2), zI K 48 (fun _ => 0)), ((u31 3), zI K 48 (fun _ => 0)), ((u31 4), zI K 48 (fun _ => 0)), ((u31 5), zI K 48 (fun _ => 0)), ((u31 6), zZ K 48 (fun _ => 0)), ((u31 7), zJ K 8 (fun _ => 0)), ((u31 8), zI K 4 (fun _ => 0)), ((u31 9), zI K 32 (fun _ => 0)), ((u31 10), zJ K 124 (fun _ => 0)), (q37, zO 8 [.ref q5, .ref q16, .ref (u49 0), .int 0, .ref (u49 1), .int 0, .ref (u49 2), .int 0, .int 0, .int 0]), ((u49 0), zI K 480 (fun _ => 0)), ((u49 1), zI K 20 (fun _ => 0)), ((u49 2), zI K 13 (fun _ => 0)), (q54, zO 4 [.ref q5, .ref q16, .ref q37, .ref q27, .ref (u71 0)]), ((u71 0), zO 10 [.ref (u71 1), .ref (u71 2), .ref (u71 3), .ref (u71 4), .ref (u71 5), .ref (u71 6), .ref (u71 7), .ref (u71 8), .ref (u71 9), .ref (u71 10), .ref (u71 11), .int 0, .int 0]), ((u71 1), zI K 240 (fun _ => 0)), ((u71 2), zI K 240 (fun _ => 0)), ((u71 3), zI K 240 (fun _ => 0)), ((u71 4), zI K 240 (fun _ => 0)), ((u71 5), zZ K 240 (fun _ => 0)), ((u71 6), zI K 240 (fun _ => 0)), ((u71 7), zI K 240 (fun _ => 0)), ((u71 8), zI K 240 (fun _ => 0)), ((u71 9), zI K 240 (fun _ => 0)), ((u71 10), zI K 240 (fun _ => 0)), ((u71 11), zI K 8 (fun _ => 0)), (q78, zO 7 [.ref q16, .ref q37, .ref q27, .ref (u91 0), .ref (u91 1), .ref (u91 2), .int (-1), .long 0]), ((u91 0), zI K 8 (fun _ => 0)), ((u91 1), zI K 24 (fun _ => 0)), ((u91 2), zI K 4 (fun _ => 0)), (q98, zO 2 [.ref q78, .ref (u106 0), .ref (u106 1), .ref (u106 2), .ref (u106 3), .ref (u106 4), .ref (u106 5), .ref (u106 6), .ref (u106 7), .int 0, .int 0]), ((u106 0), zJ K 96 (fun _ => 0)), ((u106 1), zI K 97 (fun _ => 0)), ((u106 2), zI K 400 (fun _ => 0)), ((u106 3), zI K 400 (fun _ => 0)), ((u106 4), zI K 400 (fun _ => 0)), ((u106 5), zI K 400 (fun _ => 0)), ((u106 6), zI K 97 (fun _ => 0)), ((u106 7), zI K 400 (fun _ => 0)), (q113, zO 1 [.ref q5, .ref q27, .ref (u129 0), .ref (u129 4), .ref (u129 5), .ref (u129 6), .ref (u129 7), .int 0, .int 0, .int 0, .int 0]), ((u129 0), zO 8 [.ref q5, .ref q16, .ref (u129 1), .int 0, .ref (u129 2), .int 0, .ref (u129 3), .int 0, .int 0, .int 0]), ((u129 1), zI K 480 (fun _ => 0)), ((u129 2), zI K 20 (fun _ => 0)), ((u129 3), zI K 13 (fun _ => 0)), ((u129 4), zI K 240 (fun _ => 0)), ((u129 5), zI K 240 (fun _ => 0)), ((u129 6), zI K 240 (fun _ => 0)), ((u129 7), zI K 3 (fun _ => 0))] H locs := hw
  refine z_putF hx hb hts hown hin hK hw zZ0 0 rfl 6 (by decide) zm_350 rfl rfl rfl rfl (Nat.le_of_ble_eq_true rfl) zd_LassoFinder_init_132 (fun H locs hw => ?_)
  refine lv_aload_n hx hb zd_LassoFinder_init_135 rfl (lv_at hl 1 rfl) ?_
  refine z_new (fs := [.null, .null, .null, .null, .null, .null, .null, .int 0, .int 0]) hx hb hts hown hK hw hA zZ11 zm_351 zm_22 zm_23 zD11 (Nat.le_of_ble_eq_true rfl) (Nat.le_of_ble_eq_true rfl) zd_LassoFinder_init_136 (fun q136 H hw => ?_)
  refine lv_dup hx hb zd_LassoFinder_init_139 rfl ?_
  refine lv_aload_n hx hb zd_LassoFinder_init_140 rfl (lv_at hl 1 rfl) ?_
  refine z_get hx hb hts hown hK hw zZ0 0 rfl 5 (by decide) zm_347 rfl zd_LassoFinder_init_141 ?_
  refine lv_aload_n hx hb zd_LassoFinder_init_144 rfl (lv_at hl 1 rfl) ?_
  refine z_get hx hb hts hown hK hw zZ0 0 rfl 4 (by decide) zm_344 rfl zd_LassoFinder_init_145 ?_
  refine lv_aload_n hx hb zd_LassoFinder_init_148 rfl (lv_at hl 1 rfl) ?_
  refine z_get hx hb hts hown hK hw zZ0 0 rfl 6 (by decide) zm_350 rfl zd_LassoFinder_init_149 ?_
  have hw : zW G A s.heap [(h0, zO 0 [.ref q5, .ref q16, .ref q27, .ref q54, .ref q78, .ref q98, .ref q113, .null, .null, .null, .int 0, .int 0, .int 0]), (q5, zO 9 [.ref (u9 0), .int 0, .int 0, .int 0, .int (-1)]), ((u9 0), zC K 240 (fun _ => 0)), (q16, zO 5 [.ref (u20 0), .ref (u20 1), .ref (u20 2), .ref (u20 3), .int 0, .int 0]), ((u20 0), zI K 8 (fun _ => 0)), ((u20 1), zI K 8 (fun _ => 0)), ((u20 2), zI K 6 (fun _ => 0)), ((u20 3), zI K 2 (fun _ => 0)), (q27, zO 6 [.ref (u31 0), .ref (u31 1), .ref (u31 2), .ref (u31 3), .ref (u31 4), .ref (u31 5), .ref (u31 6), .ref (u31 7), .ref (u31 8), .ref (u31 9), .ref (u31 10), .long 0, .int 0, .int 0]), ((u31 0), zI K 48 (fun _ => 0)), ((u31 1), zI K 48 (fun _ => 0)), ((u31 2), zI K 48 (fun _ => 0)), ((u31 3), zI K 48 (fun _ => 0)), ((u31 4), zI K 48 (fun _ => 0)), ((u31 5), zI K 48 (fun _ => 0)), ((u31 6), zZ K 48 (fun _ => 0)), ((u31 7), zJ K 8 (fun _ => 0)), ((u31 8), zI K 4 (fun _ => 0)), ((u31 9), zI K 32 (fun _ => 0)), ((u31 10), zJ K 124 (fun _ => 0)), (q37, zO 8 [.ref q5, .ref q16, .ref (u49 0), .int 0, .ref (u49 1), .int 0, .ref (u49 2), .int 0, .int 0, .int 0]), ((u49 0), zI K 480 (fun _ => 0)), ((u49 1), zI K 20 (fun _ => 0)), ((u49 2), zI K 13 (fun _ => 0)), (q54, zO 4 [.ref q5, .ref q16, .ref q37, .ref q27, .ref (u71 0)]), ((u71 0), zO 10 [.ref (u71 1), .ref (u71 2), .ref (u71 3), .ref (u71 4), .ref (u71 5), .ref (u71 6), .ref (u71 7), .ref (u71 8), .ref (u71 9), .ref (u71 10), .ref (u71 11), .int 0, .int 0]), ((u71 1), zI K 240 (fun _ => 0)), ((u71 2), zI K 240 (fun _ => 0)), ((u71 3), zI K 240 (fun _ => 0)), ((u71 4), zI K 240 (fun _ => 0)), ((u71 5), zZ K 240 (fun _ => 0)), ((u71 6), zI K 240 (fun _ => 0)), ((u71 7), zI K 240 (fun _ => 0)), ((u71 8), zI K 240 (fun _ => 0)), ((u71 9), zI K 240 (fun _ => 0)), ((u71 10), zI K 240 (fun _ => 0)), ((u71 11), zI K 8 (fun _ => 0)), (q78, zO 7 [.ref q16, .ref q37, .ref q27, .ref (u91 0), .ref (u91 1), .ref (u91 2), .int (-1), .long 0]), ((u91 0), zI K 8 (fun _ => 0)), ((u91 1), zI K 24 (fun _ => 0)), ((u91 2), zI K 4 (fun _ => 0)), (q98, zO 2 [.ref q78, .ref (u106 0), .ref (u106 1), .ref (u106 2), .ref (u106 3), .ref (u106 4), .ref (u106 5), .ref (u106 6), .ref (u106 7), .int 0, .int 0]), ((u106 0), zJ K 96 (fun _ => 0)), ((u106 1), zI K 97 (fun _ => 0)), ((u106 2), zI K 400 (fun _ => 0)), ((u106 3), zI K 400 (fun _ => 0)), ((u106 4), zI K 400 (fun _ => 0)), ((u106 5), zI K 400 (fun _ => 0)), ((u106 6), zI K 97 (fun _ => 0)), ((u106 7), zI K 400 (fun _ => 0)), (q113, zO 1 [.ref q5, .ref q27, .ref (u129 0), .ref (u129 4), .ref (u129 5), .ref (u129 6), .ref (u129 7), .int 0, .int 0, .int 0, .int 0]), ((u129 0), zO 8 [.ref q5, .ref q16, .ref (u129 1), .int 0, .ref (u129 2), .int 0, .ref (u129 3), .int 0, .int 0, .int 0]), ((u129 1), zI K 480 (fun _ => 0)), ((u129 2), zI K 20 (fun _ => 0)), ((u129 3), zI K 13 (fun _ => 0)), ((u129 4), zI K 240 (fun _ => 0)), ((u129 5), zI K 240 (fun _ => 0)), ((u129 6), zI K 240 (fun _ => 0)), ((u129 7), zI K 3 (fun _ => 0)), (q136, zO 11 [.null, .null, .null, .null, .null, .null, .null, .int 0, .int 0])] H locs := hw
  refine z_callv (w1 := fun u152 => [(q136, zO 11 [.ref q98, .ref q78, .ref q113, .ref (u152 0), .ref (u152 1), .ref (u152 2), .ref (u152 3), .int 0, .int 0]), ((u152 0), zI K 240 (fun _ => 0)), ((u152 1), zI K 768 (fun _ => 0)), ((u152 2), zI K 768 (fun _ => 0)), ((u152 3), zZ K 768 (fun _ => 0))]) (wr := [(h0, zO 0 [.ref q5, .ref q16, .ref q27, .ref q54, .ref q78, .ref q98, .ref q113, .null, .null, .null, .int 0, .int 0, .int 0]), (q5, zO 9 [.ref (u9 0), .int 0, .int 0, .int 0, .int (-1)]), ((u9 0), zC K 240 (fun _ => 0)), (q16, zO 5 [.ref (u20 0), .ref (u20 1), .ref (u20 2), .ref (u20 3), .int 0, .int 0]), ((u20 0), zI K 8 (fun _ => 0)), ((u20 1), zI K 8 (fun _ => 0)), ((u20 2), zI K 6 (fun _ => 0)), ((u20 3), zI K 2 (fun _ => 0)), (q27, zO 6 [.ref (u31 0), .ref (u31 1), .ref (u31 2), .ref (u31 3), .ref (u31 4), .ref (u31 5), .ref (u31 6), .ref (u31 7), .ref (u31 8), .ref (u31 9), .ref (u31 10), .long 0, .int 0, .int 0]), ((u31 0), zI K 48 (fun _ => 0)), ((u31 1), zI K 48 (fun _ => 0)), ((u31 2), zI K 48 (fun _ => 0)), ((u31 3), zI K 48 (fun _ => 0)), ((u31 4), zI K 48 (fun _ => 0)), ((u31 5), zI K 48 (fun _ => 0)), ((u31 6), zZ K 48 (fun _ => 0)), ((u31 7), zJ K 8 (fun _ => 0)), ((u31 8), zI K 4 (fun _ => 0)), ((u31 9), zI K 32 (fun _ => 0)), ((u31 10), zJ K 124 (fun _ => 0)), (q37, zO 8 [.ref q5, .ref q16, .ref (u49 0), .int 0, .ref (u49 1), .int 0, .ref (u49 2), .int 0, .int 0, .int 0]), ((u49 0), zI K 480 (fun _ => 0)), ((u49 1), zI K 20 (fun _ => 0)), ((u49 2), zI K 13 (fun _ => 0)), (q54, zO 4 [.ref q5, .ref q16, .ref q37, .ref q27, .ref (u71 0)]), ((u71 0), zO 10 [.ref (u71 1), .ref (u71 2), .ref (u71 3), .ref (u71 4), .ref (u71 5), .ref (u71 6), .ref (u71 7), .ref (u71 8), .ref (u71 9), .ref (u71 10), .ref (u71 11), .int 0, .int 0]), ((u71 1), zI K 240 (fun _ => 0)), ((u71 2), zI K 240 (fun _ => 0)), ((u71 3), zI K 240 (fun _ => 0)), ((u71 4), zI K 240 (fun _ => 0)), ((u71 5), zZ K 240 (fun _ => 0)), ((u71 6), zI K 240 (fun _ => 0)), ((u71 7), zI K 240 (fun _ => 0)), ((u71 8), zI K 240 (fun _ => 0)), ((u71 9), zI K 240 (fun _ => 0)), ((u71 10), zI K 240 (fun _ => 0)), ((u71 11), zI K 8 (fun _ => 0)), (q78, zO 7 [.ref q16, .ref q37, .ref q27, .ref (u91 0), .ref (u91 1), .ref (u91 2), .int (-1), .long 0]), ((u91 0), zI K 8 (fun _ => 0)), ((u91 1), zI K 24 (fun _ => 0)), ((u91 2), zI K 4 (fun _ => 0)), (q98, zO 2 [.ref q78, .ref (u106 0), .ref (u106 1), .ref (u106 2), .ref (u106 3), .ref (u106 4), .ref (u106 5), .ref (u106 6), .ref (u106 7), .int 0, .int 0]), ((u106 0), zJ K 96 (fun _ => 0)), ((u106 1), zI K 97 (fun _ => 0)), ((u106 2), zI K 400 (fun _ => 0)), ((u106 3), zI K 400 (fun _ => 0)), ((u106 4), zI K 400 (fun _ => 0)), ((u106 5), zI K 400 (fun _ => 0)), ((u106 6), zI K 97 (fun _ => 0)), ((u106 7), zI K 400 (fun _ => 0)), (q113, zO 1 [.ref q5, .ref q27, .ref (u129 0), .ref (u129 4), .ref (u129 5), .ref (u129 6), .ref (u129 7), .int 0, .int 0, .int 0, .int 0]), ((u129 0), zO 8 [.ref q5, .ref q16, .ref (u129 1), .int 0, .ref (u129 2), .int 0, .ref (u129 3), .int 0, .int 0, .int 0]), ((u129 1), zI K 480 (fun _ => 0)), ((u129 2), zI K 20 (fun _ => 0)), ((u129 3), zI K 13 (fun _ => 0)), ((u129 4), zI K 240 (fun _ => 0)), ((u129 5), zI K 240 (fun _ => 0)), ((u129 6), zI K 240 (fun _ => 0)), ((u129 7), zI K 3 (fun _ => 0))]) (z_runI (wc := [(q136, zO 11 [.null, .null, .null, .null, .null, .null, .null, .int 0, .int 0])]) (As := [.ref q98, .ref q78, .ref q113]) (rest := [.ref q136, .ref h0]) ⟨hx, hb, hml, hown, hts⟩ (c_Truths_init l G K q136 q98 q78 q113 H.size ) zf_Truths_init zm_352 ⟨Nat.le_of_ble_eq_true rfl, Nat.le_of_ble_eq_true rfl⟩ hK hw [59] rfl (by decide) rfl hl.1 rfl (Nat.le_of_ble_eq_true rfl) zd_LassoFinder_init_152 ⟨Nat.le_of_ble_eq_true rfl, Nat.le_of_ble_eq_true rfl⟩) hw hA [59] [0, 1, 2, 3, 4, 5, 6, 7, 8, 9, 10, 11, 12, 13, 14, 15, 16, 17, 18, 19, 20, 21, 22, 23, 24, 25, 26, 27, 28, 29, 30, 31, 32, 33, 34, 35, 36, 37, 38, 39, 40, 41, 42, 43, 44, 45, 46, 47, 48, 49, 50, 51, 52, 53, 54, 55, 56, 57, 58] rfl rfl (by decide) (by decide) (fun u152 H locs hu hw => ?_)
  have hw : zW G A s.heap [(h0, zO 0 [.ref q5, .ref q16, .ref q27, .ref q54, .ref q78, .ref q98, .ref q113, .null, .null, .null, .int 0, .int 0, .int 0]), (q5, zO 9 [.ref (u9 0), .int 0, .int 0, .int 0, .int (-1)]), ((u9 0), zC K 240 (fun _ => 0)), (q16, zO 5 [.ref (u20 0), .ref (u20 1), .ref (u20 2), .ref (u20 3), .int 0, .int 0]), ((u20 0), zI K 8 (fun _ => 0)), ((u20 1), zI K 8 (fun _ => 0)), ((u20 2), zI K 6 (fun _ => 0)), ((u20 3), zI K 2 (fun _ => 0)), (q27, zO 6 [.ref (u31 0), .ref (u31 1), .ref (u31 2), .ref (u31 3), .ref (u31 4), .ref (u31 5), .ref (u31 6), .ref (u31 7), .ref (u31 8), .ref (u31 9), .ref (u31 10), .long 0, .int 0, .int 0]), ((u31 0), zI K 48 (fun _ => 0)), ((u31 1), zI K 48 (fun _ => 0)), ((u31 2), zI K 48 (fun _ => 0)), ((u31 3), zI K 48 (fun _ => 0)), ((u31 4), zI K 48 (fun _ => 0)), ((u31 5), zI K 48 (fun _ => 0)), ((u31 6), zZ K 48 (fun _ => 0)), ((u31 7), zJ K 8 (fun _ => 0)), ((u31 8), zI K 4 (fun _ => 0)), ((u31 9), zI K 32 (fun _ => 0)), ((u31 10), zJ K 124 (fun _ => 0)), (q37, zO 8 [.ref q5, .ref q16, .ref (u49 0), .int 0, .ref (u49 1), .int 0, .ref (u49 2), .int 0, .int 0, .int 0]), ((u49 0), zI K 480 (fun _ => 0)), ((u49 1), zI K 20 (fun _ => 0)), ((u49 2), zI K 13 (fun _ => 0)), (q54, zO 4 [.ref q5, .ref q16, .ref q37, .ref q27, .ref (u71 0)]), ((u71 0), zO 10 [.ref (u71 1), .ref (u71 2), .ref (u71 3), .ref (u71 4), .ref (u71 5), .ref (u71 6), .ref (u71 7), .ref (u71 8), .ref (u71 9), .ref (u71 10), .ref (u71 11), .int 0, .int 0]), ((u71 1), zI K 240 (fun _ => 0)), ((u71 2), zI K 240 (fun _ => 0)), ((u71 3), zI K 240 (fun _ => 0)), ((u71 4), zI K 240 (fun _ => 0)), ((u71 5), zZ K 240 (fun _ => 0)), ((u71 6), zI K 240 (fun _ => 0)), ((u71 7), zI K 240 (fun _ => 0)), ((u71 8), zI K 240 (fun _ => 0)), ((u71 9), zI K 240 (fun _ => 0)), ((u71 10), zI K 240 (fun _ => 0)), ((u71 11), zI K 8 (fun _ => 0)), (q78, zO 7 [.ref q16, .ref q37, .ref q27, .ref (u91 0), .ref (u91 1), .ref (u91 2), .int (-1), .long 0]), ((u91 0), zI K 8 (fun _ => 0)), ((u91 1), zI K 24 (fun _ => 0)), ((u91 2), zI K 4 (fun _ => 0)), (q98, zO 2 [.ref q78, .ref (u106 0), .ref (u106 1), .ref (u106 2), .ref (u106 3), .ref (u106 4), .ref (u106 5), .ref (u106 6), .ref (u106 7), .int 0, .int 0]), ((u106 0), zJ K 96 (fun _ => 0)), ((u106 1), zI K 97 (fun _ => 0)), ((u106 2), zI K 400 (fun _ => 0)), ((u106 3), zI K 400 (fun _ => 0)), ((u106 4), zI K 400 (fun _ => 0)), ((u106 5), zI K 400 (fun _ => 0)), ((u106 6), zI K 97 (fun _ => 0)), ((u106 7), zI K 400 (fun _ => 0)), (q113, zO 1 [.ref q5, .ref q27, .ref (u129 0), .ref (u129 4), .ref (u129 5), .ref (u129 6), .ref (u129 7), .int 0, .int 0, .int 0, .int 0]), ((u129 0), zO 8 [.ref q5, .ref q16, .ref (u129 1), .int 0, .ref (u129 2), .int 0, .ref (u129 3), .int 0, .int 0, .int 0]), ((u129 1), zI K 480 (fun _ => 0)), ((u129 2), zI K 20 (fun _ => 0)), ((u129 3), zI K 13 (fun _ => 0)), ((u129 4), zI K 240 (fun _ => 0)), ((u129 5), zI K 240 (fun _ => 0)), ((u129 6), zI K 240 (fun _ => 0)), ((u129 7), zI K 3 (fun _ => 0)), (q136, zO 11 [.ref q98, .ref q78, .ref q113, .ref (u152 0), .ref (u152 1), .ref (u152 2), .ref (u152 3), .int 0, .int 0]), ((u152 0), zI K 240 (fun _ => 0)), ((u152 1), zI K 768 (fun _ => 0)), ((u152 2), zI K 768 (fun _ => 0)), ((u152 3), zZ K 768 (fun _ => 0))] H locs := hw
  refine z_putF hx hb hts hown hin hK hw zZ0 0 rfl 7 (by decide) zm_353 rfl rfl rfl rfl (Nat.le_of_ble_eq_true rfl) zd_LassoFinder_init_155 (fun H locs hw => ?_)
  refine lv_aload_n hx hb zd_LassoFinder_init_158 rfl (lv_at hl 1 rfl) ?_
  refine lv_bipush (v := 61) hx hb zd_LassoFinder_init_159 (by decide) ?_
  refine z_newI (N' := 61) hx hb (hts _ zm_238) hK hw hA (by decide) (by decide) (Nat.le_of_ble_eq_true rfl) (Nat.le_of_ble_eq_true rfl) (Nat.le_of_ble_eq_true rfl) zd_LassoFinder_init_161 (fun q161 H hw => ?_)
  refine z_putF hx hb hts hown hin hK hw zZ0 0 rfl 9 (by decide) zm_354 rfl rfl rfl rfl (Nat.le_of_ble_eq_true rfl) zd_LassoFinder_init_163 (fun H locs hw => ?_)
  have hw : zW G A s.heap [(h0, zO 0 [.ref q5, .ref q16, .ref q27, .ref q54, .ref q78, .ref q98, .ref q113, .ref q136, .null, .ref q161, .int 0, .int 0, .int 0]), (q5, zO 9 [.ref (u9 0), .int 0, .int 0, .int 0, .int (-1)]), ((u9 0), zC K 240 (fun _ => 0)), (q16, zO 5 [.ref (u20 0), .ref (u20 1), .ref (u20 2), .ref (u20 3), .int 0, .int 0]), ((u20 0), zI K 8 (fun _ => 0)), ((u20 1), zI K 8 (fun _ => 0)), ((u20 2), zI K 6 (fun _ => 0)), ((u20 3), zI K 2 (fun _ => 0)), (q27, zO 6 [.ref (u31 0), .ref (u31 1), .ref (u31 2), .ref (u31 3), .ref (u31 4), .ref (u31 5), .ref (u31 6), .ref (u31 7), .ref (u31 8), .ref (u31 9), .ref (u31 10), .long 0, .int 0, .int 0]), ((u31 0), zI K 48 (fun _ => 0)), ((u31 1), zI K 48 (fun _ => 0)), ((u31 2), zI K 48 (fun _ => 0)), ((u31 3), zI K 48 (fun _ => 0)), ((u31 4), zI K 48 (fun _ => 0)), ((u31 5), zI K 48 (fun _ => 0)), ((u31 6), zZ K 48 (fun _ => 0)), ((u31 7), zJ K 8 (fun _ => 0)), ((u31 8), zI K 4 (fun _ => 0)), ((u31 9), zI K 32 (fun _ => 0)), ((u31 10), zJ K 124 (fun _ => 0)), (q37, zO 8 [.ref q5, .ref q16, .ref (u49 0), .int 0, .ref (u49 1), .int 0, .ref (u49 2), .int 0, .int 0, .int 0]), ((u49 0), zI K 480 (fun _ => 0)), ((u49 1), zI K 20 (fun _ => 0)), ((u49 2), zI K 13 (fun _ => 0)), (q54, zO 4 [.ref q5, .ref q16, .ref q37, .ref q27, .ref (u71 0)]), ((u71 0), zO 10 [.ref (u71 1), .ref (u71 2), .ref (u71 3), .ref (u71 4), .ref (u71 5), .ref (u71 6), .ref (u71 7), .ref (u71 8), .ref (u71 9), .ref (u71 10), .ref (u71 11), .int 0, .int 0]), ((u71 1), zI K 240 (fun _ => 0)), ((u71 2), zI K 240 (fun _ => 0)), ((u71 3), zI K 240 (fun _ => 0)), ((u71 4), zI K 240 (fun _ => 0)), ((u71 5), zZ K 240 (fun _ => 0)), ((u71 6), zI K 240 (fun _ => 0)), ((u71 7), zI K 240 (fun _ => 0)), ((u71 8), zI K 240 (fun _ => 0)), ((u71 9), zI K 240 (fun _ => 0)), ((u71 10), zI K 240 (fun _ => 0)), ((u71 11), zI K 8 (fun _ => 0)), (q78, zO 7 [.ref q16, .ref q37, .ref q27, .ref (u91 0), .ref (u91 1), .ref (u91 2), .int (-1), .long 0]), ((u91 0), zI K 8 (fun _ => 0)), ((u91 1), zI K 24 (fun _ => 0)), ((u91 2), zI K 4 (fun _ => 0)), (q98, zO 2 [.ref q78, .ref (u106 0), .ref (u106 1), .ref (u106 2), .ref (u106 3), .ref (u106 4), .ref (u106 5), .ref (u106 6), .ref (u106 7), .int 0, .int 0]), ((u106 0), zJ K 96 (fun _ => 0)), ((u106 1), zI K 97 (fun _ => 0)), ((u106 2), zI K 400 (fun _ => 0)), ((u106 3), zI K 400 (fun _ => 0)), ((u106 4), zI K 400 (fun _ => 0)), ((u106 5), zI K 400 (fun _ => 0)), ((u106 6), zI K 97 (fun _ => 0)), ((u106 7), zI K 400 (fun _ => 0)), (q113, zO 1 [.ref q5, .ref q27, .ref (u129 0), .ref (u129 4), .ref (u129 5), .ref (u129 6), .ref (u129 7), .int 0, .int 0, .int 0, .int 0]), ((u129 0), zO 8 [.ref q5, .ref q16, .ref (u129 1), .int 0, .ref (u129 2), .int 0, .ref (u129 3), .int 0, .int 0, .int 0]), ((u129 1), zI K 480 (fun _ => 0)), ((u129 2), zI K 20 (fun _ => 0)), ((u129 3), zI K 13 (fun _ => 0)), ((u129 4), zI K 240 (fun _ => 0)), ((u129 5), zI K 240 (fun _ => 0)), ((u129 6), zI K 240 (fun _ => 0)), ((u129 7), zI K 3 (fun _ => 0)), (q136, zO 11 [.ref q98, .ref q78, .ref q113, .ref (u152 0), .ref (u152 1), .ref (u152 2), .ref (u152 3), .int 0, .int 0]), ((u152 0), zI K 240 (fun _ => 0)), ((u152 1), zI K 768 (fun _ => 0)), ((u152 2), zI K 768 (fun _ => 0)), ((u152 3), zZ K 768 (fun _ => 0)), (q161, zI K 61 (fun _ => 0))] H locs := hw
  refine lv_aload_n hx hb zd_LassoFinder_init_166 rfl (lv_at hl 1 rfl) ?_
  refine lv_iconst (v := (-1)) hx hb zd_LassoFinder_init_167 (by decide) ?_
  refine z_put hx hb hts hown hK hw zZ0 0 rfl 10 (by decide) zm_355 rfl rfl rfl (Nat.le_of_ble_eq_true rfl) zd_LassoFinder_init_168 (fun H locs hw => ?_)
  exact z_vret (u := (fun k => ([q5, (u9 0), q16, (u20 0), (u20 1), (u20 2), (u20 3), q27, (u31 0), (u31 1), (u31 2), (u31 3), (u31 4), (u31 5), (u31 6), (u31 7), (u31 8), (u31 9), (u31 10), q37, (u49 0), (u49 1), (u49 2), q54, (u71 0), (u71 1), (u71 2), (u71 3), (u71 4), (u71 5), (u71 6), (u71 7), (u71 8), (u71 9), (u71 10), (u71 11), q78, (u91 0), (u91 1), (u91 2), q98, (u106 0), (u106 1), (u106 2), (u106 3), (u106 4), (u106 5), (u106 6), (u106 7), q113, (u129 0), (u129 1), (u129 2), (u129 3), (u129 4), (u129 5), (u129 6), (u129 7), q136, (u152 0), (u152 1), (u152 2), (u152 3), q161] : List Nat).getD k 0)) hx hb hr hlocks hw [0, 1, 2, 3, 4, 5, 6, 7, 8, 9, 10, 11, 12, 13, 14, 15, 16, 17, 18, 19, 20, 21, 22, 23, 24, 25, 26, 27, 28, 29, 30, 31, 32, 33, 34, 35, 36, 37, 38, 39, 40, 41, 42, 43, 44, 45, 46, 47, 48, 49, 50, 51, 52, 53, 54, 55, 56, 57, 58, 59, 60, 61, 62, 63, 64] rfl (by decide) trivial (Nat.le_of_ble_eq_true rfl) (Nat.le_of_ble_eq_true rfl) zd_LassoFinder_init_171
end
section
abbrev zy_LassoFinderModel_init : MethodName := ⟨"LassoFinderModel", "<init>", "()V"⟩
theorem zm_372 : Cond.methodLink "LassoFinderModel" 1 ⟨"java/lang/Object", "<init>", "()V"⟩ ∈ zTB := z_in (zt_6 _ (List.mem_of_getElem? (i := 93) rfl)) rfl
theorem zm_373 : Cond.fieldLink "LassoFinderModel" 7 "LassoFinderModel" "text" "[I" ∈ zTB := z_in (zt_6 _ (List.mem_of_getElem? (i := 96) rfl)) rfl
theorem zm_374 : Cond.fieldLink "LassoFinderModel" 13 "LassoFinderModel" "place" "I" ∈ zTB := z_in (zt_6 _ (List.mem_of_getElem? (i := 99) rfl)) rfl
theorem zm_375 : Cond.fieldLink "LassoFinderModel" 17 "LassoFinderModel" "var" "[I" ∈ zTB := z_in (zt_6 _ (List.mem_of_getElem? (i := 103) rfl)) rfl
theorem zm_376 : Cond.fieldLink "LassoFinderModel" 20 "LassoFinderModel" "chan" "[I" ∈ zTB := z_in (zt_6 _ (List.mem_of_getElem? (i := 104) rfl)) rfl
theorem zm_377 : Cond.fieldLink "LassoFinderModel" 23 "LassoFinderModel" "initial" "[I" ∈ zTB := z_in (zt_6 _ (List.mem_of_getElem? (i := 105) rfl)) rfl
theorem zm_378 : Cond.fieldLink "LassoFinderModel" 26 "LassoFinderModel" "slots" "[I" ∈ zTB := z_in (zt_6 _ (List.mem_of_getElem? (i := 106) rfl)) rfl
theorem zm_379 : Cond.fieldLink "LassoFinderModel" 29 "LassoFinderModel" "kind" "[I" ∈ zTB := z_in (zt_6 _ (List.mem_of_getElem? (i := 108) rfl)) rfl
theorem zm_380 : Cond.fieldLink "LassoFinderModel" 32 "LassoFinderModel" "process" "[I" ∈ zTB := z_in (zt_6 _ (List.mem_of_getElem? (i := 109) rfl)) rfl
theorem zm_381 : Cond.fieldLink "LassoFinderModel" 35 "LassoFinderModel" "parent" "[I" ∈ zTB := z_in (zt_6 _ (List.mem_of_getElem? (i := 110) rfl)) rfl
theorem zm_382 : Cond.fieldLink "LassoFinderModel" 38 "LassoFinderModel" "sibling" "[I" ∈ zTB := z_in (zt_6 _ (List.mem_of_getElem? (i := 111) rfl)) rfl
theorem zm_383 : Cond.fieldLink "LassoFinderModel" 41 "LassoFinderModel" "firstOf" "[Z" ∈ zTB := z_in (zt_6 _ (List.mem_of_getElem? (i := 112) rfl)) rfl
theorem zm_384 : Cond.fieldLink "LassoFinderModel" 45 "LassoFinderModel" "atomic" "[I" ∈ zTB := z_in (zt_6 _ (List.mem_of_getElem? (i := 113) rfl)) rfl
theorem zm_385 : Cond.fieldLink "LassoFinderModel" 48 "LassoFinderModel" "point" "[I" ∈ zTB := z_in (zt_6 _ (List.mem_of_getElem? (i := 114) rfl)) rfl
theorem zm_386 : Cond.fieldLink "LassoFinderModel" 51 "LassoFinderModel" "arg" "[I" ∈ zTB := z_in (zt_6 _ (List.mem_of_getElem? (i := 115) rfl)) rfl
theorem zm_387 : Cond.fieldLink "LassoFinderModel" 54 "LassoFinderModel" "into" "[I" ∈ zTB := z_in (zt_6 _ (List.mem_of_getElem? (i := 116) rfl)) rfl
theorem zm_388 : Cond.fieldLink "LassoFinderModel" 57 "LassoFinderModel" "begin" "[I" ∈ zTB := z_in (zt_6 _ (List.mem_of_getElem? (i := 117) rfl)) rfl
theorem zm_389 : Cond.fieldLink "LassoFinderModel" 60 "LassoFinderModel" "end" "[I" ∈ zTB := z_in (zt_6 _ (List.mem_of_getElem? (i := 118) rfl)) rfl
theorem zm_390 : Cond.fieldLink "LassoFinderModel" 63 "LassoFinderModel" "where" "[I" ∈ zTB := z_in (zt_6 _ (List.mem_of_getElem? (i := 119) rfl)) rfl
theorem zm_391 : Cond.fieldLink "LassoFinderModel" 66 "LassoFinderModel" "behind" "[I" ∈ zTB := z_in (zt_6 _ (List.mem_of_getElem? (i := 120) rfl)) rfl
theorem zm_392 : Cond.fieldLink "LassoFinderModel" 69 "LassoFinderModel" "basicNode" "[I" ∈ zTB := z_in (zt_6 _ (List.mem_of_getElem? (i := 122) rfl)) rfl
theorem zm_393 : Cond.fieldLink "LassoFinderModel" 72 "LassoFinderModel" "basicOf" "[I" ∈ zTB := z_in (zt_6 _ (List.mem_of_getElem? (i := 123) rfl)) rfl
theorem zm_394 : Cond.fieldLink "LassoFinderModel" 75 "LassoFinderModel" "points" "[I" ∈ zTB := z_in (zt_6 _ (List.mem_of_getElem? (i := 125) rfl)) rfl
theorem zm_395 : Cond.fieldLink "LassoFinderModel" 78 "LassoFinderModel" "firstNode" "[I" ∈ zTB := z_in (zt_6 _ (List.mem_of_getElem? (i := 126) rfl)) rfl
theorem zm_396 : Cond.fieldLink "LassoFinderModel" 81 "LassoFinderModel" "labels" "[I" ∈ zTB := z_in (zt_6 _ (List.mem_of_getElem? (i := 127) rfl)) rfl
theorem zm_397 : Cond.fieldLink "LassoFinderModel" 84 "LassoFinderModel" "nodeAt" "[I" ∈ zTB := z_in (zt_6 _ (List.mem_of_getElem? (i := 128) rfl)) rfl
theorem zm_398 : Cond.fieldLink "LassoFinderModel" 87 "LassoFinderModel" "mask" "[J" ∈ zTB := z_in (zt_6 _ (List.mem_of_getElem? (i := 129) rfl)) rfl
theorem zm_399 : Cond.fieldLink "LassoFinderModel" 91 "LassoFinderModel" "code" "[I" ∈ zTB := z_in (zt_6 _ (List.mem_of_getElem? (i := 131) rfl)) rfl
theorem zm_400 : Cond.fieldLink "LassoFinderModel" 94 "LassoFinderModel" "block" "[I" ∈ zTB := z_in (zt_6 _ (List.mem_of_getElem? (i := 133) rfl)) rfl
theorem zm_401 : Cond.fieldLink "LassoFinderModel" 97 "LassoFinderModel" "blockNode" "[I" ∈ zTB := z_in (zt_6 _ (List.mem_of_getElem? (i := 134) rfl)) rfl
theorem zm_402 : Cond.fieldLink "LassoFinderModel" 100 "LassoFinderModel" "latest" "[I" ∈ zTB := z_in (zt_6 _ (List.mem_of_getElem? (i := 135) rfl)) rfl
theorem zm_403 : Cond.fieldLink "LassoFinderModel" 103 "LassoFinderModel" "signs" "[I" ∈ zTB := z_in (zt_6 _ (List.mem_of_getElem? (i := 137) rfl)) rfl
theorem zm_404 : Cond.fieldLink "LassoFinderModel" 106 "LassoFinderModel" "key" "[J" ∈ zTB := z_in (zt_6 _ (List.mem_of_getElem? (i := 141) rfl)) rfl
theorem zm_405 : Cond.fieldLink "LassoFinderModel" 109 "LassoFinderModel" "first" "[I" ∈ zTB := z_in (zt_6 _ (List.mem_of_getElem? (i := 142) rfl)) rfl
theorem zm_406 : Cond.fieldLink "LassoFinderModel" 112 "LassoFinderModel" "target" "[I" ∈ zTB := z_in (zt_6 _ (List.mem_of_getElem? (i := 143) rfl)) rfl
theorem zm_407 : Cond.fieldLink "LassoFinderModel" 115 "LassoFinderModel" "source" "[I" ∈ zTB := z_in (zt_6 _ (List.mem_of_getElem? (i := 144) rfl)) rfl
theorem zm_408 : Cond.fieldLink "LassoFinderModel" 118 "LassoFinderModel" "doer" "[I" ∈ zTB := z_in (zt_6 _ (List.mem_of_getElem? (i := 145) rfl)) rfl
theorem zm_409 : Cond.fieldLink "LassoFinderModel" 121 "LassoFinderModel" "receiver" "[I" ∈ zTB := z_in (zt_6 _ (List.mem_of_getElem? (i := 146) rfl)) rfl
theorem zm_410 : Cond.fieldLink "LassoFinderModel" 124 "LassoFinderModel" "firstInto" "[I" ∈ zTB := z_in (zt_6 _ (List.mem_of_getElem? (i := 147) rfl)) rfl
theorem zm_411 : Cond.fieldLink "LassoFinderModel" 127 "LassoFinderModel" "stepInto" "[I" ∈ zTB := z_in (zt_6 _ (List.mem_of_getElem? (i := 148) rfl)) rfl
theorem zm_412 : Cond.fieldLink "LassoFinderModel" 130 "LassoFinderModel" "value" "[I" ∈ zTB := z_in (zt_6 _ (List.mem_of_getElem? (i := 149) rfl)) rfl
theorem zm_413 : Cond.fieldLink "LassoFinderModel" 133 "LassoFinderModel" "many" "[I" ∈ zTB := z_in (zt_6 _ (List.mem_of_getElem? (i := 150) rfl)) rfl
theorem zm_414 : Cond.fieldLink "LassoFinderModel" 136 "LassoFinderModel" "message" "[I" ∈ zTB := z_in (zt_6 _ (List.mem_of_getElem? (i := 151) rfl)) rfl
theorem zm_415 : Cond.fieldLink "LassoFinderModel" 139 "LassoFinderModel" "stands" "[I" ∈ zTB := z_in (zt_6 _ (List.mem_of_getElem? (i := 152) rfl)) rfl
theorem zm_416 : Cond.fieldLink "LassoFinderModel" 142 "LassoFinderModel" "stack" "[I" ∈ zTB := z_in (zt_6 _ (List.mem_of_getElem? (i := 154) rfl)) rfl
theorem zm_417 : Cond.fieldLink "LassoFinderModel" 145 "LassoFinderModel" "sign" "[I" ∈ zTB := z_in (zt_6 _ (List.mem_of_getElem? (i := 157) rfl)) rfl
theorem zm_418 : Cond.fieldLink "LassoFinderModel" 148 "LassoFinderModel" "kept" "[I" ∈ zTB := z_in (zt_6 _ (List.mem_of_getElem? (i := 160) rfl)) rfl
theorem zm_419 : Cond.fieldLink "LassoFinderModel" 151 "LassoFinderModel" "turn" "[I" ∈ zTB := z_in (zt_6 _ (List.mem_of_getElem? (i := 162) rfl)) rfl
theorem zm_420 : Cond.fieldLink "LassoFinderModel" 154 "LassoFinderModel" "atomProcess" "[I" ∈ zTB := z_in (zt_6 _ (List.mem_of_getElem? (i := 164) rfl)) rfl
theorem zm_421 : Cond.fieldLink "LassoFinderModel" 157 "LassoFinderModel" "atomPoint" "[I" ∈ zTB := z_in (zt_6 _ (List.mem_of_getElem? (i := 165) rfl)) rfl
theorem zm_422 : Cond.fieldLink "LassoFinderModel" 160 "LassoFinderModel" "atomBegin" "[I" ∈ zTB := z_in (zt_6 _ (List.mem_of_getElem? (i := 166) rfl)) rfl
theorem zm_423 : Cond.fieldLink "LassoFinderModel" 163 "LassoFinderModel" "atomEnd" "[I" ∈ zTB := z_in (zt_6 _ (List.mem_of_getElem? (i := 167) rfl)) rfl
theorem zm_424 : Cond.fieldLink "LassoFinderModel" 166 "LassoFinderModel" "look" "[I" ∈ zTB := z_in (zt_6 _ (List.mem_of_getElem? (i := 168) rfl)) rfl
theorem zm_425 : Cond.fieldLink "LassoFinderModel" 169 "LassoFinderModel" "deep" "[I" ∈ zTB := z_in (zt_6 _ (List.mem_of_getElem? (i := 169) rfl)) rfl
theorem zm_426 : Cond.fieldLink "LassoFinderModel" 172 "LassoFinderModel" "good" "[Z" ∈ zTB := z_in (zt_6 _ (List.mem_of_getElem? (i := 170) rfl)) rfl
theorem zm_427 : Cond.fieldLink "LassoFinderModel" 175 "LassoFinderModel" "far" "[I" ∈ zTB := z_in (zt_6 _ (List.mem_of_getElem? (i := 171) rfl)) rfl
theorem zm_428 : Cond.fieldLink "LassoFinderModel" 178 "LassoFinderModel" "stem" "I" ∈ zTB := z_in (zt_6 _ (List.mem_of_getElem? (i := 172) rfl)) rfl
theorem zm_429 : Cond.fieldLink "LassoFinderModel" 181 "LassoFinderModel" "row" "[I" ∈ zTB := z_in (zt_6 _ (List.mem_of_getElem? (i := 174) rfl)) rfl
theorem zm_430 : Cond.fieldLink "LassoFinderModel" 184 "LassoFinderModel" "tried" "[I" ∈ zTB := z_in (zt_6 _ (List.mem_of_getElem? (i := 175) rfl)) rfl
theorem zm_431 : Cond.fieldLink "LassoFinderModel" 187 "LassoFinderModel" "walked" "I" ∈ zTB := z_in (zt_6 _ (List.mem_of_getElem? (i := 176) rfl)) rfl
theorem zm_432 : Cond.fieldLink "LassoFinderModel" 190 "LassoFinderModel" "path" "[I" ∈ zTB := z_in (zt_6 _ (List.mem_of_getElem? (i := 177) rfl)) rfl
theorem zd_LassoFinderModel_init_0 : decode prog_14_method_1_code 0 = .ok (.aload_n 0, 1) := by decide +kernel
theorem zd_LassoFinderModel_init_1 : decode prog_14_method_1_code 1 = .ok (.invokespecial 1, 3) := by decide +kernel
theorem zd_LassoFinderModel_init_4 : decode prog_14_method_1_code 4 = .ok (.aload_n 0, 1) := by decide +kernel
theorem zd_LassoFinderModel_init_5 : decode prog_14_method_1_code 5 = .ok (.sipush 240, 3) := by decide +kernel
theorem zd_LassoFinderModel_init_8 : decode prog_14_method_1_code 8 = .ok (.newarray .int, 2) := by decide +kernel
theorem zd_LassoFinderModel_init_10 : decode prog_14_method_1_code 10 = .ok (.putfield 7, 3) := by decide +kernel
theorem zd_LassoFinderModel_init_13 : decode prog_14_method_1_code 13 = .ok (.aload_n 0, 1) := by decide +kernel
theorem zd_LassoFinderModel_init_14 : decode prog_14_method_1_code 14 = .ok (.iconst (-1), 1) := by decide +kernel
theorem zd_LassoFinderModel_init_15 : decode prog_14_method_1_code 15 = .ok (.putfield 13, 3) := by decide +kernel
theorem zd_LassoFinderModel_init_18 : decode prog_14_method_1_code 18 = .ok (.aload_n 0, 1) := by decide +kernel
theorem zd_LassoFinderModel_init_19 : decode prog_14_method_1_code 19 = .ok (.bipush 8, 2) := by decide +kernel
theorem zd_LassoFinderModel_init_21 : decode prog_14_method_1_code 21 = .ok (.newarray .int, 2) := by decide +kernel
theorem zd_LassoFinderModel_init_23 : decode prog_14_method_1_code 23 = .ok (.putfield 17, 3) := by decide +kernel
theorem zd_LassoFinderModel_init_26 : decode prog_14_method_1_code 26 = .ok (.aload_n 0, 1) := by decide +kernel
theorem zd_LassoFinderModel_init_27 : decode prog_14_method_1_code 27 = .ok (.bipush 8, 2) := by decide +kernel
theorem zd_LassoFinderModel_init_29 : decode prog_14_method_1_code 29 = .ok (.newarray .int, 2) := by decide +kernel
theorem zd_LassoFinderModel_init_31 : decode prog_14_method_1_code 31 = .ok (.putfield 20, 3) := by decide +kernel
theorem zd_LassoFinderModel_init_34 : decode prog_14_method_1_code 34 = .ok (.aload_n 0, 1) := by decide +kernel
theorem zd_LassoFinderModel_init_35 : decode prog_14_method_1_code 35 = .ok (.bipush 6, 2) := by decide +kernel
theorem zd_LassoFinderModel_init_37 : decode prog_14_method_1_code 37 = .ok (.newarray .int, 2) := by decide +kernel
theorem zd_LassoFinderModel_init_39 : decode prog_14_method_1_code 39 = .ok (.putfield 23, 3) := by decide +kernel
theorem zd_LassoFinderModel_init_42 : decode prog_14_method_1_code 42 = .ok (.aload_n 0, 1) := by decide +kernel
theorem zd_LassoFinderModel_init_43 : decode prog_14_method_1_code 43 = .ok (.iconst 2, 1) := by decide +kernel
theorem zd_LassoFinderModel_init_44 : decode prog_14_method_1_code 44 = .ok (.newarray .int, 2) := by decide +kernel
theorem zd_LassoFinderModel_init_46 : decode prog_14_method_1_code 46 = .ok (.putfield 26, 3) := by decide +kernel
theorem zd_LassoFinderModel_init_49 : decode prog_14_method_1_code 49 = .ok (.aload_n 0, 1) := by decide +kernel
theorem zd_LassoFinderModel_init_50 : decode prog_14_method_1_code 50 = .ok (.sipush 140, 3) := by decide +kernel
theorem zd_LassoFinderModel_init_53 : decode prog_14_method_1_code 53 = .ok (.newarray .int, 2) := by decide +kernel
theorem zd_LassoFinderModel_init_55 : decode prog_14_method_1_code 55 = .ok (.putfield 29, 3) := by decide +kernel
theorem zd_LassoFinderModel_init_58 : decode prog_14_method_1_code 58 = .ok (.aload_n 0, 1) := by decide +kernel
theorem zd_LassoFinderModel_init_59 : decode prog_14_method_1_code 59 = .ok (.sipush 140, 3) := by decide +kernel
theorem zd_LassoFinderModel_init_62 : decode prog_14_method_1_code 62 = .ok (.newarray .int, 2) := by decide +kernel
theorem zd_LassoFinderModel_init_64 : decode prog_14_method_1_code 64 = .ok (.putfield 32, 3) := by decide +kernel
theorem zd_LassoFinderModel_init_67 : decode prog_14_method_1_code 67 = .ok (.aload_n 0, 1) := by decide +kernel
theorem zd_LassoFinderModel_init_68 : decode prog_14_method_1_code 68 = .ok (.sipush 140, 3) := by decide +kernel
theorem zd_LassoFinderModel_init_71 : decode prog_14_method_1_code 71 = .ok (.newarray .int, 2) := by decide +kernel
theorem zd_LassoFinderModel_init_73 : decode prog_14_method_1_code 73 = .ok (.putfield 35, 3) := by decide +kernel
theorem zd_LassoFinderModel_init_76 : decode prog_14_method_1_code 76 = .ok (.aload_n 0, 1) := by decide +kernel
theorem zd_LassoFinderModel_init_77 : decode prog_14_method_1_code 77 = .ok (.sipush 140, 3) := by decide +kernel
theorem zd_LassoFinderModel_init_80 : decode prog_14_method_1_code 80 = .ok (.newarray .int, 2) := by decide +kernel
theorem zd_LassoFinderModel_init_82 : decode prog_14_method_1_code 82 = .ok (.putfield 38, 3) := by decide +kernel
theorem zd_LassoFinderModel_init_85 : decode prog_14_method_1_code 85 = .ok (.aload_n 0, 1) := by decide +kernel
theorem zd_LassoFinderModel_init_86 : decode prog_14_method_1_code 86 = .ok (.sipush 140, 3) := by decide +kernel
theorem zd_LassoFinderModel_init_89 : decode prog_14_method_1_code 89 = .ok (.newarray .boolean, 2) := by decide +kernel
theorem zd_LassoFinderModel_init_91 : decode prog_14_method_1_code 91 = .ok (.putfield 41, 3) := by decide +kernel
theorem zd_LassoFinderModel_init_94 : decode prog_14_method_1_code 94 = .ok (.aload_n 0, 1) := by decide +kernel
theorem zd_LassoFinderModel_init_95 : decode prog_14_method_1_code 95 = .ok (.sipush 140, 3) := by decide +kernel
theorem zd_LassoFinderModel_init_98 : decode prog_14_method_1_code 98 = .ok (.newarray .int, 2) := by decide +kernel
theorem zd_LassoFinderModel_init_100 : decode prog_14_method_1_code 100 = .ok (.putfield 45, 3) := by decide +kernel
theorem zd_LassoFinderModel_init_103 : decode prog_14_method_1_code 103 = .ok (.aload_n 0, 1) := by decide +kernel
theorem zd_LassoFinderModel_init_104 : decode prog_14_method_1_code 104 = .ok (.sipush 140, 3) := by decide +kernel
theorem zd_LassoFinderModel_init_107 : decode prog_14_method_1_code 107 = .ok (.newarray .int, 2) := by decide +kernel
theorem zd_LassoFinderModel_init_109 : decode prog_14_method_1_code 109 = .ok (.putfield 48, 3) := by decide +kernel
theorem zd_LassoFinderModel_init_112 : decode prog_14_method_1_code 112 = .ok (.aload_n 0, 1) := by decide +kernel
theorem zd_LassoFinderModel_init_113 : decode prog_14_method_1_code 113 = .ok (.sipush 140, 3) := by decide +kernel
theorem zd_LassoFinderModel_init_116 : decode prog_14_method_1_code 116 = .ok (.newarray .int, 2) := by decide +kernel
theorem zd_LassoFinderModel_init_118 : decode prog_14_method_1_code 118 = .ok (.putfield 51, 3) := by decide +kernel
theorem zd_LassoFinderModel_init_121 : decode prog_14_method_1_code 121 = .ok (.aload_n 0, 1) := by decide +kernel
theorem zd_LassoFinderModel_init_122 : decode prog_14_method_1_code 122 = .ok (.sipush 140, 3) := by decide +kernel
theorem zd_LassoFinderModel_init_125 : decode prog_14_method_1_code 125 = .ok (.newarray .int, 2) := by decide +kernel
theorem zd_LassoFinderModel_init_127 : decode prog_14_method_1_code 127 = .ok (.putfield 54, 3) := by decide +kernel
theorem zd_LassoFinderModel_init_130 : decode prog_14_method_1_code 130 = .ok (.aload_n 0, 1) := by decide +kernel
theorem zd_LassoFinderModel_init_131 : decode prog_14_method_1_code 131 = .ok (.sipush 140, 3) := by decide +kernel
theorem zd_LassoFinderModel_init_134 : decode prog_14_method_1_code 134 = .ok (.newarray .int, 2) := by decide +kernel
theorem zd_LassoFinderModel_init_136 : decode prog_14_method_1_code 136 = .ok (.putfield 57, 3) := by decide +kernel
theorem zd_LassoFinderModel_init_139 : decode prog_14_method_1_code 139 = .ok (.aload_n 0, 1) := by decide +kernel
theorem zd_LassoFinderModel_init_140 : decode prog_14_method_1_code 140 = .ok (.sipush 140, 3) := by decide +kernel
theorem zd_LassoFinderModel_init_143 : decode prog_14_method_1_code 143 = .ok (.newarray .int, 2) := by decide +kernel
theorem zd_LassoFinderModel_init_145 : decode prog_14_method_1_code 145 = .ok (.putfield 60, 3) := by decide +kernel
theorem zd_LassoFinderModel_init_148 : decode prog_14_method_1_code 148 = .ok (.aload_n 0, 1) := by decide +kernel
theorem zd_LassoFinderModel_init_149 : decode prog_14_method_1_code 149 = .ok (.sipush 140, 3) := by decide +kernel
theorem zd_LassoFinderModel_init_152 : decode prog_14_method_1_code 152 = .ok (.newarray .int, 2) := by decide +kernel
theorem zd_LassoFinderModel_init_154 : decode prog_14_method_1_code 154 = .ok (.putfield 63, 3) := by decide +kernel
theorem zd_LassoFinderModel_init_157 : decode prog_14_method_1_code 157 = .ok (.aload_n 0, 1) := by decide +kernel
theorem zd_LassoFinderModel_init_158 : decode prog_14_method_1_code 158 = .ok (.sipush 140, 3) := by decide +kernel
theorem zd_LassoFinderModel_init_161 : decode prog_14_method_1_code 161 = .ok (.newarray .int, 2) := by decide +kernel
theorem zd_LassoFinderModel_init_163 : decode prog_14_method_1_code 163 = .ok (.putfield 66, 3) := by decide +kernel
theorem zd_LassoFinderModel_init_166 : decode prog_14_method_1_code 166 = .ok (.aload_n 0, 1) := by decide +kernel
theorem zd_LassoFinderModel_init_167 : decode prog_14_method_1_code 167 = .ok (.bipush 48, 2) := by decide +kernel
theorem zd_LassoFinderModel_init_169 : decode prog_14_method_1_code 169 = .ok (.newarray .int, 2) := by decide +kernel
theorem zd_LassoFinderModel_init_171 : decode prog_14_method_1_code 171 = .ok (.putfield 69, 3) := by decide +kernel
theorem zd_LassoFinderModel_init_174 : decode prog_14_method_1_code 174 = .ok (.aload_n 0, 1) := by decide +kernel
theorem zd_LassoFinderModel_init_175 : decode prog_14_method_1_code 175 = .ok (.sipush 140, 3) := by decide +kernel
theorem zd_LassoFinderModel_init_178 : decode prog_14_method_1_code 178 = .ok (.newarray .int, 2) := by decide +kernel
theorem zd_LassoFinderModel_init_180 : decode prog_14_method_1_code 180 = .ok (.putfield 72, 3) := by decide +kernel
theorem zd_LassoFinderModel_init_183 : decode prog_14_method_1_code 183 = .ok (.aload_n 0, 1) := by decide +kernel
theorem zd_LassoFinderModel_init_184 : decode prog_14_method_1_code 184 = .ok (.iconst 5, 1) := by decide +kernel
theorem zd_LassoFinderModel_init_185 : decode prog_14_method_1_code 185 = .ok (.newarray .int, 2) := by decide +kernel
theorem zd_LassoFinderModel_init_187 : decode prog_14_method_1_code 187 = .ok (.putfield 75, 3) := by decide +kernel
theorem zd_LassoFinderModel_init_190 : decode prog_14_method_1_code 190 = .ok (.aload_n 0, 1) := by decide +kernel
theorem zd_LassoFinderModel_init_191 : decode prog_14_method_1_code 191 = .ok (.iconst 5, 1) := by decide +kernel
theorem zd_LassoFinderModel_init_192 : decode prog_14_method_1_code 192 = .ok (.newarray .int, 2) := by decide +kernel
theorem zd_LassoFinderModel_init_194 : decode prog_14_method_1_code 194 = .ok (.putfield 78, 3) := by decide +kernel
theorem zd_LassoFinderModel_init_197 : decode prog_14_method_1_code 197 = .ok (.aload_n 0, 1) := by decide +kernel
theorem zd_LassoFinderModel_init_198 : decode prog_14_method_1_code 198 = .ok (.bipush 32, 2) := by decide +kernel
theorem zd_LassoFinderModel_init_200 : decode prog_14_method_1_code 200 = .ok (.newarray .int, 2) := by decide +kernel
theorem zd_LassoFinderModel_init_202 : decode prog_14_method_1_code 202 = .ok (.putfield 81, 3) := by decide +kernel
theorem zd_LassoFinderModel_init_205 : decode prog_14_method_1_code 205 = .ok (.aload_n 0, 1) := by decide +kernel
theorem zd_LassoFinderModel_init_206 : decode prog_14_method_1_code 206 = .ok (.bipush 124, 2) := by decide +kernel
theorem zd_LassoFinderModel_init_208 : decode prog_14_method_1_code 208 = .ok (.newarray .int, 2) := by decide +kernel
theorem zd_LassoFinderModel_init_210 : decode prog_14_method_1_code 210 = .ok (.putfield 84, 3) := by decide +kernel
theorem zd_LassoFinderModel_init_213 : decode prog_14_method_1_code 213 = .ok (.aload_n 0, 1) := by decide +kernel
theorem zd_LassoFinderModel_init_214 : decode prog_14_method_1_code 214 = .ok (.bipush 124, 2) := by decide +kernel
theorem zd_LassoFinderModel_init_216 : decode prog_14_method_1_code 216 = .ok (.newarray .long, 2) := by decide +kernel
theorem zd_LassoFinderModel_init_218 : decode prog_14_method_1_code 218 = .ok (.putfield 87, 3) := by decide +kernel
theorem zd_LassoFinderModel_init_221 : decode prog_14_method_1_code 221 = .ok (.aload_n 0, 1) := by decide +kernel
theorem zd_LassoFinderModel_init_222 : decode prog_14_method_1_code 222 = .ok (.sipush 480, 3) := by decide +kernel
theorem zd_LassoFinderModel_init_225 : decode prog_14_method_1_code 225 = .ok (.newarray .int, 2) := by decide +kernel
theorem zd_LassoFinderModel_init_227 : decode prog_14_method_1_code 227 = .ok (.putfield 91, 3) := by decide +kernel
theorem zd_LassoFinderModel_init_230 : decode prog_14_method_1_code 230 = .ok (.aload_n 0, 1) := by decide +kernel
theorem zd_LassoFinderModel_init_231 : decode prog_14_method_1_code 231 = .ok (.bipush 8, 2) := by decide +kernel
theorem zd_LassoFinderModel_init_233 : decode prog_14_method_1_code 233 = .ok (.newarray .int, 2) := by decide +kernel
theorem zd_LassoFinderModel_init_235 : decode prog_14_method_1_code 235 = .ok (.putfield 94, 3) := by decide +kernel
theorem zd_LassoFinderModel_init_238 : decode prog_14_method_1_code 238 = .ok (.aload_n 0, 1) := by decide +kernel
theorem zd_LassoFinderModel_init_239 : decode prog_14_method_1_code 239 = .ok (.bipush 8, 2) := by decide +kernel
theorem zd_LassoFinderModel_init_241 : decode prog_14_method_1_code 241 = .ok (.newarray .int, 2) := by decide +kernel
theorem zd_LassoFinderModel_init_243 : decode prog_14_method_1_code 243 = .ok (.putfield 97, 3) := by decide +kernel
theorem zd_LassoFinderModel_init_246 : decode prog_14_method_1_code 246 = .ok (.aload_n 0, 1) := by decide +kernel
theorem zd_LassoFinderModel_init_247 : decode prog_14_method_1_code 247 = .ok (.bipush 8, 2) := by decide +kernel
theorem zd_LassoFinderModel_init_249 : decode prog_14_method_1_code 249 = .ok (.newarray .int, 2) := by decide +kernel
theorem zd_LassoFinderModel_init_251 : decode prog_14_method_1_code 251 = .ok (.putfield 100, 3) := by decide +kernel
theorem zd_LassoFinderModel_init_254 : decode prog_14_method_1_code 254 = .ok (.aload_n 0, 1) := by decide +kernel
theorem zd_LassoFinderModel_init_255 : decode prog_14_method_1_code 255 = .ok (.sipush 240, 3) := by decide +kernel
theorem zd_LassoFinderModel_init_258 : decode prog_14_method_1_code 258 = .ok (.newarray .int, 2) := by decide +kernel
theorem zd_LassoFinderModel_init_260 : decode prog_14_method_1_code 260 = .ok (.putfield 103, 3) := by decide +kernel
theorem zd_LassoFinderModel_init_263 : decode prog_14_method_1_code 263 = .ok (.aload_n 0, 1) := by decide +kernel
theorem zd_LassoFinderModel_init_264 : decode prog_14_method_1_code 264 = .ok (.bipush 97, 2) := by decide +kernel
theorem zd_LassoFinderModel_init_266 : decode prog_14_method_1_code 266 = .ok (.newarray .long, 2) := by decide +kernel
theorem zd_LassoFinderModel_init_268 : decode prog_14_method_1_code 268 = .ok (.putfield 106, 3) := by decide +kernel
theorem zd_LassoFinderModel_init_271 : decode prog_14_method_1_code 271 = .ok (.aload_n 0, 1) := by decide +kernel
theorem zd_LassoFinderModel_init_272 : decode prog_14_method_1_code 272 = .ok (.bipush 98, 2) := by decide +kernel
theorem zd_LassoFinderModel_init_274 : decode prog_14_method_1_code 274 = .ok (.newarray .int, 2) := by decide +kernel
theorem zd_LassoFinderModel_init_276 : decode prog_14_method_1_code 276 = .ok (.putfield 109, 3) := by decide +kernel
theorem zd_LassoFinderModel_init_279 : decode prog_14_method_1_code 279 = .ok (.aload_n 0, 1) := by decide +kernel
theorem zd_LassoFinderModel_init_280 : decode prog_14_method_1_code 280 = .ok (.sipush 401, 3) := by decide +kernel
theorem zd_LassoFinderModel_init_283 : decode prog_14_method_1_code 283 = .ok (.newarray .int, 2) := by decide +kernel
theorem zd_LassoFinderModel_init_285 : decode prog_14_method_1_code 285 = .ok (.putfield 112, 3) := by decide +kernel
theorem zd_LassoFinderModel_init_288 : decode prog_14_method_1_code 288 = .ok (.aload_n 0, 1) := by decide +kernel
theorem zd_LassoFinderModel_init_289 : decode prog_14_method_1_code 289 = .ok (.sipush 401, 3) := by decide +kernel
theorem zd_LassoFinderModel_init_292 : decode prog_14_method_1_code 292 = .ok (.newarray .int, 2) := by decide +kernel
theorem zd_LassoFinderModel_init_294 : decode prog_14_method_1_code 294 = .ok (.putfield 115, 3) := by decide +kernel
theorem zd_LassoFinderModel_init_297 : decode prog_14_method_1_code 297 = .ok (.aload_n 0, 1) := by decide +kernel
theorem zd_LassoFinderModel_init_298 : decode prog_14_method_1_code 298 = .ok (.sipush 401, 3) := by decide +kernel
theorem zd_LassoFinderModel_init_301 : decode prog_14_method_1_code 301 = .ok (.newarray .int, 2) := by decide +kernel
theorem zd_LassoFinderModel_init_303 : decode prog_14_method_1_code 303 = .ok (.putfield 118, 3) := by decide +kernel
theorem zd_LassoFinderModel_init_306 : decode prog_14_method_1_code 306 = .ok (.aload_n 0, 1) := by decide +kernel
theorem zd_LassoFinderModel_init_307 : decode prog_14_method_1_code 307 = .ok (.sipush 401, 3) := by decide +kernel
theorem zd_LassoFinderModel_init_310 : decode prog_14_method_1_code 310 = .ok (.newarray .int, 2) := by decide +kernel
theorem zd_LassoFinderModel_init_312 : decode prog_14_method_1_code 312 = .ok (.putfield 121, 3) := by decide +kernel
theorem zd_LassoFinderModel_init_315 : decode prog_14_method_1_code 315 = .ok (.aload_n 0, 1) := by decide +kernel
theorem zd_LassoFinderModel_init_316 : decode prog_14_method_1_code 316 = .ok (.bipush 98, 2) := by decide +kernel
theorem zd_LassoFinderModel_init_318 : decode prog_14_method_1_code 318 = .ok (.newarray .int, 2) := by decide +kernel
theorem zd_LassoFinderModel_init_320 : decode prog_14_method_1_code 320 = .ok (.putfield 124, 3) := by decide +kernel
theorem zd_LassoFinderModel_init_323 : decode prog_14_method_1_code 323 = .ok (.aload_n 0, 1) := by decide +kernel
theorem zd_LassoFinderModel_init_324 : decode prog_14_method_1_code 324 = .ok (.sipush 401, 3) := by decide +kernel
theorem zd_LassoFinderModel_init_327 : decode prog_14_method_1_code 327 = .ok (.newarray .int, 2) := by decide +kernel
theorem zd_LassoFinderModel_init_329 : decode prog_14_method_1_code 329 = .ok (.putfield 127, 3) := by decide +kernel
theorem zd_LassoFinderModel_init_332 : decode prog_14_method_1_code 332 = .ok (.aload_n 0, 1) := by decide +kernel
theorem zd_LassoFinderModel_init_333 : decode prog_14_method_1_code 333 = .ok (.bipush 6, 2) := by decide +kernel
theorem zd_LassoFinderModel_init_335 : decode prog_14_method_1_code 335 = .ok (.newarray .int, 2) := by decide +kernel
theorem zd_LassoFinderModel_init_337 : decode prog_14_method_1_code 337 = .ok (.putfield 130, 3) := by decide +kernel
theorem zd_LassoFinderModel_init_340 : decode prog_14_method_1_code 340 = .ok (.aload_n 0, 1) := by decide +kernel
theorem zd_LassoFinderModel_init_341 : decode prog_14_method_1_code 341 = .ok (.iconst 2, 1) := by decide +kernel
theorem zd_LassoFinderModel_init_342 : decode prog_14_method_1_code 342 = .ok (.newarray .int, 2) := by decide +kernel
theorem zd_LassoFinderModel_init_344 : decode prog_14_method_1_code 344 = .ok (.putfield 133, 3) := by decide +kernel
theorem zd_LassoFinderModel_init_347 : decode prog_14_method_1_code 347 = .ok (.aload_n 0, 1) := by decide +kernel
theorem zd_LassoFinderModel_init_348 : decode prog_14_method_1_code 348 = .ok (.bipush 6, 2) := by decide +kernel
theorem zd_LassoFinderModel_init_350 : decode prog_14_method_1_code 350 = .ok (.newarray .int, 2) := by decide +kernel
theorem zd_LassoFinderModel_init_352 : decode prog_14_method_1_code 352 = .ok (.putfield 136, 3) := by decide +kernel
theorem zd_LassoFinderModel_init_355 : decode prog_14_method_1_code 355 = .ok (.aload_n 0, 1) := by decide +kernel
theorem zd_LassoFinderModel_init_356 : decode prog_14_method_1_code 356 = .ok (.iconst 4, 1) := by decide +kernel
theorem zd_LassoFinderModel_init_357 : decode prog_14_method_1_code 357 = .ok (.newarray .int, 2) := by decide +kernel
theorem zd_LassoFinderModel_init_359 : decode prog_14_method_1_code 359 = .ok (.putfield 139, 3) := by decide +kernel
theorem zd_LassoFinderModel_init_362 : decode prog_14_method_1_code 362 = .ok (.aload_n 0, 1) := by decide +kernel
theorem zd_LassoFinderModel_init_363 : decode prog_14_method_1_code 363 = .ok (.sipush 240, 3) := by decide +kernel
theorem zd_LassoFinderModel_init_366 : decode prog_14_method_1_code 366 = .ok (.newarray .int, 2) := by decide +kernel
theorem zd_LassoFinderModel_init_368 : decode prog_14_method_1_code 368 = .ok (.putfield 142, 3) := by decide +kernel
theorem zd_LassoFinderModel_init_371 : decode prog_14_method_1_code 371 = .ok (.aload_n 0, 1) := by decide +kernel
theorem zd_LassoFinderModel_init_372 : decode prog_14_method_1_code 372 = .ok (.sipush 240, 3) := by decide +kernel
theorem zd_LassoFinderModel_init_375 : decode prog_14_method_1_code 375 = .ok (.newarray .int, 2) := by decide +kernel
theorem zd_LassoFinderModel_init_377 : decode prog_14_method_1_code 377 = .ok (.putfield 145, 3) := by decide +kernel
theorem zd_LassoFinderModel_init_380 : decode prog_14_method_1_code 380 = .ok (.aload_n 0, 1) := by decide +kernel
theorem zd_LassoFinderModel_init_381 : decode prog_14_method_1_code 381 = .ok (.sipush 240, 3) := by decide +kernel
theorem zd_LassoFinderModel_init_384 : decode prog_14_method_1_code 384 = .ok (.newarray .int, 2) := by decide +kernel
theorem zd_LassoFinderModel_init_386 : decode prog_14_method_1_code 386 = .ok (.putfield 148, 3) := by decide +kernel
theorem zd_LassoFinderModel_init_389 : decode prog_14_method_1_code 389 = .ok (.aload_n 0, 1) := by decide +kernel
theorem zd_LassoFinderModel_init_390 : decode prog_14_method_1_code 390 = .ok (.iconst 3, 1) := by decide +kernel
theorem zd_LassoFinderModel_init_391 : decode prog_14_method_1_code 391 = .ok (.newarray .int, 2) := by decide +kernel
theorem zd_LassoFinderModel_init_393 : decode prog_14_method_1_code 393 = .ok (.putfield 151, 3) := by decide +kernel
theorem zd_LassoFinderModel_init_396 : decode prog_14_method_1_code 396 = .ok (.aload_n 0, 1) := by decide +kernel
theorem zd_LassoFinderModel_init_397 : decode prog_14_method_1_code 397 = .ok (.bipush 8, 2) := by decide +kernel
theorem zd_LassoFinderModel_init_399 : decode prog_14_method_1_code 399 = .ok (.newarray .int, 2) := by decide +kernel
theorem zd_LassoFinderModel_init_401 : decode prog_14_method_1_code 401 = .ok (.putfield 154, 3) := by decide +kernel
theorem zd_LassoFinderModel_init_404 : decode prog_14_method_1_code 404 = .ok (.aload_n 0, 1) := by decide +kernel
theorem zd_LassoFinderModel_init_405 : decode prog_14_method_1_code 405 = .ok (.bipush 8, 2) := by decide +kernel
theorem zd_LassoFinderModel_init_407 : decode prog_14_method_1_code 407 = .ok (.newarray .int, 2) := by decide +kernel
theorem zd_LassoFinderModel_init_409 : decode prog_14_method_1_code 409 = .ok (.putfield 157, 3) := by decide +kernel
theorem zd_LassoFinderModel_init_412 : decode prog_14_method_1_code 412 = .ok (.aload_n 0, 1) := by decide +kernel
theorem zd_LassoFinderModel_init_413 : decode prog_14_method_1_code 413 = .ok (.bipush 8, 2) := by decide +kernel
theorem zd_LassoFinderModel_init_415 : decode prog_14_method_1_code 415 = .ok (.newarray .int, 2) := by decide +kernel
theorem zd_LassoFinderModel_init_417 : decode prog_14_method_1_code 417 = .ok (.putfield 160, 3) := by decide +kernel
theorem zd_LassoFinderModel_init_420 : decode prog_14_method_1_code 420 = .ok (.aload_n 0, 1) := by decide +kernel
theorem zd_LassoFinderModel_init_421 : decode prog_14_method_1_code 421 = .ok (.bipush 8, 2) := by decide +kernel
theorem zd_LassoFinderModel_init_423 : decode prog_14_method_1_code 423 = .ok (.newarray .int, 2) := by decide +kernel
theorem zd_LassoFinderModel_init_425 : decode prog_14_method_1_code 425 = .ok (.putfield 163, 3) := by decide +kernel
theorem zd_LassoFinderModel_init_428 : decode prog_14_method_1_code 428 = .ok (.aload_n 0, 1) := by decide +kernel
theorem zd_LassoFinderModel_init_429 : decode prog_14_method_1_code 429 = .ok (.sipush 768, 3) := by decide +kernel
theorem zd_LassoFinderModel_init_432 : decode prog_14_method_1_code 432 = .ok (.newarray .int, 2) := by decide +kernel
theorem zd_LassoFinderModel_init_434 : decode prog_14_method_1_code 434 = .ok (.putfield 166, 3) := by decide +kernel
theorem zd_LassoFinderModel_init_437 : decode prog_14_method_1_code 437 = .ok (.aload_n 0, 1) := by decide +kernel
theorem zd_LassoFinderModel_init_438 : decode prog_14_method_1_code 438 = .ok (.sipush 768, 3) := by decide +kernel
theorem zd_LassoFinderModel_init_441 : decode prog_14_method_1_code 441 = .ok (.newarray .int, 2) := by decide +kernel
theorem zd_LassoFinderModel_init_443 : decode prog_14_method_1_code 443 = .ok (.putfield 169, 3) := by decide +kernel
theorem zd_LassoFinderModel_init_446 : decode prog_14_method_1_code 446 = .ok (.aload_n 0, 1) := by decide +kernel
theorem zd_LassoFinderModel_init_447 : decode prog_14_method_1_code 447 = .ok (.sipush 768, 3) := by decide +kernel
theorem zd_LassoFinderModel_init_450 : decode prog_14_method_1_code 450 = .ok (.newarray .boolean, 2) := by decide +kernel
theorem zd_LassoFinderModel_init_452 : decode prog_14_method_1_code 452 = .ok (.putfield 172, 3) := by decide +kernel
theorem zd_LassoFinderModel_init_455 : decode prog_14_method_1_code 455 = .ok (.aload_n 0, 1) := by decide +kernel
theorem zd_LassoFinderModel_init_456 : decode prog_14_method_1_code 456 = .ok (.sipush 6144, 3) := by decide +kernel
theorem zd_LassoFinderModel_init_459 : decode prog_14_method_1_code 459 = .ok (.newarray .int, 2) := by decide +kernel
theorem zd_LassoFinderModel_init_461 : decode prog_14_method_1_code 461 = .ok (.putfield 175, 3) := by decide +kernel
theorem zd_LassoFinderModel_init_464 : decode prog_14_method_1_code 464 = .ok (.aload_n 0, 1) := by decide +kernel
theorem zd_LassoFinderModel_init_465 : decode prog_14_method_1_code 465 = .ok (.iconst (-1), 1) := by decide +kernel
theorem zd_LassoFinderModel_init_466 : decode prog_14_method_1_code 466 = .ok (.putfield 178, 3) := by decide +kernel
theorem zd_LassoFinderModel_init_469 : decode prog_14_method_1_code 469 = .ok (.aload_n 0, 1) := by decide +kernel
theorem zd_LassoFinderModel_init_470 : decode prog_14_method_1_code 470 = .ok (.sipush 1280, 3) := by decide +kernel
theorem zd_LassoFinderModel_init_473 : decode prog_14_method_1_code 473 = .ok (.newarray .int, 2) := by decide +kernel
theorem zd_LassoFinderModel_init_475 : decode prog_14_method_1_code 475 = .ok (.putfield 181, 3) := by decide +kernel
theorem zd_LassoFinderModel_init_478 : decode prog_14_method_1_code 478 = .ok (.aload_n 0, 1) := by decide +kernel
theorem zd_LassoFinderModel_init_479 : decode prog_14_method_1_code 479 = .ok (.sipush 1024, 3) := by decide +kernel
theorem zd_LassoFinderModel_init_482 : decode prog_14_method_1_code 482 = .ok (.newarray .int, 2) := by decide +kernel
theorem zd_LassoFinderModel_init_484 : decode prog_14_method_1_code 484 = .ok (.putfield 184, 3) := by decide +kernel
theorem zd_LassoFinderModel_init_487 : decode prog_14_method_1_code 487 = .ok (.aload_n 0, 1) := by decide +kernel
theorem zd_LassoFinderModel_init_488 : decode prog_14_method_1_code 488 = .ok (.iconst (-1), 1) := by decide +kernel
theorem zd_LassoFinderModel_init_489 : decode prog_14_method_1_code 489 = .ok (.putfield 187, 3) := by decide +kernel
theorem zd_LassoFinderModel_init_492 : decode prog_14_method_1_code 492 = .ok (.aload_n 0, 1) := by decide +kernel
theorem zd_LassoFinderModel_init_493 : decode prog_14_method_1_code 493 = .ok (.bipush 61, 2) := by decide +kernel
theorem zd_LassoFinderModel_init_495 : decode prog_14_method_1_code 495 = .ok (.newarray .int, 2) := by decide +kernel
theorem zd_LassoFinderModel_init_497 : decode prog_14_method_1_code 497 = .ok (.putfield 190, 3) := by decide +kernel
theorem zd_LassoFinderModel_init_500 : decode prog_14_method_1_code 500 = .ok (.return_, 1) := by decide +kernel
set_option maxHeartbeats 4000000 in
set_option maxRecDepth 100000 in
theorem c_LassoFinderModel_init (l : Launch) (G : va_G) (K : Nat → ClassId) (h0 : Nat) (sz : Nat) : Met l zy_LassoFinderModel_init (Cond.code zy_LassoFinderModel_init prog_14_method_1_code 1 none :: zTB) { frames := 1, cells := 57, slots := 17190, locals := 12 } (va_Pc [.ref h0] (zPre G K [(h0, zO 12 [.int 0, .int 0, .null, .int 0, .int 0, .int 0, .int 0, .int 0, .int 0, .null, .null, .null, .null, .int 0, .null, .null, .null, .null, .null, .null, .null, .null, .null, .null, .null, .null, .null, .int 0, .null, .null, .int 0, .null, .null, .null, .null, .null, .int 0, .null, .int 0, .null, .null, .null, .int 0, .null, .int 0, .int 0, .int 0, .null, .null, .null, .null, .null, .null, .null, .null, .null, .null, .null, .null, .int 0, .null, .int 0, .int 0, .null, .int 0, .int 0, .null, .int 0, .null, .int 0, .null, .null, .null, .null, .null, .null, .null, .null, .int 0, .int 0, .null, .null, .int 0, .null])] sz)) (va_Qv (fun _ : Nat → Nat => True) (fun u t => zPost G K (va_A [(h0, zO 12 [.int 0, .int 0, .null, .int 0, .int 0, .int 0, .int 0, .int 0, .int 0, .null, .null, .null, .null, .int 0, .null, .null, .null, .null, .null, .null, .null, .null, .null, .null, .null, .null, .null, .int 0, .null, .null, .int 0, .null, .null, .null, .null, .null, .int 0, .null, .int 0, .null, .null, .null, .int 0, .null, .int 0, .int 0, .int 0, .null, .null, .null, .null, .null, .null, .null, .null, .null, .null, .null, .null, .int 0, .null, .int 0, .int 0, .null, .int 0, .int 0, .null, .int 0, .null, .int 0, .null, .null, .null, .null, .null, .null, .null, .null, .int 0, .int 0, .null, .null, .int 0, .null])] sz) [(h0, zO 12 [.int 0, .int 0, .ref (u 0), .int 0, .int 0, .int (-1), .int 0, .int 0, .int 0, .ref (u 1), .ref (u 2), .ref (u 3), .ref (u 4), .int 0, .ref (u 5), .ref (u 6), .ref (u 7), .ref (u 8), .ref (u 9), .ref (u 10), .ref (u 11), .ref (u 12), .ref (u 13), .ref (u 14), .ref (u 15), .ref (u 16), .ref (u 17), .int 0, .ref (u 18), .ref (u 19), .int 0, .ref (u 20), .ref (u 21), .ref (u 22), .ref (u 23), .ref (u 24), .int 0, .ref (u 25), .int 0, .ref (u 26), .ref (u 27), .ref (u 28), .int 0, .ref (u 29), .int 0, .int 0, .int 0, .ref (u 30), .ref (u 31), .ref (u 32), .ref (u 33), .ref (u 34), .ref (u 35), .ref (u 36), .ref (u 37), .ref (u 38), .ref (u 39), .ref (u 40), .ref (u 41), .int 0, .ref (u 42), .int 0, .int 0, .ref (u 43), .int 0, .int 0, .ref (u 44), .int 0, .ref (u 45), .int 0, .ref (u 46), .ref (u 47), .ref (u 48), .ref (u 49), .ref (u 50), .ref (u 51), .ref (u 52), .ref (u 53), .int (-1), .int 0, .ref (u 54), .ref (u 55), .int (-1), .ref (u 56)]), ((u 0), zI K 240 (fun _ => 0)), ((u 1), zI K 8 (fun _ => 0)), ((u 2), zI K 8 (fun _ => 0)), ((u 3), zI K 6 (fun _ => 0)), ((u 4), zI K 2 (fun _ => 0)), ((u 5), zI K 140 (fun _ => 0)), ((u 6), zI K 140 (fun _ => 0)), ((u 7), zI K 140 (fun _ => 0)), ((u 8), zI K 140 (fun _ => 0)), ((u 9), zZ K 140 (fun _ => 0)), ((u 10), zI K 140 (fun _ => 0)), ((u 11), zI K 140 (fun _ => 0)), ((u 12), zI K 140 (fun _ => 0)), ((u 13), zI K 140 (fun _ => 0)), ((u 14), zI K 140 (fun _ => 0)), ((u 15), zI K 140 (fun _ => 0)), ((u 16), zI K 140 (fun _ => 0)), ((u 17), zI K 140 (fun _ => 0)), ((u 18), zI K 48 (fun _ => 0)), ((u 19), zI K 140 (fun _ => 0)), ((u 20), zI K 5 (fun _ => 0)), ((u 21), zI K 5 (fun _ => 0)), ((u 22), zI K 32 (fun _ => 0)), ((u 23), zI K 124 (fun _ => 0)), ((u 24), zJ K 124 (fun _ => 0)), ((u 25), zI K 480 (fun _ => 0)), ((u 26), zI K 8 (fun _ => 0)), ((u 27), zI K 8 (fun _ => 0)), ((u 28), zI K 8 (fun _ => 0)), ((u 29), zI K 240 (fun _ => 0)), ((u 30), zJ K 97 (fun _ => 0)), ((u 31), zI K 98 (fun _ => 0)), ((u 32), zI K 401 (fun _ => 0)), ((u 33), zI K 401 (fun _ => 0)), ((u 34), zI K 401 (fun _ => 0)), ((u 35), zI K 401 (fun _ => 0)), ((u 36), zI K 98 (fun _ => 0)), ((u 37), zI K 401 (fun _ => 0)), ((u 38), zI K 6 (fun _ => 0)), ((u 39), zI K 2 (fun _ => 0)), ((u 40), zI K 6 (fun _ => 0)), ((u 41), zI K 4 (fun _ => 0)), ((u 42), zI K 240 (fun _ => 0)), ((u 43), zI K 240 (fun _ => 0)), ((u 44), zI K 240 (fun _ => 0)), ((u 45), zI K 3 (fun _ => 0)), ((u 46), zI K 8 (fun _ => 0)), ((u 47), zI K 8 (fun _ => 0)), ((u 48), zI K 8 (fun _ => 0)), ((u 49), zI K 8 (fun _ => 0)), ((u 50), zI K 768 (fun _ => 0)), ((u 51), zI K 768 (fun _ => 0)), ((u 52), zZ K 768 (fun _ => 0)), ((u 53), zI K 6144 (fun _ => 0)), ((u 54), zI K 1280 (fun _ => 0)), ((u 55), zI K 1024 (fun _ => 0)), ((u 56), zI K 61 (fun _ => 0))] t) (va_A [(h0, zO 12 [.int 0, .int 0, .null, .int 0, .int 0, .int 0, .int 0, .int 0, .int 0, .null, .null, .null, .null, .int 0, .null, .null, .null, .null, .null, .null, .null, .null, .null, .null, .null, .null, .null, .int 0, .null, .null, .int 0, .null, .null, .null, .null, .null, .int 0, .null, .int 0, .null, .null, .null, .int 0, .null, .int 0, .int 0, .int 0, .null, .null, .null, .null, .null, .null, .null, .null, .null, .null, .null, .null, .int 0, .null, .int 0, .int 0, .null, .int 0, .int 0, .null, .int 0, .null, .int 0, .null, .null, .null, .null, .null, .null, .null, .null, .int 0, .int 0, .null, .null, .int 0, .null])] sz)) 57 17190 (va_A [(h0, zO 12 [.int 0, .int 0, .null, .int 0, .int 0, .int 0, .int 0, .int 0, .int 0, .null, .null, .null, .null, .int 0, .null, .null, .null, .null, .null, .null, .null, .null, .null, .null, .null, .null, .null, .int 0, .null, .null, .int 0, .null, .null, .null, .null, .null, .int 0, .null, .int 0, .null, .null, .null, .int 0, .null, .int 0, .int 0, .int 0, .null, .null, .null, .null, .null, .null, .null, .null, .null, .null, .null, .null, .int 0, .null, .int 0, .int 0, .null, .int 0, .int 0, .null, .int 0, .null, .int 0, .null, .null, .null, .null, .null, .null, .null, .null, .int 0, .int 0, .null, .null, .int 0, .null])] sz) := by
  refine zMet (Qf := fun A => va_Qv (fun _ : Nat → Nat => True) (fun u t => zPost G K A [(h0, zO 12 [.int 0, .int 0, .ref (u 0), .int 0, .int 0, .int (-1), .int 0, .int 0, .int 0, .ref (u 1), .ref (u 2), .ref (u 3), .ref (u 4), .int 0, .ref (u 5), .ref (u 6), .ref (u 7), .ref (u 8), .ref (u 9), .ref (u 10), .ref (u 11), .ref (u 12), .ref (u 13), .ref (u 14), .ref (u 15), .ref (u 16), .ref (u 17), .int 0, .ref (u 18), .ref (u 19), .int 0, .ref (u 20), .ref (u 21), .ref (u 22), .ref (u 23), .ref (u 24), .int 0, .ref (u 25), .int 0, .ref (u 26), .ref (u 27), .ref (u 28), .int 0, .ref (u 29), .int 0, .int 0, .int 0, .ref (u 30), .ref (u 31), .ref (u 32), .ref (u 33), .ref (u 34), .ref (u 35), .ref (u 36), .ref (u 37), .ref (u 38), .ref (u 39), .ref (u 40), .ref (u 41), .int 0, .ref (u 42), .int 0, .int 0, .ref (u 43), .int 0, .int 0, .ref (u 44), .int 0, .ref (u 45), .int 0, .ref (u 46), .ref (u 47), .ref (u 48), .ref (u 49), .ref (u 50), .ref (u 51), .ref (u 52), .ref (u 53), .int (-1), .int 0, .ref (u 54), .ref (u 55), .int (-1), .ref (u 56)]), ((u 0), zI K 240 (fun _ => 0)), ((u 1), zI K 8 (fun _ => 0)), ((u 2), zI K 8 (fun _ => 0)), ((u 3), zI K 6 (fun _ => 0)), ((u 4), zI K 2 (fun _ => 0)), ((u 5), zI K 140 (fun _ => 0)), ((u 6), zI K 140 (fun _ => 0)), ((u 7), zI K 140 (fun _ => 0)), ((u 8), zI K 140 (fun _ => 0)), ((u 9), zZ K 140 (fun _ => 0)), ((u 10), zI K 140 (fun _ => 0)), ((u 11), zI K 140 (fun _ => 0)), ((u 12), zI K 140 (fun _ => 0)), ((u 13), zI K 140 (fun _ => 0)), ((u 14), zI K 140 (fun _ => 0)), ((u 15), zI K 140 (fun _ => 0)), ((u 16), zI K 140 (fun _ => 0)), ((u 17), zI K 140 (fun _ => 0)), ((u 18), zI K 48 (fun _ => 0)), ((u 19), zI K 140 (fun _ => 0)), ((u 20), zI K 5 (fun _ => 0)), ((u 21), zI K 5 (fun _ => 0)), ((u 22), zI K 32 (fun _ => 0)), ((u 23), zI K 124 (fun _ => 0)), ((u 24), zJ K 124 (fun _ => 0)), ((u 25), zI K 480 (fun _ => 0)), ((u 26), zI K 8 (fun _ => 0)), ((u 27), zI K 8 (fun _ => 0)), ((u 28), zI K 8 (fun _ => 0)), ((u 29), zI K 240 (fun _ => 0)), ((u 30), zJ K 97 (fun _ => 0)), ((u 31), zI K 98 (fun _ => 0)), ((u 32), zI K 401 (fun _ => 0)), ((u 33), zI K 401 (fun _ => 0)), ((u 34), zI K 401 (fun _ => 0)), ((u 35), zI K 401 (fun _ => 0)), ((u 36), zI K 98 (fun _ => 0)), ((u 37), zI K 401 (fun _ => 0)), ((u 38), zI K 6 (fun _ => 0)), ((u 39), zI K 2 (fun _ => 0)), ((u 40), zI K 6 (fun _ => 0)), ((u 41), zI K 4 (fun _ => 0)), ((u 42), zI K 240 (fun _ => 0)), ((u 43), zI K 240 (fun _ => 0)), ((u 44), zI K 240 (fun _ => 0)), ((u 45), zI K 3 (fun _ => 0)), ((u 46), zI K 8 (fun _ => 0)), ((u 47), zI K 8 (fun _ => 0)), ((u 48), zI K 8 (fun _ => 0)), ((u 49), zI K 8 (fun _ => 0)), ((u 50), zI K 768 (fun _ => 0)), ((u 51), zI K 768 (fun _ => 0)), ((u 52), zZ K 768 (fun _ => 0)), ((u 53), zI K 6144 (fun _ => 0)), ((u 54), zI K 1280 (fun _ => 0)), ((u 55), zI K 1024 (fun _ => 0)), ((u 56), zI K 61 (fun _ => 0))] t) A) (by decide) (Nat.le_of_ble_eq_true rfl) ?_
  intro p e s m below meth c ls A hx hb hr hml hts hown hlocks hin hA hK H locs hw hsz hl
  clear hsz
  have hown : s.vm.findClass "LassoFinderModel" = some m.cls := hown
  have hl : lv_has ls 1 [(0, .ref h0)] := hl
  have hw : zW G A s.heap [(h0, zO 12 [.int 0, .int 0, .null, .int 0, .int 0, .int 0, .int 0, .int 0, .int 0, .null, .null, .null, .null, .int 0, .null, .null, .null, .null, .null, .null, .null, .null, .null, .null, .null, .null, .null, .int 0, .null, .null, .int 0, .null, .null, .null, .null, .null, .int 0, .null, .int 0, .null, .null, .null, .int 0, .null, .int 0, .int 0, .int 0, .null, .null, .null, .null, .null, .null, .null, .null, .null, .null, .null, .null, .int 0, .null, .int 0, .int 0, .null, .int 0, .int 0, .null, .int 0, .null, .int 0, .null, .null, .null, .null, .null, .null, .null, .null, .int 0, .int 0, .null, .null, .int 0, .null])] H locs := hw
  refine lv_aload_n hx hb zd_LassoFinderModel_init_0 rfl (lv_at hl 0 rfl) ?_
  refine z_objInit hx hb hts hown hml hl.1 zm_372 zm_236 zm_237 zd_LassoFinderModel_init_1 (Nat.le_of_ble_eq_true rfl) (Nat.le_of_ble_eq_true rfl) ?_
  refine lv_aload_n hx hb zd_LassoFinderModel_init_4 rfl (lv_at hl 0 rfl) ?_
  refine lv_sipush (v := 240) hx hb zd_LassoFinderModel_init_5 (by decide) ?_
  refine z_newI (N' := 240) hx hb (hts _ zm_238) hK hw hA (by decide) (by decide) (Nat.le_of_ble_eq_true rfl) (Nat.le_of_ble_eq_true rfl) (Nat.le_of_ble_eq_true rfl) zd_LassoFinderModel_init_8 (fun q8 H hw => ?_)
  refine z_putF hx hb hts hown hin hK hw zZ12 0 rfl 2 (by decide) zm_373 rfl rfl rfl rfl (Nat.le_of_ble_eq_true rfl) zd_LassoFinderModel_init_10 (fun H locs hw => ?_)
  refine lv_aload_n hx hb zd_LassoFinderModel_init_13 rfl (lv_at hl 0 rfl) ?_
  refine lv_iconst (v := (-1)) hx hb zd_LassoFinderModel_init_14 (by decide) ?_
  refine z_put hx hb hts hown hK hw zZ12 0 rfl 5 (by decide) zm_374 rfl rfl rfl (Nat.le_of_ble_eq_true rfl) zd_LassoFinderModel_init_15 (fun H locs hw => ?_)
  refine lv_aload_n hx hb zd_LassoFinderModel_init_18 rfl (lv_at hl 0 rfl) ?_
  refine lv_bipush (v := 8) hx hb zd_LassoFinderModel_init_19 (by decide) ?_
  refine z_newI (N' := 8) hx hb (hts _ zm_238) hK hw hA (by decide) (by decide) (Nat.le_of_ble_eq_true rfl) (Nat.le_of_ble_eq_true rfl) (Nat.le_of_ble_eq_true rfl) zd_LassoFinderModel_init_21 (fun q21 H hw => ?_)
  refine z_putF hx hb hts hown hin hK hw zZ12 0 rfl 9 (by decide) zm_375 rfl rfl rfl rfl (Nat.le_of_ble_eq_true rfl) zd_LassoFinderModel_init_23 (fun H locs hw => ?_)
  refine lv_aload_n hx hb zd_LassoFinderModel_init_26 rfl (lv_at hl 0 rfl) ?_
  refine lv_bipush (v := 8) hx hb zd_LassoFinderModel_init_27 (by decide) ?_
  refine z_newI (N' := 8) hx hb (hts _ zm_238) hK hw hA (by decide) (by decide) (Nat.le_of_ble_eq_true rfl) (Nat.le_of_ble_eq_true rfl) (Nat.le_of_ble_eq_true rfl) zd_LassoFinderModel_init_29 (fun q29 H hw => ?_)
  have hw : zW G A s.heap [(h0, zO 12 [.int 0, .int 0, .ref q8, .int 0, .int 0, .int (-1), .int 0, .int 0, .int 0, .ref q21, .null, .null, .null, .int 0, .null, .null, .null, .null, .null, .null, .null, .null, .null, .null, .null, .null, .null, .int 0, .null, .null, .int 0, .null, .null, .null, .null, .null, .int 0, .null, .int 0, .null, .null, .null, .int 0, .null, .int 0, .int 0, .int 0, .null, .null, .null, .null, .null, .null, .null, .null, .null, .null, .null, .null, .int 0, .null, .int 0, .int 0, .null, .int 0, .int 0, .null, .int 0, .null, .int 0, .null, .null, .null, .null, .null, .null, .null, .null, .int 0, .int 0, .null, .null, .int 0, .null]), (q8, zI K 240 (fun _ => 0)), (q21, zI K 8 (fun _ => 0)), (q29, zI K 8 (fun _ => 0))] H locs := hw
  refine z_putF hx hb hts hown hin hK hw zZ12 0 rfl 10 (by decide) zm_376 rfl rfl rfl rfl (Nat.le_of_ble_eq_true rfl) zd_LassoFinderModel_init_31 (fun H locs hw => ?_)
  refine lv_aload_n hx hb zd_LassoFinderModel_init_34 rfl (lv_at hl 0 rfl) ?_
  refine lv_bipush (v := 6) hx hb zd_LassoFinderModel_init_35 (by decide) ?_
  refine z_newI (N' := 6) hx hb (hts _ zm_238) hK hw hA (by decide) (by decide) (Nat.le_of_ble_eq_true rfl) (Nat.le_of_ble_eq_true rfl) (Nat.le_of_ble_eq_true rfl) zd_LassoFinderModel_init_37 (fun q37 H hw => ?_)
  refine z_putF hx hb hts hown hin hK hw zZ12 0 rfl 11 (by decide) zm_377 rfl rfl rfl rfl (Nat.le_of_ble_eq_true rfl) zd_LassoFinderModel_init_39 (fun H locs hw => ?_)
  refine lv_aload_n hx hb zd_LassoFinderModel_init_42 rfl (lv_at hl 0 rfl) ?_
  refine lv_iconst (v := 2) hx hb zd_LassoFinderModel_init_43 (by decide) ?_
  refine z_newI (N' := 2) hx hb (hts _ zm_238) hK hw hA (by decide) (by decide) (Nat.le_of_ble_eq_true rfl) (Nat.le_of_ble_eq_true rfl) (Nat.le_of_ble_eq_true rfl) zd_LassoFinderModel_init_44 (fun q44 H hw => ?_)
  refine z_putF hx hb hts hown hin hK hw zZ12 0 rfl 12 (by decide) zm_378 rfl rfl rfl rfl (Nat.le_of_ble_eq_true rfl) zd_LassoFinderModel_init_46 (fun H locs hw => ?_)
  refine lv_aload_n hx hb zd_LassoFinderModel_init_49 rfl (lv_at hl 0 rfl) ?_
  refine lv_sipush (v := 140) hx hb zd_LassoFinderModel_init_50 (by decide) ?_
  refine z_newI (N' := 140) hx hb (hts _ zm_238) hK hw hA (by decide) (by decide) (Nat.le_of_ble_eq_true rfl) (Nat.le_of_ble_eq_true rfl) (Nat.le_of_ble_eq_true rfl) zd_LassoFinderModel_init_53 (fun q53 H hw => ?_)
  have hw : zW G A s.heap [(h0, zO 12 [.int 0, .int 0, .ref q8, .int 0, .int 0, .int (-1), .int 0, .int 0, .int 0, .ref q21, .ref q29, .ref q37, .ref q44, .int 0, .null, .null, .null, .null, .null, .null, .null, .null, .null, .null, .null, .null, .null, .int 0, .null, .null, .int 0, .null, .null, .null, .null, .null, .int 0, .null, .int 0, .null, .null, .null, .int 0, .null, .int 0, .int 0, .int 0, .null, .null, .null, .null, .null, .null, .null, .null, .null, .null, .null, .null, .int 0, .null, .int 0, .int 0, .null, .int 0, .int 0, .null, .int 0, .null, .int 0, .null, .null, .null, .null, .null, .null, .null, .null, .int 0, .int 0, .null, .null, .int 0, .null]), (q8, zI K 240 (fun _ => 0)), (q21, zI K 8 (fun _ => 0)), (q29, zI K 8 (fun _ => 0)), (q37, zI K 6 (fun _ => 0)), (q44, zI K 2 (fun _ => 0)), (q53, zI K 140 (fun _ => 0))] H locs := hw
  refine z_putF hx hb hts hown hin hK hw zZ12 0 rfl 14 (by decide) zm_379 rfl rfl rfl rfl (Nat.le_of_ble_eq_true rfl) zd_LassoFinderModel_init_55 (fun H locs hw => ?_)
  refine lv_aload_n hx hb zd_LassoFinderModel_init_58 rfl (lv_at hl 0 rfl) ?_
  refine lv_sipush (v := 140) hx hb zd_LassoFinderModel_init_59 (by decide) ?_
  refine z_newI (N' := 140) hx hb (hts _ zm_238) hK hw hA (by decide) (by decide) (Nat.le_of_ble_eq_true rfl) (Nat.le_of_ble_eq_true rfl) (Nat.le_of_ble_eq_true rfl) zd_LassoFinderModel_init_62 (fun q62 H hw => ?_)
  refine z_putF hx hb hts hown hin hK hw zZ12 0 rfl 15 (by decide) zm_380 rfl rfl rfl rfl (Nat.le_of_ble_eq_true rfl) zd_LassoFinderModel_init_64 (fun H locs hw => ?_)
  refine lv_aload_n hx hb zd_LassoFinderModel_init_67 rfl (lv_at hl 0 rfl) ?_
  refine lv_sipush (v := 140) hx hb zd_LassoFinderModel_init_68 (by decide) ?_
  refine z_newI (N' := 140) hx hb (hts _ zm_238) hK hw hA (by decide) (by decide) (Nat.le_of_ble_eq_true rfl) (Nat.le_of_ble_eq_true rfl) (Nat.le_of_ble_eq_true rfl) zd_LassoFinderModel_init_71 (fun q71 H hw => ?_)
  refine z_putF hx hb hts hown hin hK hw zZ12 0 rfl 16 (by decide) zm_381 rfl rfl rfl rfl (Nat.le_of_ble_eq_true rfl) zd_LassoFinderModel_init_73 (fun H locs hw => ?_)
  refine lv_aload_n hx hb zd_LassoFinderModel_init_76 rfl (lv_at hl 0 rfl) ?_
  refine lv_sipush (v := 140) hx hb zd_LassoFinderModel_init_77 (by decide) ?_
  refine z_newI (N' := 140) hx hb (hts _ zm_238) hK hw hA (by decide) (by decide) (Nat.le_of_ble_eq_true rfl) (Nat.le_of_ble_eq_true rfl) (Nat.le_of_ble_eq_true rfl) zd_LassoFinderModel_init_80 (fun q80 H hw => ?_)
  have hw : zW G A s.heap [(h0, zO 12 [.int 0, .int 0, .ref q8, .int 0, .int 0, .int (-1), .int 0, .int 0, .int 0, .ref q21, .ref q29, .ref q37, .ref q44, .int 0, .ref q53, .ref q62, .ref q71, .null, .null, .null, .null, .null, .null, .null, .null, .null, .null, .int 0, .null, .null, .int 0, .null, .null, .null, .null, .null, .int 0, .null, .int 0, .null, .null, .null, .int 0, .null, .int 0, .int 0, .int 0, .null, .null, .null, .null, .null, .null, .null, .null, .null, .null, .null, .null, .int 0, .null, .int 0, .int 0, .null, .int 0, .int 0, .null, .int 0, .null, .int 0, .null, .null, .null, .null, .null, .null, .null, .null, .int 0, .int 0, .null, .null, .int 0, .null]), (q8, zI K 240 (fun _ => 0)), (q21, zI K 8 (fun _ => 0)), (q29, zI K 8 (fun _ => 0)), (q37, zI K 6 (fun _ => 0)), (q44, zI K 2 (fun _ => 0)), (q53, zI K 140 (fun _ => 0)), (q62, zI K 140 (fun _ => 0)), (q71, zI K 140 (fun _ => 0)), (q80, zI K 140 (fun _ => 0))] H locs := hw
  refine z_putF hx hb hts hown hin hK hw zZ12 0 rfl 17 (by decide) zm_382 rfl rfl rfl rfl (Nat.le_of_ble_eq_true rfl) zd_LassoFinderModel_init_82 (fun H locs hw => ?_)
  refine lv_aload_n hx hb zd_LassoFinderModel_init_85 rfl (lv_at hl 0 rfl) ?_
  refine lv_sipush (v := 140) hx hb zd_LassoFinderModel_init_86 (by decide) ?_
  refine z_newZ (N' := 140) hx hb (hts _ zm_240) hK hw hA (by decide) (by decide) (Nat.le_of_ble_eq_true rfl) (Nat.le_of_ble_eq_true rfl) (Nat.le_of_ble_eq_true rfl) zd_LassoFinderModel_init_89 (fun q89 H hw => ?_)
  refine z_putF hx hb hts hown hin hK hw zZ12 0 rfl 18 (by decide) zm_383 rfl rfl rfl rfl (Nat.le_of_ble_eq_true rfl) zd_LassoFinderModel_init_91 (fun H locs hw => ?_)
  refine lv_aload_n hx hb zd_LassoFinderModel_init_94 rfl (lv_at hl 0 rfl) ?_
  refine lv_sipush (v := 140) hx hb zd_LassoFinderModel_init_95 (by decide) ?_
  refine z_newI (N' := 140) hx hb (hts _ zm_238) hK hw hA (by decide) (by decide) (Nat.le_of_ble_eq_true rfl) (Nat.le_of_ble_eq_true rfl) (Nat.le_of_ble_eq_true rfl) zd_LassoFinderModel_init_98 (fun q98 H hw => ?_)
  refine z_putF hx hb hts hown hin hK hw zZ12 0 rfl 19 (by decide) zm_384 rfl rfl rfl rfl (Nat.le_of_ble_eq_true rfl) zd_LassoFinderModel_init_100 (fun H locs hw => ?_)
  refine lv_aload_n hx hb zd_LassoFinderModel_init_103 rfl (lv_at hl 0 rfl) ?_
  refine lv_sipush (v := 140) hx hb zd_LassoFinderModel_init_104 (by decide) ?_
  refine z_newI (N' := 140) hx hb (hts _ zm_238) hK hw hA (by decide) (by decide) (Nat.le_of_ble_eq_true rfl) (Nat.le_of_ble_eq_true rfl) (Nat.le_of_ble_eq_true rfl) zd_LassoFinderModel_init_107 (fun q107 H hw => ?_)
  have hw : zW G A s.heap [(h0, zO 12 [.int 0, .int 0, .ref q8, .int 0, .int 0, .int (-1), .int 0, .int 0, .int 0, .ref q21, .ref q29, .ref q37, .ref q44, .int 0, .ref q53, .ref q62, .ref q71, .ref q80, .ref q89, .ref q98, .null, .null, .null, .null, .null, .null, .null, .int 0, .null, .null, .int 0, .null, .null, .null, .null, .null, .int 0, .null, .int 0, .null, .null, .null, .int 0, .null, .int 0, .int 0, .int 0, .null, .null, .null, .null, .null, .null, .null, .null, .null, .null, .null, .null, .int 0, .null, .int 0, .int 0, .null, .int 0, .int 0, .null, .int 0, .null, .int 0, .null, .null, .null, .null, .null, .null, .null, .null, .int 0, .int 0, .null, .null, .int 0, .null]), (q8, zI K 240 (fun _ => 0)), (q21, zI K 8 (fun _ => 0)), (q29, zI K 8 (fun _ => 0)), (q37, zI K 6 (fun _ => 0)), (q44, zI K 2 (fun _ => 0)), (q53, zI K 140 (fun _ => 0)), (q62, zI K 140 (fun _ => 0)), (q71, zI K 140 (fun _ => 0)), (q80, zI K 140 (fun _ => 0)), (q89, zZ K 140 (fun _ => 0)), (q98, zI K 140 (fun _ => 0)), (q107, zI K 140 (fun _ => 0))] H locs := hw
  refine z_putF hx hb hts hown hin hK hw zZ12 0 rfl 20 (by decide) zm_385 rfl rfl rfl rfl (Nat.le_of_ble_eq_true rfl) zd_LassoFinderModel_init_109 (fun H locs hw => ?_)
  refine lv_aload_n hx hb zd_LassoFinderModel_init_112 rfl (lv_at hl 0 rfl) ?_
  refine lv_sipush (v := 140) hx hb zd_LassoFinderModel_init_113 (by decide) ?_
  refine z_newI (N' := 140) hx hb (hts _ zm_238) hK hw hA (by decide) (by decide) (Nat.le_of_ble_eq_true rfl) (Nat.le_of_ble_eq_true rfl) (Nat.le_of_ble_eq_true rfl) zd_LassoFinderModel_init_116 (fun q116 H hw => ?_)
  refine z_putF hx hb hts hown hin hK hw zZ12 0 rfl 21 (by decide) zm_386 rfl rfl rfl rfl (Nat.le_of_ble_eq_true rfl) zd_LassoFinderModel_init_118 (fun H locs hw => ?_)
  refine lv_aload_n hx hb zd_LassoFinderModel_init_121 rfl (lv_at hl 0 rfl) ?_
  refine lv_sipush (v := 140) hx hb zd_LassoFinderModel_init_122 (by decide) ?_
  refine z_newI (N' := 140) hx hb (hts _ zm_238) hK hw hA (by decide) (by decide) (Nat.le_of_ble_eq_true rfl) (Nat.le_of_ble_eq_true rfl) (Nat.le_of_ble_eq_true rfl) zd_LassoFinderModel_init_125 (fun q125 H hw => ?_)
  refine z_putF hx hb hts hown hin hK hw zZ12 0 rfl 22 (by decide) zm_387 rfl rfl rfl rfl (Nat.le_of_ble_eq_true rfl) zd_LassoFinderModel_init_127 (fun H locs hw => ?_)
  refine lv_aload_n hx hb zd_LassoFinderModel_init_130 rfl (lv_at hl 0 rfl) ?_
  refine lv_sipush (v := 140) hx hb zd_LassoFinderModel_init_131 (by decide) ?_
  refine z_newI (N' := 140) hx hb (hts _ zm_238) hK hw hA (by decide) (by decide) (Nat.le_of_ble_eq_true rfl) (Nat.le_of_ble_eq_true rfl) (Nat.le_of_ble_eq_true rfl) zd_LassoFinderModel_init_134 (fun q134 H hw => ?_)
  have hw : zW G A s.heap [(h0, zO 12 [.int 0, .int 0, .ref q8, .int 0, .int 0, .int (-1), .int 0, .int 0, .int 0, .ref q21, .ref q29, .ref q37, .ref q44, .int 0, .ref q53, .ref q62, .ref q71, .ref q80, .ref q89, .ref q98, .ref q107, .ref q116, .ref q125, .null, .null, .null, .null, .int 0, .null, .null, .int 0, .null, .null, .null, .null, .null, .int 0, .null, .int 0, .null, .null, .null, .int 0, .null, .int 0, .int 0, .int 0, .null, .null, .null, .null, .null, .null, .null, .null, .null, .null, .null, .null, .int 0, .null, .int 0, .int 0, .null, .int 0, .int 0, .null, .int 0, .null, .int 0, .null, .null, .null, .null, .null, .null, .null, .null, .int 0, .int 0, .null, .null, .int 0, .null]), (q8, zI K 240 (fun _ => 0)), (q21, zI K 8 (fun _ => 0)), (q29, zI K 8 (fun _ => 0)), (q37, zI K 6 (fun _ => 0)), (q44, zI K 2 (fun _ => 0)), (q53, zI K 140 (fun _ => 0)), (q62, zI K 140 (fun _ => 0)), (q71, zI K 140 (fun _ => 0)), (q80, zI K 140 (fun _ => 0)), (q89, zZ K 140 (fun _ => 0)), (q98, zI K 140 (fun _ => 0)), (q107, zI K 140 (fun _ => 0)), (q116, zI K 140 (fun _ => 0)), (q125, zI K 140 (fun _ => 0)), (q134, zI K 140 (fun _ => 0))] H locs := hw
  refine z_putF hx hb hts hown hin hK hw zZ12 0 rfl 23 (by decide) zm_388 rfl rfl rfl rfl (Nat.le_of_ble_eq_true rfl) zd_LassoFinderModel_init_136 (fun H locs hw => ?_)
  refine lv_aload_n hx hb zd_LassoFinderModel_init_139 rfl (lv_at hl 0 rfl) ?_
  refine lv_sipush (v := 140) hx hb zd_LassoFinderModel_init_140 (by decide) ?_
  refine z_newI (N' := 140) hx hb (hts _ zm_238) hK hw hA (by decide) (by decide) (Nat.le_of_ble_eq_true rfl) (Nat.le_of_ble_eq_true rfl) (Nat.le_of_ble_eq_true rfl) zd_LassoFinderModel_init_143 (fun q143 H hw => ?_)
  refine z_putF hx hb hts hown hin hK hw zZ12 0 rfl 24 (by decide) zm_389 rfl rfl rfl rfl (Nat.le_of_ble_eq_true rfl) zd_LassoFinderModel_init_145 (fun H locs hw => ?_)
  refine lv_aload_n hx hb zd_LassoFinderModel_init_148 rfl (lv_at hl 0 rfl) ?_
  refine lv_sipush (v := 140) hx hb zd_LassoFinderModel_init_149 (by decide) ?_
  refine z_newI (N' := 140) hx hb (hts _ zm_238) hK hw hA (by decide) (by decide) (Nat.le_of_ble_eq_true rfl) (Nat.le_of_ble_eq_true rfl) (Nat.le_of_ble_eq_true rfl) zd_LassoFinderModel_init_152 (fun q152 H hw => ?_)
  refine z_putF hx hb hts hown hin hK hw zZ12 0 rfl 25 (by decide) zm_390 rfl rfl rfl rfl (Nat.le_of_ble_eq_true rfl) zd_LassoFinderModel_init_154 (fun H locs hw => ?_)
  refine lv_aload_n hx hb zd_LassoFinderModel_init_157 rfl (lv_at hl 0 rfl) ?_
  refine lv_sipush (v := 140) hx hb zd_LassoFinderModel_init_158 (by decide) ?_
  refine z_newI (N' := 140) hx hb (hts _ zm_238) hK hw hA (by decide) (by decide) (Nat.le_of_ble_eq_true rfl) (Nat.le_of_ble_eq_true rfl) (Nat.le_of_ble_eq_true rfl) zd_LassoFinderModel_init_161 (fun q161 H hw => ?_)
  have hw : zW G A s.heap [(h0, zO 12 [.int 0, .int 0, .ref q8, .int 0, .int 0, .int (-1), .int 0, .int 0, .int 0, .ref q21, .ref q29, .ref q37, .ref q44, .int 0, .ref q53, .ref q62, .ref q71, .ref q80, .ref q89, .ref q98, .ref q107, .ref q116, .ref q125, .ref q134, .ref q143, .ref q152, .null, .int 0, .null, .null, .int 0, .null, .null, .null, .null, .null, .int 0, .null, .int 0, .null, .null, .null, .int 0, .null, .int 0, .int 0, .int 0, .null, .null, .null, .null, .null, .null, .null, .null, .null, .null, .null, .null, .int 0, .null, .int 0, .int 0, .null, .int 0, .int 0, .null, .int 0, .null, .int 0, .null, .null, .null, .null, .null, .null, .null, .null, .int 0, .int 0, .null, .null, .int 0, .null]), (q8, zI K 240 (fun _ => 0)), (q21, zI K 8 (fun _ => 0)), (q29, zI K 8 (fun _ => 0)), (q37, zI K 6 (fun _ => 0)), (q44, zI K 2 (fun _ => 0)), (q53, zI K 140 (fun _ => 0)), (q62, zI K 140 (fun _ => 0)), (q71, zI K 140 (fun _ => 0)), (q80, zI K 140 (fun _ => 0)), (q89, zZ K 140 (fun _ => 0)), (q98, zI K 140 (fun _ => 0)), (q107, zI K 140 (fun _ => 0)), (q116, zI K 140 (fun _ => 0)), (q125, zI K 140 (fun _ => 0)), (q134, zI K 140 (fun _ => 0)), (q143, zI K 140 (fun _ => 0)), (q152, zI K 140 (fun _ => 0)), (q161, zI K 140 (fun _ => 0))] H locs := hw
  refine z_putF hx hb hts hown hin hK hw zZ12 0 rfl 26 (by decide) zm_391 rfl rfl rfl rfl (Nat.le_of_ble_eq_true rfl) zd_LassoFinderModel_init_163 (fun H locs hw => ?_)
  refine lv_aload_n hx hb zd_LassoFinderModel_init_166 rfl (lv_at hl 0 rfl) ?_
  refine lv_bipush (v := 48) hx hb zd_LassoFinderModel_init_167 (by decide) ?_
  refine z_newI (N' := 48) hx hb (hts _ zm_238) hK hw hA (by decide) (by decide) (Nat.le_of_ble_eq_true rfl) (Nat.le_of_ble_eq_true rfl) (Nat.le_of_ble_eq_true rfl) zd_LassoFinderModel_init_169 (fun q169 H hw => ?_)
  refine z_putF hx hb hts hown hin hK hw zZ12 0 rfl 28 (by decide) zm_392 rfl rfl rfl rfl (Nat.le_of_ble_eq_true rfl) zd_LassoFinderModel_init_171 (fun H locs hw => ?_)
  refine lv_aload_n hx hb zd_LassoFinderModel_init_174 rfl (lv_at hl 0 rfl) ?_
  refine lv_sipush (v := 140) hx hb zd_LassoFinderModel_init_175 (by decide) ?_
  refine z_newI (N' := 140) hx hb (hts _ zm_238) hK hw hA (by decide) (by decide) (Nat.le_of_ble_eq_true rfl) (Nat.le_of_ble_eq_true rfl) (Nat.le_of_ble_eq_true rfl) zd_LassoFinderModel_init_178 (fun q178 H hw => ?_)
  refine z_putF hx hb hts hown hin hK hw zZ12 0 rfl 29 (by decide) zm_393 rfl rfl rfl rfl (Nat.le_of_ble_eq_true rfl) zd_LassoFinderModel_init_180 (fun H locs hw => ?_)
  refine lv_aload_n hx hb zd_LassoFinderModel_init_183 rfl (lv_at hl 0 rfl) ?_
  refine lv_iconst (v := 5) hx hb zd_LassoFinderModel_init_184 (by decide) ?_
  refine z_newI (N' := 5) hx hb (hts _ zm_238) hK hw hA (by decide) (by decide) (Nat.le_of_ble_eq_true rfl) (Nat.le_of_ble_eq_true rfl) (Nat.le_of_ble_eq_true rfl) zd_LassoFinderModel_init_185 (fun q185 H hw => ?_)
  have hw : zW G A s.heap [(h0, zO 12 [.int 0, .int 0, .ref q8, .int 0, .int 0, .int (-1), .int 0, .int 0, .int 0, .ref q21, .ref q29, .ref q37, .ref q44, .int 0, .ref q53, .ref q62, .ref q71, .ref q80, .ref q89, .ref q98, .ref q107, .ref q116, .ref q125, .ref q134, .ref q143, .ref q152, .ref q161, .int 0, .ref q169, .ref q178, .int 0, .null, .null, .null, .null, .null, .int 0, .null, .int 0, .null, .null, .null, .int 0, .null, .int 0, .int 0, .int 0, .null, .null, .null, .null, .null, .null, .null, .null, .null, .null, .null, .null, .int 0, .null, .int 0, .int 0, .null, .int 0, .int 0, .null, .int 0, .null, .int 0, .null, .null, .null, .null, .null, .null, .null, .null, .int 0, .int 0, .null, .null, .int 0, .null]), (q8, zI K 240 (fun _ => 0)), (q21, zI K 8 (fun _ => 0)), (q29, zI K 8 (fun _ => 0)), (q37, zI K 6 (fun _ => 0)), (q44, zI K 2 (fun _ => 0)), (q53, zI K 140 (fun _ => 0)), (q62, zI K 140 (fun _ => 0)), (q71, zI K 140 (fun _ => 0)), (q80, zI K 140 (fun _ => 0)), (q89, zZ K 140 (fun _ => 0)), (q98, zI K 140 (fun _ => 0)), (q107, zI K 140 (fun _ => 0)), (q116, zI K 140 (fun _ => 0)), (q125, zI K 140 (fun _ => 0)), (q134, zI K 140 (fun _ => 0)), (q143, zI K 140 (fun _ => 0)), (q152, zI K 140 (fun _ => 0)), (q161, zI K 140 (fun _ => 0)), (q169, zI K 48 (fun _ => 0)), (q178, zI K 140 (fun _ => 0)), (q185, zI K 5 (fun _ => 0))] H locs := hw
  refine z_putF hx hb hts hown hin hK hw zZ12 0 rfl 31 (by decide) zm_394 rfl rfl rfl rfl (Nat.le_of_ble_eq_true rfl) zd_LassoFinderModel_init_187 (fun H locs hw => ?_)
  refine lv_aload_n hx hb zd_LassoFinderModel_init_190 rfl (lv_at hl 0 rfl) ?_
  refine lv_iconst (v := 5) hx hb zd_LassoFinderModel_init_191 (by decide) ?_
  refine z_newI (N' := 5) hx hb (hts _ zm_238) hK hw hA (by decide) (by decide) (Nat.le_of_ble_eq_true rfl) (Nat.le_of_ble_eq_true rfl) (Nat.le_of_ble_eq_true rfl) zd_LassoFinderModel_init_192 (fun q192 H hw => ?_)
  refine z_putF hx hb hts hown hin hK hw zZ12 0 rfl 32 (by decide) zm_395 rfl rfl rfl rfl (Nat.le_of_ble_eq_true rfl) zd_LassoFinderModel_init_194 (fun H locs hw => ?_)
  refine lv_aload_n hx hb zd_LassoFinderModel_init_197 rfl (lv_at hl 0 rfl) ?_
  refine lv_bipush (v := 32) hx hb zd_LassoFinderModel_init_198 (by decide) ?_
  refine z_newI (N' := 32) hx hb (hts _ zm_238) hK hw hA (by decide) (by decide) (Nat.le_of_ble_eq_true rfl) (Nat.le_of_ble_eq_true rfl) (Nat.le_of_ble_eq_true rfl) zd_LassoFinderModel_init_200 (fun q200 H hw => ?_)
  refine z_putF hx hb hts hown hin hK hw zZ12 0 rfl 33 (by decide) zm_396 rfl rfl rfl rfl (Nat.le_of_ble_eq_true rfl) zd_LassoFinderModel_init_202 (fun H locs hw => ?_)
  refine lv_aload_n hx hb zd_LassoFinderModel_init_205 rfl (lv_at hl 0 rfl) ?_
  refine lv_bipush (v := 124) hx hb zd_LassoFinderModel_init_206 (by decide) ?_
  refine z_newI (N' := 124) hx hb (hts _ zm_238) hK hw hA (by decide) (by decide) (Nat.le_of_ble_eq_true rfl) (Nat.le_of_ble_eq_true rfl) (Nat.le_of_ble_eq_true rfl) zd_LassoFinderModel_init_208 (fun q208 H hw => ?_)
  have hw : zW G A s.heap [(h0, zO 12 [.int 0, .int 0, .ref q8, .int 0, .int 0, .int (-1), .int 0, .int 0, .int 0, .ref q21, .ref q29, .ref q37, .ref q44, .int 0, .ref q53, .ref q62, .ref q71, .ref q80, .ref q89, .ref q98, .ref q107, .ref q116, .ref q125, .ref q134, .ref q143, .ref q152, .ref q161, .int 0, .ref q169, .ref q178, .int 0, .ref q185, .ref q192, .ref q200, .null, .null, .int 0, .null, .int 0, .null, .null, .null, .int 0, .null, .int 0, .int 0, .int 0, .null, .null, .null, .null, .null, .null, .null, .null, .null, .null, .null, .null, .int 0, .null, .int 0, .int 0, .null, .int 0, .int 0, .null, .int 0, .null, .int 0, .null, .null, .null, .null, .null, .null, .null, .null, .int 0, .int 0, .null, .null, .int 0, .null]), (q8, zI K 240 (fun _ => 0)), (q21, zI K 8 (fun _ => 0)), (q29, zI K 8 (fun _ => 0)), (q37, zI K 6 (fun _ => 0)), (q44, zI K 2 (fun _ => 0)), (q53, zI K 140 (fun _ => 0)), (q62, zI K 140 (fun _ => 0)), (q71, zI K 140 (fun _ => 0)), (q80, zI K 140 (fun _ => 0)), (q89, zZ K 140 (fun _ => 0)), (q98, zI K 140 (fun _ => 0)), (q107, zI K 140 (fun _ => 0)), (q116, zI K 140 (fun _ => 0)), (q125, zI K 140 (fun _ => 0)), (q134, zI K 140 (fun _ => 0)), (q143, zI K 140 (fun _ => 0)), (q152, zI K 140 (fun _ => 0)), (q161, zI K 140 (fun _ => 0)), (q169, zI K 48 (fun _ => 0)), (q178, zI K 140 (fun _ => 0)), (q185, zI K 5 (fun _ => 0)), (q192, zI K 5 (fun _ => 0)), (q200, zI K 32 (fun _ => 0)), (q208, zI K 124 (fun _ => 0))] H locs := hw
  refine z_putF hx hb hts hown hin hK hw zZ12 0 rfl 34 (by decide) zm_397 rfl rfl rfl rfl (Nat.le_of_ble_eq_true rfl) zd_LassoFinderModel_init_210 (fun H locs hw => ?_)
  refine lv_aload_n hx hb zd_LassoFinderModel_init_213 rfl (lv_at hl 0 rfl) ?_
  refine lv_bipush (v := 124) hx hb zd_LassoFinderModel_init_214 (by decide) ?_
  refine z_newJ (N' := 124) hx hb (hts _ zm_239) hK hw hA (by decide) (by decide) (Nat.le_of_ble_eq_true rfl) (Nat.le_of_ble_eq_true rfl) (Nat.le_of_ble_eq_true rfl) zd_LassoFinderModel_init_216 (fun q216 H hw => ?_)
  refine z_putF hx hb hts hown hin hK hw zZ12 0 rfl 35 (by decide) zm_398 rfl rfl rfl rfl (Nat.le_of_ble_eq_true rfl) zd_LassoFinderModel_init_218 (fun H locs hw => ?_)
  refine lv_aload_n hx hb zd_LassoFinderModel_init_221 rfl (lv_at hl 0 rfl) ?_
  refine lv_sipush (v := 480) hx hb zd_LassoFinderModel_init_222 (by decide) ?_
  refine z_newI (N' := 480) hx hb (hts _ zm_238) hK hw hA (by decide) (by decide) (Nat.le_of_ble_eq_true rfl) (Nat.le_of_ble_eq_true rfl) (Nat.le_of_ble_eq_true rfl) zd_LassoFinderModel_init_225 (fun q225 H hw => ?_)
  refine z_putF hx hb hts hown hin hK hw zZ12 0 rfl 37 (by decide) zm_399 rfl rfl rfl rfl (Nat.le_of_ble_eq_true rfl) zd_LassoFinderModel_init_227 (fun H locs hw => ?_)
  refine lv_aload_n hx hb zd_LassoFinderModel_init_230 rfl (lv_at hl 0 rfl) ?_
  refine lv_bipush (v := 8) hx hb zd_LassoFinderModel_init_231 (by decide) ?_
  refine z_newI (N' := 8) hx hb (hts _ zm_238) hK hw hA (by decide) (by decide) (Nat.le_of_ble_eq_true rfl) (Nat.le_of_ble_eq_true rfl) (Nat.le_of_ble_eq_true rfl) zd_LassoFinderModel_init_233 (fun q233 H hw => ?_)
  have hw : zW G A s.heap [(h0, zO 12 [.int 0, .int 0, .ref q8, .int 0, .int 0, .int (-1), .int 0, .int 0, .int 0, .ref q21, .ref q29, .ref q37, .ref q44, .int 0, .ref q53, .ref q62, .ref q71, .ref q80, .ref q89, .ref q98, .ref q107, .ref q116, .ref q125, .ref q134, .ref q143, .ref q152, .ref q161, .int 0, .ref q169, .ref q178, .int 0, .ref q185, .ref q192, .ref q200, .ref q208, .ref q216, .int 0, .ref q225, .int 0, .null, .null, .null, .int 0, .null, .int 0, .int 0, .int 0, .null, .null, .null, .null, .null, .null, .null, .null, .null, .null, .null, .null, .int 0, .null, .int 0, .int 0, .null, .int 0, .int 0, .null, .int 0, .null, .int 0, .null, .null, .null, .null, .null, .null, .null, .null, .int 0, .int 0, .null, .null, .int 0, .null]), (q8, zI K 240 (fun _ => 0)), (q21, zI K 8 (fun _ => 0)), (q29, zI K 8 (fun _ => 0)), (q37, zI K 6 (fun _ => 0)), (q44, zI K 2 (fun _ => 0)), (q53, zI K 140 (fun _ => 0)), (q62, zI K 140 (fun _ => 0)), (q71, zI K 140 (fun _ => 0)), (q80, zI K 140 (fun _ => 0)), (q89, zZ K 140 (fun _ => 0)), (q98, zI K 140 (fun _ => 0)), (q107, zI K 140 (fun _ => 0)), (q116, zI K 140 (fun _ => 0)), (q125, zI K 140 (fun _ => 0)), (q134, zI K 140 (fun _ => 0)), (q143, zI K 140 (fun _ => 0)), (q152, zI K 140 (fun _ => 0)), (q161, zI K 140 (fun _ => 0)), (q169, zI K 48 (fun _ => 0)), (q178, zI K 140 (fun _ => 0)), (q185, zI K 5 (fun _ => 0)), (q192, zI K 5 (fun _ => 0)), (q200, zI K 32 (fun _ => 0)), (q208, zI K 124 (fun _ => 0)), (q216, zJ K 124 (fun _ => 0)), (q225, zI K 480 (fun _ => 0)), (q233, zI K 8 (fun _ => 0))] H locs := hw
  refine z_putF hx hb hts hown hin hK hw zZ12 0 rfl 39 (by decide) zm_400 rfl rfl rfl rfl (Nat.le_of_ble_eq_true rfl) zd_LassoFinderModel_init_235 (fun H locs hw => ?_)
  refine lv_aload_n hx hb zd_LassoFinderModel_init_238 rfl (lv_at hl 0 rfl) ?_
  refine lv_bipush (v := 8) hx hb zd_LassoFinderModel_init_239 (by decide) ?_
  refine z_newI (N' := 8) hx hb (hts _ zm_238) hK hw hA (by decide) (by decide) (Nat.le_of_ble_eq_true rfl) (Nat.le_of_ble_eq_true rfl) (Nat.le_of_ble_eq_true rfl) zd_LassoFinderModel_init_241 (fun q241 H hw => ?_)
  refine z_putF hx hb hts hown hin hK hw zZ12 0 rfl 40 (by decide) zm_401 rfl rfl rfl rfl (Nat.le_of_ble_eq_true rfl) zd_LassoFinderModel_init_243 (fun H locs hw => ?_)
  refine lv_aload_n hx hb zd_LassoFinderModel_init_246 rfl (lv_at hl 0 rfl) ?_
  refine lv_bipush (v := 8) hx hb zd_LassoFinderModel_init_247 (by decide) ?_
  refine z_newI (N' := 8) hx hb (hts _ zm_238) hK hw hA (by decide) (by decide) (Nat.le_of_ble_eq_true rfl) (Nat.le_of_ble_eq_true rfl) (Nat.le_of_ble_eq_true rfl) zd_LassoFinderModel_init_249 (fun q249 H hw => ?_)
  refine z_putF hx hb hts hown hin hK hw zZ12 0 rfl 41 (by decide) zm_402 rfl rfl rfl rfl (Nat.le_of_ble_eq_true rfl) zd_LassoFinderModel_init_251 (fun H locs hw => ?_)
  refine lv_aload_n hx hb zd_LassoFinderModel_init_254 rfl (lv_at hl 0 rfl) ?_
  refine lv_sipush (v := 240) hx hb zd_LassoFinderModel_init_255 (by decide) ?_
  refine z_newI (N' := 240) hx hb (hts _ zm_238) hK hw hA (by decide) (by decide) (Nat.le_of_ble_eq_true rfl) (Nat.le_of_ble_eq_true rfl) (Nat.le_of_ble_eq_true rfl) zd_LassoFinderModel_init_258 (fun q258 H hw => ?_)
  have hw : zW G A s.heap [(h0, zO 12 [.int 0, .int 0, .ref q8, .int 0, .int 0, .int (-1), .int 0, .int 0, .int 0, .ref q21, .ref q29, .ref q37, .ref q44, .int 0, .ref q53, .ref q62, .ref q71, .ref q80, .ref q89, .ref q98, .ref q107, .ref q116, .ref q125, .ref q134, .ref q143, .ref q152, .ref q161, .int 0, .ref q169, .ref q178, .int 0, .ref q185, .ref q192, .ref q200, .ref q208, .ref q216, .int 0, .ref q225, .int 0, .ref q233, .ref q241, .ref q249, .int 0, .null, .int 0, .int 0, .int 0, .null, .null, .null, .null, .null, .null, .null, .null, .null, .null, .null, .null, .int 0, .null, .int 0, .int 0, .null, .int 0, .int 0, .null, .int 0, .null, .int 0, .null, .null, .null, .null, .null, .null, .null, .null, .int 0, .int 0, .null, .null, .int 0, .null]), (q8, zI K 240 (fun _ => 0)), (q21, zI K 8 (fun _ => 0)), (q29, zI K 8 (fun _ => 0)), (q37, zI K 6 (fun _ => 0)), (q44, zI K 2 (fun _ => 0)), (q53, zI K 140 (fun _ => 0)), (q62, zI K 140 (fun _ => 0)), (q71, zI K 140 (fun _ => 0)), (q80, zI K 140 (fun _ => 0)), (q89, zZ K 140 (fun _ => 0)), (q98, zI K 140 (fun _ => 0)), (q107, zI K 140 (fun _ => 0)), (q116, zI K 140 (fun _ => 0)), (q125, zI K 140 (fun _ => 0)), (q134, zI K 140 (fun _ => 0)), (q143, zI K 140 (fun _ => 0)), (q152, zI K 140 (fun _ => 0)), (q161, zI K 140 (fun _ => 0)), (q169, zI K 48 (fun _ => 0)), (q178, zI K 140 (fun _ => 0)), (q185, zI K 5 (fun _ => 0)), (q192, zI K 5 (fun _ => 0)), (q200, zI K 32 (fun _ => 0)), (q208, zI K 124 (fun _ => 0)), (q216, zJ K 124 (fun _ => 0)), (q225, zI K 480 (fun _ => 0)), (q233, zI K 8 (fun _ => 0)), (q241, zI K 8 (fun _ => 0)), (q249, zI K 8 (fun _ => 0)), (q258, zI K 240 (fun _ => 0))] H locs := hw
  refine z_putF hx hb hts hown hin hK hw zZ12 0 rfl 43 (by decide) zm_403 rfl rfl rfl rfl (Nat.le_of_ble_eq_true rfl) zd_LassoFinderModel_init_260 (fun H locs hw => ?_)
  refine lv_aload_n hx hb zd_LassoFinderModel_init_263 rfl (lv_at hl 0 rfl) ?_
  refine lv_bipush (v := 97) hx hb zd_LassoFinderModel_init_264 (by decide) ?_
  refine z_newJ (N' := 97) hx hb (hts _ zm_239) hK hw hA (by decide) (by decide) (Nat.le_of_ble_eq_true rfl) (Nat.le_of_ble_eq_true rfl) (Nat.le_of_ble_eq_true rfl) zd_LassoFinderModel_init_266 (fun q266 H hw => ?_)
  refine z_putF hx hb hts hown hin hK hw zZ12 0 rfl 47 (by decide) zm_404 rfl rfl rfl rfl (Nat.le_of_ble_eq_true rfl) zd_LassoFinderModel_init_268 (fun H locs hw => ?_)
  refine lv_aload_n hx hb zd_LassoFinderModel_init_271 rfl (lv_at hl 0 rfl) ?_
  refine lv_bipush (v := 98) hx hb zd_LassoFinderModel_init_272 (by decide) ?_
  refine z_newI (N' := 98) hx hb (hts _ zm_238) hK hw hA (by decide) (by decide) (Nat.le_of_ble_eq_true rfl) (Nat.le_of_ble_eq_true rfl) (Nat.le_of_ble_eq_true rfl) zd_LassoFinderModel_init_274 (fun q274 H hw => ?_)
  refine z_putF hx hb hts hown hin hK hw zZ12 0 rfl 48 (by decide) zm_405 rfl rfl rfl rfl (Nat.le_of_ble_eq_true rfl) zd_LassoFinderModel_init_276 (fun H locs hw => ?_)
  refine lv_aload_n hx hb zd_LassoFinderModel_init_279 rfl (lv_at hl 0 rfl) ?_
  refine lv_sipush (v := 401) hx hb zd_LassoFinderModel_init_280 (by decide) ?_
  refine z_newI (N' := 401) hx hb (hts _ zm_238) hK hw hA (by decide) (by decide) (Nat.le_of_ble_eq_true rfl) (Nat.le_of_ble_eq_true rfl) (Nat.le_of_ble_eq_true rfl) zd_LassoFinderModel_init_283 (fun q283 H hw => ?_)
  have hw : zW G A s.heap [(h0, zO 12 [.int 0, .int 0, .ref q8, .int 0, .int 0, .int (-1), .int 0, .int 0, .int 0, .ref q21, .ref q29, .ref q37, .ref q44, .int 0, .ref q53, .ref q62, .ref q71, .ref q80, .ref q89, .ref q98, .ref q107, .ref q116, .ref q125, .ref q134, .ref q143, .ref q152, .ref q161, .int 0, .ref q169, .ref q178, .int 0, .ref q185, .ref q192, .ref q200, .ref q208, .ref q216, .int 0, .ref q225, .int 0, .ref q233, .ref q241, .ref q249, .int 0, .ref q258, .int 0, .int 0, .int 0, .ref q266, .ref q274, .null, .null, .null, .null, .null, .null, .null, .null, .null, .null, .int 0, .null, .int 0, .int 0, .null, .int 0, .int 0, .null, .int 0, .null, .int 0, .null, .null, .null, .null, .null, .null, .null, .null, .int 0, .int 0, .null, .null, .int 0, .null]), (q8, zI K 240 (fun _ => 0)), (q21, zI K 8 (fun _ => 0)), (q29, zI K 8 (fun _ => 0)), (q37, zI K 6 (fun _ => 0)), (q44, zI K 2 (fun _ => 0)), (q53, zI K 140 (fun _ => 0)), (q62, zI K 140 (fun _ => 0)), (q71, zI K 140 (fun _ => 0)), (q80, zI K 140 (fun _ => 0)), (q89, zZ K 140 (fun _ => 0)), (q98, zI K 140 (fun _ => 0)), (q107, zI K 140 (fun _ => 0)), (q116, zI K 140 (fun _ => 0)), (q125, zI K 140 (fun _ => 0)), (q134, zI K 140 (fun _ => 0)), (q143, zI K 140 (fun _ => 0)), (q152, zI K 140 (fun _ => 0)), (q161, zI K 140 (fun _ => 0)), (q169, zI K 48 (fun _ => 0)), (q178, zI K 140 (fun _ => 0)), (q185, zI K 5 (fun _ => 0)), (q192, zI K 5 (fun _ => 0)), (q200, zI K 32 (fun _ => 0)), (q208, zI K 124 (fun _ => 0)), (q216, zJ K 124 (fun _ => 0)), (q225, zI K 480 (fun _ => 0)), (q233, zI K 8 (fun _ => 0)), (q241, zI K 8 (fun _ => 0)), (q249, zI K 8 (fun _ => 0)), (q258, zI K 240 (fun _ => 0)), (q266, zJ K 97 (fun _ => 0)), (q274, zI K 98 (fun _ => 0)), (q283, zI K 401 (fun _ => 0))] H locs := hw
  refine z_putF hx hb hts hown hin hK hw zZ12 0 rfl 49 (by decide) zm_406 rfl rfl rfl rfl (Nat.le_of_ble_eq_true rfl) zd_LassoFinderModel_init_285 (fun H locs hw => ?_)
  refine lv_aload_n hx hb zd_LassoFinderModel_init_288 rfl (lv_at hl 0 rfl) ?_
  refine lv_sipush (v := 401) hx hb zd_LassoFinderModel_init_289 (by decide) ?_
  refine z_newI (N' := 401) hx hb (hts _ zm_238) hK hw hA (by decide) (by decide) (Nat.le_of_ble_eq_true rfl) (Nat.le_of_ble_eq_true rfl) (Nat.le_of_ble_eq_true rfl) zd_LassoFinderModel_init_292 (fun q292 H hw => ?_)
  refine z_putF hx hb hts hown hin hK hw zZ12 0 rfl 50 (by decide) zm_407 rfl rfl rfl rfl (Nat.le_of_ble_eq_true rfl) zd_LassoFinderModel_init_294 (fun H locs hw => ?_)
  refine lv_aload_n hx hb zd_LassoFinderModel_init_297 rfl (lv_at hl 0 rfl) ?_
  refine lv_sipush (v := 401) hx hb zd_LassoFinderModel_init_298 (by decide) ?_
  refine z_newI (N' := 401) hx hb (hts _ zm_238) hK hw hA (by decide) (by decide) (Nat.le_of_ble_eq_true rfl) (Nat.le_of_ble_eq_true rfl) (Nat.le_of_ble_eq_true rfl) zd_LassoFinderModel_init_301 (fun q301 H hw => ?_)
  refine z_putF hx hb hts hown hin hK hw zZ12 0 rfl 51 (by decide) zm_408 rfl rfl rfl rfl (Nat.le_of_ble_eq_true rfl) zd_LassoFinderModel_init_303 (fun H locs hw => ?_)
  refine lv_aload_n hx hb zd_LassoFinderModel_init_306 rfl (lv_at hl 0 rfl) ?_
  refine lv_sipush (v := 401) hx hb zd_LassoFinderModel_init_307 (by decide) ?_
  refine z_newI (N' := 401) hx hb (hts _ zm_238) hK hw hA (by decide) (by decide) (Nat.le_of_ble_eq_true rfl) (Nat.le_of_ble_eq_true rfl) (Nat.le_of_ble_eq_true rfl) zd_LassoFinderModel_init_310 (fun q310 H hw => ?_)
  have hw : zW G A s.heap [(h0, zO 12 [.int 0, .int 0, .ref q8, .int 0, .int 0, .int (-1), .int 0, .int 0, .int 0, .ref q21, .ref q29, .ref q37, .ref q44, .int 0, .ref q53, .ref q62, .ref q71, .ref q80, .ref q89, .ref q98, .ref q107, .ref q116, .ref q125, .ref q134, .ref q143, .ref q152, .ref q161, .int 0, .ref q169, .ref q178, .int 0, .ref q185, .ref q192, .ref q200, .ref q208, .ref q216, .int 0, .ref q225, .int 0, .ref q233, .ref q241, .ref q249, .int 0, .ref q258, .int 0, .int 0, .int 0, .ref q266, .ref q274, .ref q283, .ref q292, .ref q301, .null, .null, .null, .null, .null, .null, .null, .int 0, .null, .int 0, .int 0, .null, .int 0, .int 0, .null, .int 0, .null, .int 0, .null, .null, .null, .null, .null, .null, .null, .null, .int 0, .int 0, .null, .null, .int 0, .null]), (q8, zI K 240 (fun _ => 0)), (q21, zI K 8 (fun _ => 0)), (q29, zI K 8 (fun _ => 0)), (q37, zI K 6 (fun _ => 0)), (q44, zI K 2 (fun _ => 0)), (q53, zI K 140 (fun _ => 0)), (q62, zI K 140 (fun _ => 0)), (q71, zI K 140 (fun _ => 0)), (q80, zI K 140 (fun _ => 0)), (q89, zZ K 140 (fun _ => 0)), (q98, zI K 140 (fun _ => 0)), (q107, zI K 140 (fun _ => 0)), (q116, zI K 140 (fun _ => 0)), (q125, zI K 140 (fun _ => 0)), (q134, zI K 140 (fun _ => 0)), (q143, zI K 140 (fun _ => 0)), (q152, zI K 140 (fun _ => 0)), (q161, zI K 140 (fun _ => 0)), (q169, zI K 48 (fun _ => 0)), (q178, zI K 140 (fun _ => 0)), (q185, zI K 5 (fun _ => 0)), (q192, zI K 5 (fun _ => 0)), (q200, zI K 32 (fun _ => 0)), (q208, zI K 124 (fun _ => 0)), (q216, zJ K 124 (fun _ => 0)), (q225, zI K 480 (fun _ => 0)), (q233, zI K 8 (fun _ => 0)), (q241, zI K 8 (fun _ => 0)), (q249, zI K 8 (fun _ => 0)), (q258, zI K 240 (fun _ => 0)), (q266, zJ K 97 (fun _ => 0)), (q274, zI K 98 (fun _ => 0)), (q283, zI K 401 (fun _ => 0)), (q292, zI K 401 (fun _ => 0)), (q301, zI K 401 (fun _ => 0)), (q310, zI K 401 (fun _ => 0))] H locs := hw
  refine z_putF hx hb hts hown hin hK hw zZ12 0 rfl 52 (by decide) zm_409 rfl rfl rfl rfl (Nat.le_of_ble_eq_true rfl) zd_LassoFinderModel_init_312 (fun H locs hw => ?_)
  refine lv_aload_n hx hb zd_LassoFinderModel_init_315 rfl (lv_at hl 0 rfl) ?_
  refine lv_bipush (v := 98) hx hb zd_LassoFinderModel_init_316 (by decide) ?_
  refine z_newI (N' := 98) hx hb (hts _ zm_238) hK hw hA (by decide) (by decide) (Nat.le_of_ble_eq_true rfl) (Nat.le_of_ble_eq_true rfl) (Nat.le_of_ble_eq_true rfl) zd_LassoFinderModel_init_318 (fun q318 H hw => ?_)
  refine z_putF hx hb hts hown hin hK hw zZ12 0 rfl 53 (by decide) zm_410 rfl rfl rfl rfl (Nat.le_of_ble_eq_true rfl) zd_LassoFinderModel_init_320 (fun H locs hw => ?_)
  refine lv_aload_n hx hb zd_LassoFinderModel_init_323 rfl (lv_at hl 0 rfl) ?_
  refine lv_sipush (v := 401) hx hb zd_LassoFinderModel_init_324 (by decide) ?_
  refine z_newI (N' := 401) hx hb (hts _ zm_238) hK hw hA (by decide) (by decide) (Nat.le_of_ble_eq_true rfl) (Nat.le_of_ble_eq_true rfl) (Nat.le_of_ble_eq_true rfl) zd_LassoFinderModel_init_327 (fun q327 H hw => ?_)
  refine z_putF hx hb hts hown hin hK hw zZ12 0 rfl 54 (by decide) zm_411 rfl rfl rfl rfl (Nat.le_of_ble_eq_true rfl) zd_LassoFinderModel_init_329 (fun H locs hw => ?_)
  refine lv_aload_n hx hb zd_LassoFinderModel_init_332 rfl (lv_at hl 0 rfl) ?_
  refine lv_bipush (v := 6) hx hb zd_LassoFinderModel_init_333 (by decide) ?_
  refine z_newI (N' := 6) hx hb (hts _ zm_238) hK hw hA (by decide) (by decide) (Nat.le_of_ble_eq_true rfl) (Nat.le_of_ble_eq_true rfl) (Nat.le_of_ble_eq_true rfl) zd_LassoFinderModel_init_335 (fun q335 H hw => ?_)
  have hw : zW G A s.heap [(h0, zO 12 [.int 0, .int 0, .ref q8, .int 0, .int 0, .int (-1), .int 0, .int 0, .int 0, .ref q21, .ref q29, .ref q37, .ref q44, .int 0, .ref q53, .ref q62, .ref q71, .ref q80, .ref q89, .ref q98, .ref q107, .ref q116, .ref q125, .ref q134, .ref q143, .ref q152, .ref q161, .int 0, .ref q169, .ref q178, .int 0, .ref q185, .ref q192, .ref q200, .ref q208, .ref q216, .int 0, .ref q225, .int 0, .ref q233, .ref q241, .ref q249, .int 0, .ref q258, .int 0, .int 0, .int 0, .ref q266, .ref q274, .ref q283, .ref q292, .ref q301, .ref q310, .ref q318, .ref q327, .null, .null, .null, .null, .int 0, .null, .int 0, .int 0, .null, .int 0, .int 0, .null, .int 0, .null, .int 0, .null, .null, .null, .null, .null, .null, .null, .null, .int 0, .int 0, .null, .null, .int 0, .null]), (q8, zI K 240 (fun _ => 0)), (q21, zI K 8 (fun _ => 0)), (q29, zI K 8 (fun _ => 0)), (q37, zI K 6 (fun _ => 0)), (q44, zI K 2 (fun _ => 0)), (q53, zI K 140 (fun _ => 0)), (q62, zI K 140 (fun _ => 0)), (q71, zI K 140 (fun _ => 0)), (q80, zI K 140 (fun _ => 0)), (q89, zZ K 140 (fun _ => 0)), (q98, zI K 140 (fun _ => 0)), (q107, zI K 140 (fun _ => 0)), (q116, zI K 140 (fun _ => 0)), (q125, zI K 140 (fun _ => 0)), (q134, zI K 140 (fun _ => 0)), (q143, zI K 140 (fun _ => 0)), (q152, zI K 140 (fun _ => 0)), (q161, zI K 140 (fun _ => 0)), (q169, zI K 48 (fun _ => 0)), (q178, zI K 140 (fun _ => 0)), (q185, zI K 5 (fun _ => 0)), (q192, zI K 5 (fun _ => 0)), (q200, zI K 32 (fun _ => 0)), (q208, zI K 124 (fun _ => 0)), (q216, zJ K 124 (fun _ => 0)), (q225, zI K 480 (fun _ => 0)), (q233, zI K 8 (fun _ => 0)), (q241, zI K 8 (fun _ => 0)), (q249, zI K 8 (fun _ => 0)), (q258, zI K 240 (fun _ => 0)), (q266, zJ K 97 (fun _ => 0)), (q274, zI K 98 (fun _ => 0)), (q283, zI K 401 (fun _ => 0)), (q292, zI K 401 (fun _ => 0)), (q301, zI K 401 (fun _ => 0)), (q310, zI K 401 (fun _ => 0)), (q318, zI K 98 (fun _ => 0)), (q327, zI K 401 (fun _ => 0)), (q335, zI K 6 (fun _ => 0))] H locs := hw
  refine z_putF hx hb hts hown hin hK hw zZ12 0 rfl 55 (by decide) zm_412 rfl rfl rfl rfl (Nat.le_of_ble_eq_true rfl) zd_LassoFinderModel_init_337 (fun H locs hw => ?_)
  refine lv_aload_n hx hb zd_LassoFinderModel_init_340 rfl (lv_at hl 0 rfl) ?_
  refine lv_iconst (v := 2) hx hb zd_LassoFinderModel_init_341 (by decide) ?_
  refine z_newI (N' := 2) hx hb (hts _ zm_238) hK hw hA (by decide) (by decide) (Nat.le_of_ble_eq_true rfl) (Nat.le_of_ble_eq_true rfl) (Nat.le_of_ble_eq_true rfl) zd_LassoFinderModel_init_342 (fun q342 H hw => ?_)
  refine z_putF hx hb hts hown hin hK hw zZ12 0 rfl 56 (by decide) zm_413 rfl rfl rfl rfl (Nat.le_of_ble_eq_true rfl) zd_LassoFinderModel_init_344 (fun H locs hw => ?_)
  refine lv_aload_n hx hb zd_LassoFinderModel_init_347 rfl (lv_at hl 0 rfl) ?_
  refine lv_bipush (v := 6) hx hb zd_LassoFinderModel_init_348 (by decide) ?_
  refine z_newI (N' := 6) hx hb (hts _ zm_238) hK hw hA (by decide) (by decide) (Nat.le_of_ble_eq_true rfl) (Nat.le_of_ble_eq_true rfl) (Nat.le_of_ble_eq_true rfl) zd_LassoFinderModel_init_350 (fun q350 H hw => ?_)
  refine z_putF hx hb hts hown hin hK hw zZ12 0 rfl 57 (by decide) zm_414 rfl rfl rfl rfl (Nat.le_of_ble_eq_true rfl) zd_LassoFinderModel_init_352 (fun H locs hw => ?_)
  refine lv_aload_n hx hb zd_LassoFinderModel_init_355 rfl (lv_at hl 0 rfl) ?_
  refine lv_iconst (v := 4) hx hb zd_LassoFinderModel_init_356 (by decide) ?_
  refine z_newI (N' := 4) hx hb (hts _ zm_238) hK hw hA (by decide) (by decide) (Nat.le_of_ble_eq_true rfl) (Nat.le_of_ble_eq_true rfl) (Nat.le_of_ble_eq_true rfl) zd_LassoFinderModel_init_357 (fun q357 H hw => ?_)
  have hw : zW G A s.heap [(h0, zO 12 [.int 0, .int 0, .ref q8, .int 0, .int 0, .int (-1), .int 0, .int 0, .int 0, .ref q21, .ref q29, .ref q37, .ref q44, .int 0, .ref q53, .ref q62, .ref q71, .ref q80, .ref q89, .ref q98, .ref q107, .ref q116, .ref q125, .ref q134, .ref q143, .ref q152, .ref q161, .int 0, .ref q169, .ref q178, .int 0, .ref q185, .ref q192, .ref q200, .ref q208, .ref q216, .int 0, .ref q225, .int 0, .ref q233, .ref q241, .ref q249, .int 0, .ref q258, .int 0, .int 0, .int 0, .ref q266, .ref q274, .ref q283, .ref q292, .ref q301, .ref q310, .ref q318, .ref q327, .ref q335, .ref q342, .ref q350, .null, .int 0, .null, .int 0, .int 0, .null, .int 0, .int 0, .null, .int 0, .null, .int 0, .null, .null, .null, .null, .null, .null, .null, .null, .int 0, .int 0, .null, .null, .int 0, .null]), (q8, zI K 240 (fun _ => 0)), (q21, zI K 8 (fun _ => 0)), (q29, zI K 8 (fun _ => 0)), (q37, zI K 6 (fun _ => 0)), (q44, zI K 2 (fun _ => 0)), (q53, zI K 140 (fun _ => 0)), (q62, zI K 140 (fun _ => 0)), (q71, zI K 140 (fun _ => 0)), (q80, zI K 140 (fun _ => 0)), (q89, zZ K 140 (fun _ => 0)), (q98, zI K 140 (fun _ => 0)), (q107, zI K 140 (fun _ => 0)), (q116, zI K 140 (fun _ => 0)), (q125, zI K 140 (fun _ => 0)), (q134, zI K 140 (fun _ => 0)), (q143, zI K 140 (fun _ => 0)), (q152, zI K 140 (fun _ => 0)), (q161, zI K 140 (fun _ => 0)), (q169, zI K 48 (fun _ => 0)), (q178, zI K 140 (fun _ => 0)), (q185, zI K 5 (fun _ => 0)), (q192, zI K 5 (fun _ => 0)), (q200, zI K 32 (fun _ => 0)), (q208, zI K 124 (fun _ => 0)), (q216, zJ K 124 (fun _ => 0)), (q225, zI K 480 (fun _ => 0)), (q233, zI K 8 (fun _ => 0)), (q241, zI K 8 (fun _ => 0)), (q249, zI K 8 (fun _ => 0)), (q258, zI K 240 (fun _ => 0)), (q266, zJ K 97 (fun _ => 0)), (q274, zI K 98 (fun _ => 0)), (q283, zI K 401 (fun _ => 0)), (q292, zI K 401 (fun _ => 0)), (q301, zI K 401 (fun _ => 0)), (q310, zI K 401 (fun _ => 0)), (q318, zI K 98 (fun _ => 0)), (q327, zI K 401 (fun _ => 0)), (q335, zI K 6 (fun _ => 0)), (q342, zI K 2 (fun _ => 0)), (q350, zI K 6 (fun _ => 0)), (q357, zI K 4 (fun _ => 0))] H locs := hw
  refine z_putF hx hb hts hown hin hK hw zZ12 0 rfl 58 (by decide) zm_415 rfl rfl rfl rfl (Nat.le_of_ble_eq_true rfl) zd_LassoFinderModel_init_359 (fun H locs hw => ?_)
  refine lv_aload_n hx hb zd_LassoFinderModel_init_362 rfl (lv_at hl 0 rfl) ?_
  refine lv_sipush (v := 240) hx hb zd_LassoFinderModel_init_363 (by decide) ?_
  refine z_newI (N' := 240) hx hb (hts _ zm_238) hK hw hA (by decide) (by decide) (Nat.le_of_ble_eq_true rfl) (Nat.le_of_ble_eq_true rfl) (Nat.le_of_ble_eq_true rfl) zd_LassoFinderModel_init_366 (fun q366 H hw => ?_)
  refine z_putF hx hb hts hown hin hK hw zZ12 0 rfl 60 (by decide) zm_416 rfl rfl rfl rfl (Nat.le_of_ble_eq_true rfl) zd_LassoFinderModel_init_368 (fun H locs hw => ?_)
  refine lv_aload_n hx hb zd_LassoFinderModel_init_371 rfl (lv_at hl 0 rfl) ?_
  refine lv_sipush (v := 240) hx hb zd_LassoFinderModel_init_372 (by decide) ?_
  refine z_newI (N' := 240) hx hb (hts _ zm_238) hK hw hA (by decide) (by decide) (Nat.le_of_ble_eq_true rfl) (Nat.le_of_ble_eq_true rfl) (Nat.le_of_ble_eq_true rfl) zd_LassoFinderModel_init_375 (fun q375 H hw => ?_)
  refine z_putF hx hb hts hown hin hK hw zZ12 0 rfl 63 (by decide) zm_417 rfl rfl rfl rfl (Nat.le_of_ble_eq_true rfl) zd_LassoFinderModel_init_377 (fun H locs hw => ?_)
  refine lv_aload_n hx hb zd_LassoFinderModel_init_380 rfl (lv_at hl 0 rfl) ?_
  refine lv_sipush (v := 240) hx hb zd_LassoFinderModel_init_381 (by decide) ?_
  refine z_newI (N' := 240) hx hb (hts _ zm_238) hK hw hA (by decide) (by decide) (Nat.le_of_ble_eq_true rfl) (Nat.le_of_ble_eq_true rfl) (Nat.le_of_ble_eq_true rfl) zd_LassoFinderModel_init_384 (fun q384 H hw => ?_)
  have hw : zW G A s.heap [(h0, zO 12 [.int 0, .int 0, .ref q8, .int 0, .int 0, .int (-1), .int 0, .int 0, .int 0, .ref q21, .ref q29, .ref q37, .ref q44, .int 0, .ref q53, .ref q62, .ref q71, .ref q80, .ref q89, .ref q98, .ref q107, .ref q116, .ref q125, .ref q134, .ref q143, .ref q152, .ref q161, .int 0, .ref q169, .ref q178, .int 0, .ref q185, .ref q192, .ref q200, .ref q208, .ref q216, .int 0, .ref q225, .int 0, .ref q233, .ref q241, .ref q249, .int 0, .ref q258, .int 0, .int 0, .int 0, .ref q266, .ref q274, .ref q283, .ref q292, .ref q301, .ref q310, .ref q318, .ref q327, .ref q335, .ref q342, .ref q350, .ref q357, .int 0, .ref q366, .int 0, .int 0, .ref q375, .int 0, .int 0, .null, .int 0, .null, .int 0, .null, .null, .null, .null, .null, .null, .null, .null, .int 0, .int 0, .null, .null, .int 0, .null]), (q8, zI K 240 (fun _ => 0)), (q21, zI K 8 (fun _ => 0)), (q29, zI K 8 (fun _ => 0)), (q37, zI K 6 (fun _ => 0)), (q44, zI K 2 (fun _ => 0)), (q53, zI K 140 (fun _ => 0)), (q62, zI K 140 (fun _ => 0)), (q71, zI K 140 (fun _ => 0)), (q80, zI K 140 (fun _ => 0)), (q89, zZ K 140 (fun _ => 0)), (q98, zI K 140 (fun _ => 0)), (q107, zI K 140 (fun _ => 0)), (q116, zI K 140 (fun _ => 0)), (q125, zI K 140 (fun _ => 0)), (q134, zI K 140 (fun _ => 0)), (q143, zI K 140 (fun _ => 0)), (q152, zI K 140 (fun _ => 0)), (q161, zI K 140 (fun _ => 0)), (q169, zI K 48 (fun _ => 0)), (q178, zI K 140 (fun _ => 0)), (q185, zI K 5 (fun _ => 0)), (q192, zI K 5 (fun _ => 0)), (q200, zI K 32 (fun _ => 0)), (q208, zI K 124 (fun _ => 0)), (q216, zJ K 124 (fun _ => 0)), (q225, zI K 480 (fun _ => 0)), (q233, zI K 8 (fun _ => 0)), (q241, zI K 8 (fun _ => 0)), (q249, zI K 8 (fun _ => 0)), (q258, zI K 240 (fun _ => 0)), (q266, zJ K 97 (fun _ => 0)), (q274, zI K 98 (fun _ => 0)), (q283, zI K 401 (fun _ => 0)), (q292, zI K 401 (fun _ => 0)), (q301, zI K 401 (fun _ => 0)), (q310, zI K 401 (fun _ => 0)), (q318, zI K 98 (fun _ => 0)), (q327, zI K 401 (fun _ => 0)), (q335, zI K 6 (fun _ => 0)), (q342, zI K 2 (fun _ => 0)), (q350, zI K 6 (fun _ => 0)), (q357, zI K 4 (fun _ => 0)), (q366, zI K 240 (fun _ => 0)), (q375, zI K 240 (fun _ => 0)), (q384, zI K 240 (fun _ => 0))] H locs := hw
  refine z_putF hx hb hts hown hin hK hw zZ12 0 rfl 66 (by decide) zm_418 rfl rfl rfl rfl (Nat.le_of_ble_eq_true rfl) zd_LassoFinderModel_init_386 (fun H locs hw => ?_)
  refine lv_aload_n hx hb zd_LassoFinderModel_init_389 rfl (lv_at hl 0 rfl) ?_
  refine lv_iconst (v := 3) hx hb zd_LassoFinderModel_init_390 (by decide) ?_
  refine z_newI (N' := 3) hx hb (hts _ zm_238) hK hw hA (by decide) (by decide) (Nat.le_of_ble_eq_true rfl) (Nat.le_of_ble_eq_true rfl) (Nat.le_of_ble_eq_true rfl) zd_LassoFinderModel_init_391 (fun q391 H hw => ?_)
  refine z_putF hx hb hts hown hin hK hw zZ12 0 rfl 68 (by decide) zm_419 rfl rfl rfl rfl (Nat.le_of_ble_eq_true rfl) zd_LassoFinderModel_init_393 (fun H locs hw => ?_)
  refine lv_aload_n hx hb zd_LassoFinderModel_init_396 rfl (lv_at hl 0 rfl) ?_
  refine lv_bipush (v := 8) hx hb zd_LassoFinderModel_init_397 (by decide) ?_
  refine z_newI (N' := 8) hx hb (hts _ zm_238) hK hw hA (by decide) (by decide) (Nat.le_of_ble_eq_true rfl) (Nat.le_of_ble_eq_true rfl) (Nat.le_of_ble_eq_true rfl) zd_LassoFinderModel_init_399 (fun q399 H hw => ?_)
  refine z_putF hx hb hts hown hin hK hw zZ12 0 rfl 70 (by decide) zm_420 rfl rfl rfl rfl (Nat.le_of_ble_eq_true rfl) zd_LassoFinderModel_init_401 (fun H locs hw => ?_)
  refine lv_aload_n hx hb zd_LassoFinderModel_init_404 rfl (lv_at hl 0 rfl) ?_
  refine lv_bipush (v := 8) hx hb zd_LassoFinderModel_init_405 (by decide) ?_
  refine z_newI (N' := 8) hx hb (hts _ zm_238) hK hw hA (by decide) (by decide) (Nat.le_of_ble_eq_true rfl) (Nat.le_of_ble_eq_true rfl) (Nat.le_of_ble_eq_true rfl) zd_LassoFinderModel_init_407 (fun q407 H hw => ?_)
  have hw : zW G A s.heap [(h0, zO 12 [.int 0, .int 0, .ref q8, .int 0, .int 0, .int (-1), .int 0, .int 0, .int 0, .ref q21, .ref q29, .ref q37, .ref q44, .int 0, .ref q53, .ref q62, .ref q71, .ref q80, .ref q89, .ref q98, .ref q107, .ref q116, .ref q125, .ref q134, .ref q143, .ref q152, .ref q161, .int 0, .ref q169, .ref q178, .int 0, .ref q185, .ref q192, .ref q200, .ref q208, .ref q216, .int 0, .ref q225, .int 0, .ref q233, .ref q241, .ref q249, .int 0, .ref q258, .int 0, .int 0, .int 0, .ref q266, .ref q274, .ref q283, .ref q292, .ref q301, .ref q310, .ref q318, .ref q327, .ref q335, .ref q342, .ref q350, .ref q357, .int 0, .ref q366, .int 0, .int 0, .ref q375, .int 0, .int 0, .ref q384, .int 0, .ref q391, .int 0, .ref q399, .null, .null, .null, .null, .null, .null, .null, .int 0, .int 0, .null, .null, .int 0, .null]), (q8, zI K 240 (fun _ => 0)), (q21, zI K 8 (fun _ => 0)), (q29, zI K 8 (fun _ => 0)), (q37, zI K 6 (fun _ => 0)), (q44, zI K 2 (fun _ => 0)), (q53, zI K 140 (fun _ => 0)), (q62, zI K 140 (fun _ => 0)), (q71, zI K 140 (fun _ => 0)), (q80, zI K 140 (fun _ => 0)), (q89, zZ K 140 (fun _ => 0)), (q98, zI K 140 (fun _ => 0)), (q107, zI K 140 (fun _ => 0)), (q116, zI K 140 (fun _ => 0)), (q125, zI K 140 (fun _ => 0)), (q134, zI K 140 (fun _ => 0)), (q143, zI K 140 (fun _ => 0)), (q152, zI K 140 (fun _ => 0)), (q161, zI K 140 (fun _ => 0)), (q169, zI K 48 (fun _ => 0)), (q178, zI K 140 (fun _ => 0)), (q185, zI K 5 (fun _ => 0)), (q192, zI K 5 (fun _ => 0)), (q200, zI K 32 (fun _ => 0)), (q208, zI K 124 (fun _ => 0)), (q216, zJ K 124 (fun _ => 0)), (q225, zI K 480 (fun _ => 0)), (q233, zI K 8 (fun _ => 0)), (q241, zI K 8 (fun _ => 0)), (q249, zI K 8 (fun _ => 0)), (q258, zI K 240 (fun _ => 0)), (q266, zJ K 97 (fun _ => 0)), (q274, zI K 98 (fun _ => 0)), (q283, zI K 401 (fun _ => 0)), (q292, zI K 401 (fun _ => 0)), (q301, zI K 401 (fun _ => 0)), (q310, zI K 401 (fun _ => 0)), (q318, zI K 98 (fun _ => 0)), (q327, zI K 401 (fun _ => 0)), (q335, zI K 6 (fun _ => 0)), (q342, zI K 2 (fun _ => 0)), (q350, zI K 6 (fun _ => 0)), (q357, zI K 4 (fun _ => 0)), (q366, zI K 240 (fun _ => 0)), (q375, zI K 240 (fun _ => 0)), (q384, zI K 240 (fun _ => 0)), (q391, zI K 3 (fun _ => 0)), (q399, zI K 8 (fun _ => 0)), (q407, zI K 8 (fun _ => 0))] H locs := hw
  refine z_putF hx hb hts hown hin hK hw zZ12 0 rfl 71 (by decide) zm_421 rfl rfl rfl rfl (Nat.le_of_ble_eq_true rfl) zd_LassoFinderModel_init_409 (fun H locs hw => ?_)
  refine lv_aload_n hx hb zd_LassoFinderModel_init_412 rfl (lv_at hl 0 rfl) ?_
  refine lv_bipush (v := 8) hx hb zd_LassoFinderModel_init_413 (by decide) ?_
  refine z_newI (N' := 8) hx hb (hts _ zm_238) hK hw hA (by decide) (by decide) (Nat.le_of_ble_eq_true rfl) (Nat.le_of_ble_eq_true rfl) (Nat.le_of_ble_eq_true rfl) zd_LassoFinderModel_init_415 (fun q415 H hw => ?_)
  refine z_putF hx hb hts hown hin hK hw zZ12 0 rfl 72 (by decide) zm_422 rfl rfl rfl rfl (Nat.le_of_ble_eq_true rfl) zd_LassoFinderModel_init_417 (fun H locs hw => ?_)
  refine lv_aload_n hx hb zd_LassoFinderModel_init_420 rfl (lv_at hl 0 rfl) ?_
  refine lv_bipush (v := 8) hx hb zd_LassoFinderModel_init_421 (by decide) ?_
  refine z_newI (N' := 8) hx hb (hts _ zm_238) hK hw hA (by decide) (by decide) (Nat.le_of_ble_eq_true rfl) (Nat.le_of_ble_eq_true rfl) (Nat.le_of_ble_eq_true rfl) zd_LassoFinderModel_init_423 (fun q423 H hw => ?_)
  refine z_putF hx hb hts hown hin hK hw zZ12 0 rfl 73 (by decide) zm_423 rfl rfl rfl rfl (Nat.le_of_ble_eq_true rfl) zd_LassoFinderModel_init_425 (fun H locs hw => ?_)
  refine lv_aload_n hx hb zd_LassoFinderModel_init_428 rfl (lv_at hl 0 rfl) ?_
  refine lv_sipush (v := 768) hx hb zd_LassoFinderModel_init_429 (by decide) ?_
  refine z_newI (N' := 768) hx hb (hts _ zm_238) hK hw hA (by decide) (by decide) (Nat.le_of_ble_eq_true rfl) (Nat.le_of_ble_eq_true rfl) (Nat.le_of_ble_eq_true rfl) zd_LassoFinderModel_init_432 (fun q432 H hw => ?_)
  have hw : zW G A s.heap [(h0, zO 12 [.int 0, .int 0, .ref q8, .int 0, .int 0, .int (-1), .int 0, .int 0, .int 0, .ref q21, .ref q29, .ref q37, .ref q44, .int 0, .ref q53, .ref q62, .ref q71, .ref q80, .ref q89, .ref q98, .ref q107, .ref q116, .ref q125, .ref q134, .ref q143, .ref q152, .ref q161, .int 0, .ref q169, .ref q178, .int 0, .ref q185, .ref q192, .ref q200, .ref q208, .ref q216, .int 0, .ref q225, .int 0, .ref q233, .ref q241, .ref q249, .int 0, .ref q258, .int 0, .int 0, .int 0, .ref q266, .ref q274, .ref q283, .ref q292, .ref q301, .ref q310, .ref q318, .ref q327, .ref q335, .ref q342, .ref q350, .ref q357, .int 0, .ref q366, .int 0, .int 0, .ref q375, .int 0, .int 0, .ref q384, .int 0, .ref q391, .int 0, .ref q399, .ref q407, .ref q415, .ref q423, .null, .null, .null, .null, .int 0, .int 0, .null, .null, .int 0, .null]), (q8, zI K 240 (fun _ => 0)), (q21, zI K 8 (fun _ => 0)), (q29, zI K 8 (fun _ => 0)), (q37, zI K 6 (fun _ => 0)), (q44, zI K 2 (fun _ => 0)), (q53, zI K 140 (fun _ => 0)), (q62, zI K 140 (fun _ => 0)), (q71, zI K 140 (fun _ => 0)), (q80, zI K 140 (fun _ => 0)), (q89, zZ K 140 (fun _ => 0)), (q98, zI K 140 (fun _ => 0)), (q107, zI K 140 (fun _ => 0)), (q116, zI K 140 (fun _ => 0)), (q125, zI K 140 (fun _ => 0)), (q134, zI K 140 (fun _ => 0)), (q143, zI K 140 (fun _ => 0)), (q152, zI K 140 (fun _ => 0)), (q161, zI K 140 (fun _ => 0)), (q169, zI K 48 (fun _ => 0)), (q178, zI K 140 (fun _ => 0)), (q185, zI K 5 (fun _ => 0)), (q192, zI K 5 (fun _ => 0)), (q200, zI K 32 (fun _ => 0)), (q208, zI K 124 (fun _ => 0)), (q216, zJ K 124 (fun _ => 0)), (q225, zI K 480 (fun _ => 0)), (q233, zI K 8 (fun _ => 0)), (q241, zI K 8 (fun _ => 0)), (q249, zI K 8 (fun _ => 0)), (q258, zI K 240 (fun _ => 0)), (q266, zJ K 97 (fun _ => 0)), (q274, zI K 98 (fun _ => 0)), (q283, zI K 401 (fun _ => 0)), (q292, zI K 401 (fun _ => 0)), (q301, zI K 401 (fun _ => 0)), (q310, zI K 401 (fun _ => 0)), (q318, zI K 98 (fun _ => 0)), (q327, zI K 401 (fun _ => 0)), (q335, zI K 6 (fun _ => 0)), (q342, zI K 2 (fun _ => 0)), (q350, zI K 6 (fun _ => 0)), (q357, zI K 4 (fun _ => 0)), (q366, zI K 240 (fun _ => 0)), (q375, zI K 240 (fun _ => 0)), (q384, zI K 240 (fun _ => 0)), (q391, zI K 3 (fun _ => 0)), (q399, zI K 8 (fun _ => 0)), (q407, zI K 8 (fun _ => 0)), (q415, zI K 8 (fun _ => 0)), (q423, zI K 8 (fun _ => 0)), (q432, zI K 768 (fun _ => 0))] H locs := hw
  refine z_putF hx hb hts hown hin hK hw zZ12 0 rfl 74 (by decide) zm_424 rfl rfl rfl rfl (Nat.le_of_ble_eq_true rfl) zd_LassoFinderModel_init_434 (fun H locs hw => ?_)
  refine lv_aload_n hx hb zd_LassoFinderModel_init_437 rfl (lv_at hl 0 rfl) ?_
  refine lv_sipush (v := 768) hx hb zd_LassoFinderModel_init_438 (by decide) ?_
  refine z_newI (N' := 768) hx hb (hts _ zm_238) hK hw hA (by decide) (by decide) (Nat.le_of_ble_eq_true rfl) (Nat.le_of_ble_eq_true rfl) (Nat.le_of_ble_eq_true rfl) zd_LassoFinderModel_init_441 (fun q441 H hw => ?_)
  refine z_putF hx hb hts hown hin hK hw zZ12 0 rfl 75 (by decide) zm_425 rfl rfl rfl rfl (Nat.le_of_ble_eq_true rfl) zd_LassoFinderModel_init_443 (fun H locs hw => ?_)
  refine lv_aload_n hx hb zd_LassoFinderModel_init_446 rfl (lv_at hl 0 rfl) ?_
  refine lv_sipush (v := 768) hx hb zd_LassoFinderModel_init_447 (by decide) ?_
  refine z_newZ (N' := 768) hx hb (hts _ zm_240) hK hw hA (by decide) (by decide) (Nat.le_of_ble_eq_true rfl) (Nat.le_of_ble_eq_true rfl) (Nat.le_of_ble_eq_true rfl) zd_LassoFinderModel_init_450 (fun q450 H hw => ?_)
  refine z_putF hx hb hts hown hin hK hw zZ12 0 rfl 76 (by decide) zm_426 rfl rfl rfl rfl (Nat.le_of_ble_eq_true rfl) zd_LassoFinderModel_init_452 (fun H locs hw => ?_)
  refine lv_aload_n hx hb zd_LassoFinderModel_init_455 rfl (lv_at hl 0 rfl) ?_
  refine lv_sipush (v := 6144) hx hb zd_LassoFinderModel_init_456 (by decide) ?_
  refine z_newI (N' := 6144) hx hb (hts _ zm_238) hK hw hA (by decide) (by decide) (Nat.le_of_ble_eq_true rfl) (Nat.le_of_ble_eq_true rfl) (Nat.le_of_ble_eq_true rfl) zd_LassoFinderModel_init_459 (fun q459 H hw => ?_)
  have hw : zW G A s.heap [(h0, zO 12 [.int 0, .int 0, .ref q8, .int 0, .int 0, .int (-1), .int 0, .int 0, .int 0, .ref q21, .ref q29, .ref q37, .ref q44, .int 0, .ref q53, .ref q62, .ref q71, .ref q80, .ref q89, .ref q98, .ref q107, .ref q116, .ref q125, .ref q134, .ref q143, .ref q152, .ref q161, .int 0, .ref q169, .ref q178, .int 0, .ref q185, .ref q192, .ref q200, .ref q208, .ref q216, .int 0, .ref q225, .int 0, .ref q233, .ref q241, .ref q249, .int 0, .ref q258, .int 0, .int 0, .int 0, .ref q266, .ref q274, .ref q283, .ref q292, .ref q301, .ref q310, .ref q318, .ref q327, .ref q335, .ref q342, .ref q350, .ref q357, .int 0, .ref q366, .int 0, .int 0, .ref q375, .int 0, .int 0, .ref q384, .int 0, .ref q391, .int 0, .ref q399, .ref q407, .ref q415, .ref q423, .ref q432, .ref q441, .ref q450, .null, .int 0, .int 0, .null, .null, .int 0, .null]), (q8, zI K 240 (fun _ => 0)), (q21, zI K 8 (fun _ => 0)), (q29, zI K 8 (fun _ => 0)), (q37, zI K 6 (fun _ => 0)), (q44, zI K 2 (fun _ => 0)), (q53, zI K 140 (fun _ => 0)), (q62, zI K 140 (fun _ => 0)), (q71, zI K 140 (fun _ => 0)), (q80, zI K 140 (fun _ => 0)), (q89, zZ K 140 (fun _ => 0)), (q98, zI K 140 (fun _ => 0)), (q107, zI K 140 (fun _ => 0)), (q116, zI K 140 (fun _ => 0)), (q125, zI K 140 (fun _ => 0)), (q134, zI K 140 (fun _ => 0)), (q143, zI K 140 (fun _ => 0)), (q152, zI K 140 (fun _ => 0)), (q161, zI K 140 (fun _ => 0)), (q169, zI K 48 (fun _ => 0)), (q178, zI K 140 (fun _ => 0)), (q185, zI K 5 (fun _ => 0)), (q192, zI K 5 (fun _ => 0)), (q200, zI K 32 (fun _ => 0)), (q208, zI K 124 (fun _ => 0)), (q216, zJ K 124 (fun _ => 0)), (q225, zI K 480 (fun _ => 0)), (q233, zI K 8 (fun _ => 0)), (q241, zI K 8 (fun _ => 0)), (q249, zI K 8 (fun _ => 0)), (q258, zI K 240 (fun _ => 0)), (q266, zJ K 97 (fun _ => 0)), (q274, zI K 98 (fun _ => 0)), (q283, zI K 401 (fun _ => 0)), (q292, zI K 401 (fun _ => 0)), (q301, zI K 401 (fun _ => 0)), (q310, zI K 401 (fun _ => 0)), (q318, zI K 98 (fun _ => 0)), (q327, zI K 401 (fun _ => 0)), (q335, zI K 6 (fun _ => 0)), (q342, zI K 2 (fun _ => 0)), (q350, zI K 6 (fun _ => 0)), (q357, zI K 4 (fun _ => 0)), (q366, zI K 240 (fun _ => 0)), (q375, zI K 240 (fun _ => 0)), (q384, zI K 240 (fun _ => 0)), (q391, zI K 3 (fun _ => 0)), (q399, zI K 8 (fun _ => 0)), (q407, zI K 8 (fun _ => 0)), (q415, zI K 8 (fun _ => 0)), (q423, zI K 8 (fun _ => 0)), (q432, zI K 768 (fun _ => 0)), (q441, zI K 768 (fun _ => 0)), (q450, zZ K 768 (fun _ => 0)), (q459, zI K 6144 (fun _ => 0))] H locs := hw
  refine z_putF hx hb hts hown hin hK hw zZ12 0 rfl 77 (by decide) zm_427 rfl rfl rfl rfl (Nat.le_of_ble_eq_true rfl) zd_LassoFinderModel_init_461 (fun H locs hw => ?_)
  refine lv_aload_n hx hb zd_LassoFinderModel_init_464 rfl (lv_at hl 0 rfl) ?_
  refine lv_iconst (v := (-1)) hx hb zd_LassoFinderModel_init_465 (by decide) ?_
  refine z_put hx hb hts hown hK hw zZ12 0 rfl 78 (by decide) zm_428 rfl rfl rfl (Nat.le_of_ble_eq_true rfl) zd_LassoFinderModel_init_466 (fun H locs hw => ?_)
  refine lv_aload_n hx hb zd_LassoFinderModel_init_469 rfl (lv_at hl 0 rfl) ?_
  refine lv_sipush (v := 1280) hx hb zd_LassoFinderModel_init_470 (by decide) ?_
  refine z_newI (N' := 1280) hx hb (hts _ zm_238) hK hw hA (by decide) (by decide) (Nat.le_of_ble_eq_true rfl) (Nat.le_of_ble_eq_true rfl) (Nat.le_of_ble_eq_true rfl) zd_LassoFinderModel_init_473 (fun q473 H hw => ?_)
  refine z_putF hx hb hts hown hin hK hw zZ12 0 rfl 80 (by decide) zm_429 rfl rfl rfl rfl (Nat.le_of_ble_eq_true rfl) zd_LassoFinderModel_init_475 (fun H locs hw => ?_)
  refine lv_aload_n hx hb zd_LassoFinderModel_init_478 rfl (lv_at hl 0 rfl) ?_
  refine lv_sipush (v := 1024) hx hb zd_LassoFinderModel_init_479 (by decide) ?_
  refine z_newI (N' := 1024) hx hb (hts _ zm_238) hK hw hA (by decide) (by decide) (Nat.le_of_ble_eq_true rfl) (Nat.le_of_ble_eq_true rfl) (Nat.le_of_ble_eq_true rfl) zd_LassoFinderModel_init_482 (fun q482 H hw => ?_)
  refine z_putF hx hb hts hown hin hK hw zZ12 0 rfl 81 (by decide) zm_430 rfl rfl rfl rfl (Nat.le_of_ble_eq_true rfl) zd_LassoFinderModel_init_484 (fun H locs hw => ?_)
  have hw : zW G A s.heap [(h0, zO 12 [.int 0, .int 0, .ref q8, .int 0, .int 0, .int (-1), .int 0, .int 0, .int 0, .ref q21, .ref q29, .ref q37, .ref q44, .int 0, .ref q53, .ref q62, .ref q71, .ref q80, .ref q89, .ref q98, .ref q107, .ref q116, .ref q125, .ref q134, .ref q143, .ref q152, .ref q161, .int 0, .ref q169, .ref q178, .int 0, .ref q185, .ref q192, .ref q200, .ref q208, .ref q216, .int 0, .ref q225, .int 0, .ref q233, .ref q241, .ref q249, .int 0, .ref q258, .int 0, .int 0, .int 0, .ref q266, .ref q274, .ref q283, .ref q292, .ref q301, .ref q310, .ref q318, .ref q327, .ref q335, .ref q342, .ref q350, .ref q357, .int 0, .ref q366, .int 0, .int 0, .ref q375, .int 0, .int 0, .ref q384, .int 0, .ref q391, .int 0, .ref q399, .ref q407, .ref q415, .ref q423, .ref q432, .ref q441, .ref q450, .ref q459, .int (-1), .int 0, .ref q473, .ref q482, .int 0, .null]), (q8, zI K 240 (fun _ => 0)), (q21, zI K 8 (fun _ => 0)), (q29, zI K 8 (fun _ => 0)), (q37, zI K 6 (fun _ => 0)), (q44, zI K 2 (fun _ => 0)), (q53, zI K 140 (fun _ => 0)), (q62, zI K 140 (fun _ => 0)), (q71, zI K 140 (fun _ => 0)), (q80, zI K 140 (fun _ => 0)), (q89, zZ K 140 (fun _ => 0)), (q98, zI K 140 (fun _ => 0)), (q107, zI K 140 (fun _ => 0)), (q116, zI K 140 (fun _ => 0)), (q125, zI K 140 (fun _ => 0)), (q134, zI K 140 (fun _ => 0)), (q143, zI K 140 (fun _ => 0)), (q152, zI K 140 (fun _ => 0)), (q161, zI K 140 (fun _ => 0)), (q169, zI K 48 (fun _ => 0)), (q178, zI K 140 (fun _ => 0)), (q185, zI K 5 (fun _ => 0)), (q192, zI K 5 (fun _ => 0)), (q200, zI K 32 (fun _ => 0)), (q208, zI K 124 (fun _ => 0)), (q216, zJ K 124 (fun _ => 0)), (q225, zI K 480 (fun _ => 0)), (q233, zI K 8 (fun _ => 0)), (q241, zI K 8 (fun _ => 0)), (q249, zI K 8 (fun _ => 0)), (q258, zI K 240 (fun _ => 0)), (q266, zJ K 97 (fun _ => 0)), (q274, zI K 98 (fun _ => 0)), (q283, zI K 401 (fun _ => 0)), (q292, zI K 401 (fun _ => 0)), (q301, zI K 401 (fun _ => 0)), (q310, zI K 401 (fun _ => 0)), (q318, zI K 98 (fun _ => 0)), (q327, zI K 401 (fun _ => 0)), (q335, zI K 6 (fun _ => 0)), (q342, zI K 2 (fun _ => 0)), (q350, zI K 6 (fun _ => 0)), (q357, zI K 4 (fun _ => 0)), (q366, zI K 240 (fun _ => 0)), (q375, zI K 240 (fun _ => 0)), (q384, zI K 240 (fun _ => 0)), (q391, zI K 3 (fun _ => 0)), (q399, zI K 8 (fun _ => 0)), (q407, zI K 8 (fun _ => 0)), (q415, zI K 8 (fun _ => 0)), (q423, zI K 8 (fun _ => 0)), (q432, zI K 768 (fun _ => 0)), (q441, zI K 768 (fun _ => 0)), (q450, zZ K 768 (fun _ => 0)), (q459, zI K 6144 (fun _ => 0)), (q473, zI K 1280 (fun _ => 0)), (q482, zI K 1024 (fun _ => 0))] H locs := hw
  refine lv_aload_n hx hb zd_LassoFinderModel_init_487 rfl (lv_at hl 0 rfl) ?_
  refine lv_iconst (v := (-1)) hx hb zd_LassoFinderModel_init_488 (by decide) ?_
  refine z_put hx hb hts hown hK hw zZ12 0 rfl 82 (by decide) zm_431 rfl rfl rfl (Nat.le_of_ble_eq_true rfl) zd_LassoFinderModel_init_489 (fun H locs hw => ?_)
  refine lv_aload_n hx hb zd_LassoFinderModel_init_492 rfl (lv_at hl 0 rfl) ?_
  refine lv_bipush (v := 61) hx hb zd_LassoFinderModel_init_493 (by decide) ?_
  refine z_newI (N' := 61) hx hb (hts _ zm_238) hK hw hA (by decide) (by decide) (Nat.le_of_ble_eq_true rfl) (Nat.le_of_ble_eq_true rfl) (Nat.le_of_ble_eq_true rfl) zd_LassoFinderModel_init_495 (fun q495 H hw => ?_)
  refine z_putF hx hb hts hown hin hK hw zZ12 0 rfl 83 (by decide) zm_432 rfl rfl rfl rfl (Nat.le_of_ble_eq_true rfl) zd_LassoFinderModel_init_497 (fun H locs hw => ?_)
  exact z_vret (u := (fun k => ([q8, q21, q29, q37, q44, q53, q62, q71, q80, q89, q98, q107, q116, q125, q134, q143, q152, q161, q169, q178, q185, q192, q200, q208, q216, q225, q233, q241, q249, q258, q266, q274, q283, q292, q301, q310, q318, q327, q335, q342, q350, q357, q366, q375, q384, q391, q399, q407, q415, q423, q432, q441, q450, q459, q473, q482, q495] : List Nat).getD k 0)) hx hb hr hlocks hw [0, 1, 2, 3, 4, 5, 6, 7, 8, 9, 10, 11, 12, 13, 14, 15, 16, 17, 18, 19, 20, 21, 22, 23, 24, 25, 26, 27, 28, 29, 30, 31, 32, 33, 34, 35, 36, 37, 38, 39, 40, 41, 42, 43, 44, 45, 46, 47, 48, 49, 50, 51, 52, 53, 54, 55, 56, 57] rfl (by decide) trivial (Nat.le_of_ble_eq_true rfl) (Nat.le_of_ble_eq_true rfl) zd_LassoFinderModel_init_500
end
